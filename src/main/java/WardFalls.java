import java.util.Arrays;
import java.util.NoSuchElementException;

/** A town of CELLS by WARDS, each with a DOWN of its own; ../shared/DOC.md says what every call answers. */
public final class WardFalls {
    public static final int NONE = -1;

    /** The other answer without a number: it goes ROUND, there is none, there are not so many. */
    private static final int LACKING = -2;
    private static final int MOST_BYTES = 700;
    private static final int MOST_CELLS = 48;
    private static final int MOST_WARDS = 4;
    private static final int MOST_PARTS = 12;
    private static final int MOST_WALLS = 12;
    private static final int MOST_STAIRS = 8;
    private static final int MOST_THINGS = 8;
    private static final int MOST_KNOTS = 64;
    private static final int MOST_OPEN = 8;
    private static final int MOST_BEATS = 200;
    private static final int MOST_YEARS = 99;
    private static final int MOST_NOTES = 24;
    private static final int MOST_UNDONE = 20;
    private static final int MOST_MOVES = 40;
    private static final int ALL_VOTES = 256;
    private static final int SIDES = 4;
    private static final int STILL = 4;
    private static final int NAMES = 7;
    private static final long ERROR = Long.MIN_VALUE;

    /** The words of the language; a word's kind of TOKEN is its number here. */
    private static final String WORDS = "town ward part wall stair thing seed law up right down left still push joy or and not rich size here worth cross against year ";
    private static final int TOWN = 0;
    private static final int WARD = 1;
    private static final int PART = 2;
    private static final int WALL = 3;
    private static final int STAIR = 4;
    private static final int THING = 5;
    private static final int SEED = 6;
    private static final int LAW = 7;
    private static final int UP = 8;
    private static final int PUSH = 13;
    private static final int JOY = 14;
    private static final int OR = 15;
    private static final int AND = 16;
    private static final int NOT = 17;
    private static final int RICH = 18;
    private static final int SIZE = 19;
    private static final int HERE = 20;
    private static final int WORTH = 21;
    private static final int CROSS = 22;
    private static final int AGAINST = 23;
    private static final int YEAR = 24;
    private static final int NAME = 30;
    private static final int NUMBER = 31;
    private static final int END = 32;
    private static final int BAD = 33;
    private static final int SEMICOLON = 40;
    private static final int OPEN = 41;
    private static final int CLOSE = 42;
    private static final int PLUS = 43;
    private static final int MINUS = 44;
    private static final int TIMES = 45;
    private static final int BY = 46;
    private static final int LESS = 47;
    private static final int AT_MOST = 48;
    private static final int ALIKE = 49;
    private static final int UNLIKE = 50;
    private static final int AT_LEAST = 51;
    private static final int MORE = 52;

    /** How strongly a sign binds: the comparisons stand between NOT and PLUS. */
    private static final int COMPARING = 4;

    private final int[] tape = new int[MOST_BYTES];
    private int tapeLength;
    private int faultKind;
    private int faultPlace = NONE;
    private Town town = new Town();
    private Town spare = new Town();
    private final Tokens tokens = new Tokens();
    private final Reader reader = new Reader();
    private final Scene scene = new Scene();
    private final Scene trial = new Scene();
    private final Scene imageScene = new Scene();
    private final Chronicle chronicle = new Chronicle();
    private final Chronicle imageChronicle = new Chronicle();
    private boolean hasImage;
    private final Past past = new Past();
    private final Notes notes = new Notes();
    private final Laws laws = new Laws();
    private final Paths paths = new Paths();
    private final Trail trail = new Trail();

    public WardFalls() {
        town.clear();
        town.settle();
        startAnew();
    }

    public int feed(int a, int b, int c, int d, int e) {
        if (tapeLength + 20 > MOST_BYTES) {
            return NONE;
        }
        feedFour(a);
        feedFour(b);
        feedFour(c);
        feedFour(d);
        feedFour(e);
        return tapeLength;
    }

    public int text(int n) {
        if (n < 0 || n > tapeLength) {
            return LACKING;
        }
        tokens.scan(tape, n);
        tapeLength = 0;
        spare.clear();
        int lines = reader.read(tokens, spare);
        faultKind = reader.fault;
        faultPlace = reader.place;
        if (lines < 0) {
            return NONE;
        }
        Town read = spare;
        spare = town;
        town = read;
        startAnew();
        return lines;
    }

    public int fault(int what) {
        switch (what) {
            case 0:
                return faultKind;
            case 1:
                return faultPlace;
            default:
                return NONE;
        }
    }

    public int named(int what, int letters) {
        switch (what) {
            case 0:
                return indexOf(town.wardNames, town.wards, letters);
            case 1:
                return indexOf(town.thingNames, town.things, letters);
            default:
                return NONE;
        }
    }

    public int cell(int cell, int what) throws IndexOutOfBoundsException, NoSuchElementException {
        if (!town.hasCell(cell)) {
            throw new IndexOutOfBoundsException("no such cell");
        }
        switch (what) {
            case 0:
                return town.ownerOf(cell);
            case 1:
                return bitOf(scene.walls, cell);
            case 2:
                return bitOf(town.stairs, cell);
            case 3:
                return bitOf(scene.nets, cell);
            case 4:
                return bitOf(scene.water, cell);
            case 5:
                return scene.thingIn(town, cell);
            case 6:
                return scene.nextOf(town, cell);
            case 7:
                return scene.standsIn(town, cell) ? 1 : 0;
            default:
                throw new NoSuchElementException("no such what");
        }
    }

    public int ward(int ward, int what) {
        if (!town.hasWard(ward)) {
            return NONE;
        }
        switch (what) {
            case 0:
                return look(scene.downs, ward);
            case 1:
                return look(town.riches, ward);
            case 2:
                return look(town.sizes, ward);
            case 3:
                laws.measure(town, scene);
                return laws.joyOf(town, ward, chronicle.year);
            default:
                return NONE;
        }
    }

    public int thing(int thing, int what) {
        if (!town.hasThing(thing)) {
            return NONE;
        }
        switch (what) {
            case 0:
                return look(scene.at, thing);
            case 1:
                return look(town.worths, thing);
            case 2:
                return look(scene.steps, thing);
            case 3:
                return look(scene.lines, thing);
            default:
                return NONE;
        }
    }

    public long law(int what, int which, int down) {
        if (what == 0) {
            return laws.pushFrom(town, scene, which, down, chronicle.year);
        }
        if (what != 1 || !town.hasWard(which)) {
            return ERROR;
        }
        laws.measure(town, scene);
        return laws.joyTold(town, which, chronicle.year);
    }

    public int rest(int cell) {
        if (!isFree(cell)) {
            return NONE;
        }
        trail.follow(town, scene, cell);
        return trail.end();
    }

    public int way(int cell, int k) {
        if (!isFree(cell) || k < 0) {
            return NONE;
        }
        trail.follow(town, scene, cell);
        return trail.cellAt(k);
    }

    public int falls(int cell, int what) {
        if (!isFree(cell)) {
            return NONE;
        }
        trail.follow(town, scene, cell);
        switch (what) {
            case 0:
                return trail.ahead;
            case 1:
                return trail.round;
            case 2:
                return trail.round > 0 ? LACKING : trail.lines;
            default:
                return NONE;
        }
    }

    public int beats(int n) {
        if (n < 0 || n > MOST_BEATS) {
            return NONE;
        }
        int gone = 0;
        for (int i = 0; i < n; i++) {
            gone += scene.beat(town, true);
        }
        if (n > 0) {
            chronicle.beats += n;
            past.clear();
            laws.votesTried = false;
        }
        return gone;
    }

    public boolean vote(int ward, int down) {
        if (!town.hasWard(ward) || !isDown(down) || look(scene.downs, ward) == down) {
            return false;
        }
        past.remember(scene);
        put(scene.downs, ward, down);
        scene.pourAnew(town);
        return true;
    }

    public boolean net(int cell, boolean is) {
        if (!isFree(cell) || (bitOf(scene.nets, cell) == 1) == is) {
            return false;
        }
        past.remember(scene);
        scene.nets ^= 1L << cell;
        laws.votesTried = false;
        return true;
    }

    public boolean lay(int thing, int cell) {
        if (!town.hasThing(thing) || !isFree(cell) || scene.thingIn(town, cell) >= 0) {
            return false;
        }
        past.remember(scene);
        put(scene.at, thing, cell);
        laws.votesTried = false;
        return true;
    }

    public int pour(int cell, int n) {
        if (!isFree(cell) || n < 1 || n > 99) {
            return NONE;
        }
        trial.copy(scene);
        int stay = 0;
        for (int i = 0; i < n; i++) {
            if (trial.pourOne(town, cell)) {
                stay++;
            }
        }
        if (stay > 0) {
            past.remember(scene);
            scene.water = trial.water;
        }
        return stay;
    }

    public int drain() {
        int much = Long.bitCount(scene.water);
        if (much > 0) {
            past.remember(scene);
            scene.water = 0;
        }
        return much;
    }

    public long flood(int ward, int down) {
        if (!town.hasWard(ward) || !isDown(down)) {
            return NONE;
        }
        trial.copy(scene);
        put(trial.downs, ward, down);
        trial.pourAnew(town);
        return trial.water;
    }

    public int walk(int from, int to) {
        if (!canWalk(from, to)) {
            return NONE;
        }
        paths.walkTo(town, scene, from, to);
        return paths.length == 0 ? LACKING : paths.length - 1;
    }

    public int step(int from, int to, int k) {
        if (!canWalk(from, to) || k < 0) {
            return NONE;
        }
        paths.walkTo(town, scene, from, to);
        return paths.cellAt(k);
    }

    public int push(int from, int to, int what) {
        if (!isFree(from) || !isFree(to) || what < 0 || what > 1) {
            return NONE;
        }
        findPushed(from, to);
        if (paths.length == 0) {
            return LACKING;
        }
        return what == 0 ? paths.sum : paths.length - 1;
    }

    public int pushed(int from, int to, int k) {
        if (!isFree(from) || !isFree(to) || k < 0) {
            return NONE;
        }
        findPushed(from, to);
        return paths.cellAt(k);
    }

    public int war(int ward, int other) {
        if (!town.hasWard(ward) || !town.hasWard(other) || ward == other) {
            return NONE;
        }
        int much = 0;
        for (int i = 0; i < town.cells; i++) {
            if (town.ownerOf(i) == ward && bitOf(scene.walls, i) == 0) {
                trail.follow(town, scene, i);
                if (trail.firstOther(town) == other) {
                    much++;
                }
            }
        }
        return much;
    }

    public long nets() {
        long bits = 0;
        for (int i = 0; i < town.cells; i++) {
            int next = bitOf(scene.walls, i) == 1 ? NONE : scene.nextOf(town, i);
            // A CELL that crosses with its own STEP is kept from it by its own NET alone.
            if (next >= 0 && town.isLine(i, next)) {
                bits |= 1L << i;
            }
        }
        return bits;
    }

    public int clock(int what) {
        if (what < 0 || what > 3) {
            return NONE;
        }
        trial.copy(scene);
        trail.findClock(town, trial);
        switch (what) {
            case 0:
                return trail.clockLength;
            case 1:
                return trail.clockWard;
            case 2:
                return trail.clockDown;
            default:
                return trail.clockCell;
        }
    }

    public int stays() {
        laws.tryVotes(town, scene, trial, chronicle.year);
        int much = 0;
        for (int i = 0; i < laws.allVotes; i++) {
            if (laws.isStay(i)) {
                much++;
            }
        }
        return much;
    }

    public int stay(int k) {
        if (k < 0) {
            return NONE;
        }
        laws.tryVotes(town, scene, trial, chronicle.year);
        int left = k;
        for (int i = 0; i < laws.allVotes; i++) {
            if (laws.isStay(i)) {
                if (left == 0) {
                    return i;
                }
                left--;
            }
        }
        return LACKING;
    }

    public int treaty(int what) {
        if (what < 0 || what > 1) {
            return NONE;
        }
        laws.tryVotes(town, scene, trial, chronicle.year);
        laws.measure(town, scene);
        int best = LACKING;
        int bestSum = LACKING;
        for (int i = 0; i < laws.allVotes; i++) {
            int sum = laws.isStay(i) ? treatySum(i) : LACKING;
            if (sum > bestSum) {
                best = i;
                bestSum = sum;
            }
        }
        return what == 0 ? bestSum : best;
    }

    public int moves(int votes, int what) {
        if (votes < 0 || votes >= 1 << 2 * town.wards || what < 0 || what > 1) {
            return NONE;
        }
        laws.tryVotes(town, scene, trial, chronicle.year);
        int now = votes;
        for (int i = 0; i <= MOST_MOVES; i++) {
            int then = laws.moved(now);
            if (then == now) {
                return what == 0 ? i : now;
            }
            now = then;
        }
        return LACKING;
    }

    public int note(int from, int to) {
        if (!isFree(from) || to != NONE && !isFree(to)) {
            return NONE;
        }
        return notes.add(from, to, NONE);
    }

    public int strike(int note) {
        if (note < 0 || note >= notes.much) {
            return NONE;
        }
        return notes.add(NONE, NONE, note);
    }

    public boolean known(int n) {
        if (n < NONE || n > notes.much) {
            return false;
        }
        notes.by = n;
        return true;
    }

    public int fits() {
        notes.findFits(town, scene, trial, trail);
        return notes.fitting;
    }

    public int may(int ward) {
        if (!town.hasWard(ward)) {
            return NONE;
        }
        notes.findFits(town, scene, trial, trail);
        return look(notes.fittingDowns, ward);
    }

    public int years(int n) {
        if (n < 0 || n > MOST_YEARS || chronicle.year + n > MOST_YEARS) {
            return NONE;
        }
        for (int i = 0; i < n; i++) {
            chronicle.goOn(town, scene);
        }
        if (n > 0) {
            past.clear();
            laws.votesTried = false;
        }
        return chronicle.year;
    }

    public int voted(int year, int what) {
        if (year < 0 || year >= chronicle.year) {
            return NONE;
        }
        switch (what) {
            case 0:
                return look(chronicle.wards, year);
            case 1:
                return look(chronicle.downs, year);
            case 2:
                return look(chronicle.downsAhead, year);
            default:
                return NONE;
        }
    }

    public int tried(int what, int i, int n) {
        if (n < 0 || n > MOST_BEATS || !canTry(what, i)) {
            return NONE;
        }
        trial.copy(scene);
        switch (what) {
            case 0:
                trial.nets = 0;
                break;
            case 2:
                trial.walls = 0;
                break;
            case 3:
                put(trial.downs, i, STILL);
                break;
            case 4:
                put(trial.at, i, NONE);
                break;
            default:
                break;
        }
        int gone = 0;
        for (int k = 0; k < n; k++) {
            gone += trial.beat(town, what != 1);
        }
        return gone;
    }

    public int undo() {
        if (!past.takeBack(scene)) {
            return NONE;
        }
        laws.votesTried = false;
        return past.much;
    }

    public int keep() {
        imageScene.copy(scene);
        imageChronicle.copy(chronicle);
        hasImage = true;
        return chronicle.year;
    }

    public int back() {
        if (!hasImage) {
            return NONE;
        }
        scene.copy(imageScene);
        chronicle.copy(imageChronicle);
        past.clear();
        laws.votesTried = false;
        return chronicle.year;
    }

    public int count(int what) {
        switch (what) {
            case 0:
                return town.wide;
            case 1:
                return town.high;
            case 2:
                return town.wards;
            case 3:
                return town.things;
            case 4:
                return town.knots;
            case 5:
                return chronicle.year;
            case 6:
                return chronicle.beats;
            case 7:
                return notes.much;
            case 8:
                return notes.knownBy();
            case 9:
                return past.much;
            case 10:
                return Long.bitCount(scene.water);
            case 11:
                return Long.bitCount(scene.nets);
            case 12:
                return scene.thingsToGo(town);
            default:
                return NONE;
        }
    }

    private void startAnew() {
        scene.begin(town);
        chronicle.begin(town);
        hasImage = false;
        past.clear();
        notes.clear();
        laws.votesTried = false;
    }

    private void feedFour(int number) {
        for (int shift = 24; shift >= 0; shift -= 8) {
            put(tape, tapeLength, number >>> shift & 255);
            tapeLength++;
        }
    }

    /** Whether it is a CELL and no WALL. */
    private boolean isFree(int cell) {
        return town.hasCell(cell) && bitOf(scene.walls, cell) == 0;
    }

    private boolean canWalk(int from, int to) {
        return town.hasCell(from) && town.hasCell(to)
                && scene.standsIn(town, from) && scene.standsIn(town, to);
    }

    private boolean canTry(int what, int i) {
        switch (what) {
            case 0:
            case 1:
            case 2:
                return i == 0;
            case 3:
                return town.hasWard(i);
            case 4:
                return town.hasThing(i);
            default:
                return false;
        }
    }

    private void findPushed(int from, int to) {
        laws.pushAll(town, scene, chronicle.year, paths.costs);
        paths.find(town, from, to);
    }

    /** All JOY by these VOTES; LACKING, if a WARD has less than the measured one. */
    private int treatySum(int by) {
        int sum = 0;
        for (int i = 0; i < town.wards; i++) {
            int joy = laws.joyBy(i, by);
            if (joy < laws.joyOf(town, i, chronicle.year)) {
                return LACKING;
            }
            sum += joy;
        }
        return sum;
    }

    private static boolean isDown(int down) {
        return down >= 0 && down <= STILL;
    }

    private static int bitOf(long bits, int i) {
        return (int) (bits >>> i & 1L);
    }

    /** What stands at i of a row; NONE beside it. */
    private static int look(int[] row, int i) {
        return i >= 0 && i < row.length ? row[i] : NONE;
    }

    private static void put(int[] row, int i, int value) {
        if (i >= 0 && i < row.length) {
            row[i] = value;
        }
    }

    private static int indexOf(int[] row, int length, int value) {
        for (int i = 0; i < length && i < row.length; i++) {
            if (row[i] == value) {
                return i;
            }
        }
        return NONE;
    }

    private static void copyRow(int[] from, int[] to) {
        System.arraycopy(from, 0, to, 0, Math.min(from.length, to.length));
    }

    /** The TOKENS of a TEXT, the last one END at its length. */
    private static final class Tokens {
        final int[] kinds = new int[MOST_BYTES + 1];
        final int[] values = new int[MOST_BYTES + 1];
        final int[] places = new int[MOST_BYTES + 1];
        int much;

        void scan(int[] bytes, int length) {
            much = 0;
            int at = 0;
            for (int i = 0; i < MOST_BYTES && at < length; i++) {
                int sign = look(bytes, at);
                if (sign == 10 || sign == 32) {
                    at++;
                } else if (isLetter(sign)) {
                    at = scanWord(bytes, at, length);
                } else if (isDigit(sign)) {
                    at = scanNumber(bytes, at, length);
                } else {
                    at = scanSign(sign, at + 1 < length ? look(bytes, at + 1) : NONE, at);
                }
            }
            add(END, 0, length);
        }

        private void add(int kind, int value, int place) {
            put(kinds, much, kind);
            put(values, much, value);
            put(places, much, place);
            much++;
        }

        private int scanWord(int[] bytes, int from, int length) {
            int letters = 0;
            int to = from;
            while (to < length && isLetter(look(bytes, to))) {
                if (to - from < 6) {
                    letters |= look(bytes, to) - 'a' + 1 << 5 * (5 - (to - from));
                }
                to++;
            }
            int word = wordOf(bytes, from, to - from);
            if (word >= 0) {
                add(word, 0, from);
            } else {
                add(to - from > 6 ? BAD : NAME, letters, from);
            }
            return to;
        }

        private int scanNumber(int[] bytes, int from, int length) {
            int value = 0;
            int to = from;
            while (to < length && isDigit(look(bytes, to))) {
                // Above every number that may be said it only has to stay above.
                value = Math.min(value * 10 + look(bytes, to) - '0', 1000000);
                to++;
            }
            add(NUMBER, value, from);
            return to;
        }

        private int scanSign(int sign, int behind, int at) {
            int kind = signOf(sign);
            if (kind == LESS && (behind == '=' || behind == '>')) {
                add(behind == '=' ? AT_MOST : UNLIKE, 0, at);
                return at + 2;
            }
            if (kind == MORE && behind == '=') {
                add(AT_LEAST, 0, at);
                return at + 2;
            }
            add(kind, 0, at);
            return at + 1;
        }

        private static int signOf(int sign) {
            switch (sign) {
                case ';':
                    return SEMICOLON;
                case '(':
                    return OPEN;
                case ')':
                    return CLOSE;
                case '+':
                    return PLUS;
                case '-':
                    return MINUS;
                case '*':
                    return TIMES;
                case '/':
                    return BY;
                case '<':
                    return LESS;
                case '=':
                    return ALIKE;
                case '>':
                    return MORE;
                default:
                    return BAD;
            }
        }

        private static boolean isLetter(int sign) {
            return sign >= 'a' && sign <= 'z';
        }

        private static boolean isDigit(int sign) {
            return sign >= '0' && sign <= '9';
        }

        private static int wordOf(int[] bytes, int from, int length) {
            int word = 0;
            int start = 0;
            for (int i = 0; i < WORDS.length(); i++) {
                if (WORDS.charAt(i) == ' ') {
                    if (i - start == length && isWord(start, bytes, from, length)) {
                        return word;
                    }
                    word++;
                    start = i + 1;
                }
            }
            return NONE;
        }

        private static boolean isWord(int start, int[] bytes, int from, int length) {
            for (int i = 0; i < length && start + i < WORDS.length(); i++) {
                if (WORDS.charAt(start + i) != look(bytes, from + i)) {
                    return false;
                }
            }
            return true;
        }
    }

    /** Reads LINES into a Town, up to the first FAULT. */
    private static final class Reader {
        Tokens tokens;
        /** The TOKEN that comes next, and where the one ahead of it stands. */
        int spot;
        int kind;
        int value;
        int placeHere;
        int placeAhead;
        int parts;
        boolean townTold;
        boolean seedTold;
        int fault;
        int place;

        /** How many LINES; NONE with a FAULT. */
        int read(Tokens all, Town town) {
            begin(all);
            int lines = 0;
            for (int i = 0; i < MOST_BYTES && kind != END; i++) {
                boolean good;
                switch (kind) {
                    case TOWN:
                        good = readTown(town);
                        break;
                    case WARD:
                        good = readWard(town);
                        break;
                    case PART:
                        good = readPart(town);
                        break;
                    case WALL:
                        good = readWall(town);
                        break;
                    case STAIR:
                        good = readStair(town);
                        break;
                    case THING:
                        good = readThing(town);
                        break;
                    case SEED:
                        good = readSeed(town);
                        break;
                    case LAW:
                        good = readLaw(town);
                        break;
                    default:
                        good = refuse(1, placeHere);
                }
                if (!good || !take(SEMICOLON)) {
                    return NONE;
                }
                lines++;
            }
            town.settle();
            return lines;
        }

        private void begin(Tokens all) {
            tokens = all;
            parts = 0;
            townTold = false;
            seedTold = false;
            fault = 0;
            place = NONE;
            placeHere = NONE;
            goTo(0);
        }

        private boolean readTown(Town town) {
            if (townTold) {
                return refuse(3, placeHere);
            }
            if (parts > 0 || town.walls != 0 || town.stairs != 0 || town.things > 0) {
                return refuse(4, placeHere);
            }
            townTold = true;
            goTo(spot + 1);
            int wide = takeNumber(1, 8);
            int high = wide < 0 ? NONE : takeNumber(1, 6);
            if (high < 0) {
                return false;
            }
            town.wide = wide;
            town.high = high;
            return true;
        }

        private boolean readWard(Town town) {
            if (town.wards >= MOST_WARDS) {
                return refuse(2, placeHere);
            }
            goTo(spot + 1);
            int name = takeNewName(town.wardNames, town.wards);
            if (name < 0) {
                return false;
            }
            int down = kind - UP;
            if (!isDown(down)) {
                return refuse(1, placeHere);
            }
            goTo(spot + 1);
            int rich = takeNumber(0, 99);
            if (rich < 0) {
                return false;
            }
            put(town.wardNames, town.wards, name);
            put(town.wardDowns, town.wards, down);
            put(town.riches, town.wards, rich);
            town.wards++;
            return true;
        }

        private boolean readPart(Town town) {
            if (parts >= MOST_PARTS) {
                return refuse(2, placeHere);
            }
            goTo(spot + 1);
            int name = value;
            if (!take(NAME)) {
                return false;
            }
            int ward = indexOf(town.wardNames, town.wards, name);
            if (ward < 0) {
                return refuse(4, placeAhead);
            }
            int left = takeNumber(0, town.wide - 1);
            int top = left < 0 ? NONE : takeNumber(0, town.high - 1);
            int right = top < 0 ? NONE : takeNumber(left, town.wide - 1);
            int bottom = right < 0 ? NONE : takeNumber(top, town.high - 1);
            if (bottom < 0) {
                return false;
            }
            for (int y = top; y <= bottom; y++) {
                for (int x = left; x <= right; x++) {
                    put(town.owners, y * town.wide + x, ward);
                }
            }
            parts++;
            return true;
        }

        private boolean readWall(Town town) {
            if (Long.bitCount(town.walls) >= MOST_WALLS) {
                return refuse(2, placeHere);
            }
            goTo(spot + 1);
            int cell = takeCell(town);
            if (cell < 0) {
                return false;
            }
            if (bitOf(town.walls, cell) == 1) {
                return refuse(3, placeAhead);
            }
            if (bitOf(town.stairs, cell) == 1 || indexOf(town.places, town.things, cell) >= 0) {
                return refuse(5, placeAhead);
            }
            town.walls |= 1L << cell;
            return true;
        }

        private boolean readStair(Town town) {
            if (Long.bitCount(town.stairs) >= MOST_STAIRS) {
                return refuse(2, placeHere);
            }
            goTo(spot + 1);
            int cell = takeCell(town);
            if (cell < 0) {
                return false;
            }
            if (bitOf(town.stairs, cell) == 1) {
                return refuse(3, placeAhead);
            }
            if (bitOf(town.walls, cell) == 1) {
                return refuse(5, placeAhead);
            }
            town.stairs |= 1L << cell;
            return true;
        }

        private boolean readThing(Town town) {
            if (town.things >= MOST_THINGS) {
                return refuse(2, placeHere);
            }
            goTo(spot + 1);
            int name = takeNewName(town.thingNames, town.things);
            int worth = name < 0 ? NONE : takeNumber(0, 99);
            int cell = worth < 0 ? NONE : takeCell(town);
            if (cell < 0) {
                return false;
            }
            if (bitOf(town.walls, cell) == 1 || indexOf(town.places, town.things, cell) >= 0) {
                return refuse(5, placeAhead);
            }
            put(town.thingNames, town.things, name);
            put(town.worths, town.things, worth);
            put(town.places, town.things, cell);
            town.things++;
            return true;
        }

        private boolean readSeed(Town town) {
            if (seedTold) {
                return refuse(3, placeHere);
            }
            seedTold = true;
            goTo(spot + 1);
            int seed = takeNumber(0, 99999);
            town.seed = seed;
            return seed >= 0;
        }

        private boolean readLaw(Town town) {
            goTo(spot + 1);
            if (kind != PUSH && kind != JOY) {
                return refuse(1, placeHere);
            }
            Formula formula = kind == PUSH ? town.push : town.joy;
            if (formula.told) {
                return refuse(3, placeHere);
            }
            int bad = tokens == null ? 1 : formula.read(tokens, spot + 1, town);
            goTo(formula.spot);
            return bad == 0 || refuse(bad, placeHere);
        }

        private void goTo(int i) {
            placeAhead = placeHere;
            spot = i;
            kind = tokens == null ? END : look(tokens.kinds, i);
            value = tokens == null ? 0 : look(tokens.values, i);
            placeHere = tokens == null ? NONE : look(tokens.places, i);
        }

        private boolean refuse(int why, int where) {
            fault = why;
            place = where;
            return false;
        }

        private boolean take(int due) {
            if (kind != due) {
                return refuse(1, placeHere);
            }
            goTo(spot + 1);
            return true;
        }

        /** NONE with a FAULT, as all that is taken. */
        private int takeNewName(int[] names, int much) {
            int name = value;
            if (!take(NAME)) {
                return NONE;
            }
            if (indexOf(names, much, name) >= 0) {
                refuse(3, placeAhead);
                return NONE;
            }
            return name;
        }

        private int takeNumber(int least, int most) {
            int number = value;
            if (kind == NUMBER && (number < least || number > most)) {
                refuse(2, placeHere);
                return NONE;
            }
            return take(NUMBER) ? number : NONE;
        }

        private int takeCell(Town town) {
            int x = takeNumber(0, town.wide - 1);
            int y = x < 0 ? NONE : takeNumber(0, town.high - 1);
            return y < 0 ? NONE : y * town.wide + x;
        }
    }

    /** An E: its KNOTS, each behind what it joins. */
    private static final class Formula {
        private static final long MOST = 1000000000000L;

        final int[] kinds = new int[MOST_KNOTS];
        final int[] numbers = new int[MOST_KNOTS];
        final long[] stack = new long[MOST_KNOTS];
        int length;
        boolean told;
        /** While it is read: the signs that wait till what they join is there. */
        final int[] waiting = new int[MOST_KNOTS + MOST_OPEN];
        int waits;
        int spot;
        int depth;
        /** By depth (bits): whether there is a comparison already. */
        int compared;
        boolean wantsPart;
        boolean mayNot;

        void clear() {
            length = 0;
            told = false;
        }

        /** The FAULT at the spot; 0, with the spot at the ';' behind the E. */
        int read(Tokens tokens, int from, Town town) {
            spot = from;
            waits = 0;
            depth = 0;
            compared = 0;
            wantsPart = true;
            mayNot = true;
            for (int i = 0; i <= MOST_BYTES; i++) {
                int kind = look(tokens.kinds, spot);
                if (kind == SEMICOLON && !wantsPart && depth == 0) {
                    release(1);
                    told = true;
                    return 0;
                }
                int bad = wantsPart ? readPart(kind, look(tokens.values, spot), town) : readSign(kind, town);
                if (bad != 0) {
                    return bad;
                }
                spot++;
            }
            return 1;
        }

        private int readPart(int kind, int value, Town town) {
            if (kind == OPEN) {
                if (depth >= MOST_OPEN) {
                    return 2;
                }
                depth++;
                compared &= ~(1 << depth);
                mayNot = true;
                await(OPEN);
                return 0;
            }
            boolean isNot = kind == NOT && mayNot;
            if (!isNot && kind != NUMBER && !isName(kind)) {
                return 1;
            }
            if (town.knots >= MOST_KNOTS || kind == NUMBER && value > 9999) {
                return 2;
            }
            town.knots++;
            if (isNot) {
                await(NOT);
            } else {
                add(kind, value);
                wantsPart = false;
            }
            return 0;
        }

        private int readSign(int kind, Town town) {
            if (kind == CLOSE) {
                if (depth == 0) {
                    return 1;
                }
                release(1);
                waits--;
                depth--;
                return 0;
            }
            int strength = strengthOf(kind);
            boolean compares = strength == COMPARING;
            if (strength == 0 || compares && bitOf(compared, depth) == 1) {
                return 1;
            }
            if (town.knots >= MOST_KNOTS) {
                return 2;
            }
            town.knots++;
            release(strength);
            await(kind);
            wantsPart = true;
            mayNot = strength < COMPARING;
            if (compares) {
                compared |= 1 << depth;
            } else if (mayNot) {
                compared &= ~(1 << depth);
            }
            return 0;
        }

        private void await(int sign) {
            put(waiting, waits, sign);
            waits++;
        }

        /** The signs that bind at least so strongly have both their sides: up to the last '('. */
        private void release(int strength) {
            while (waits > 0) {
                int sign = look(waiting, waits - 1);
                int binds = sign == NOT ? COMPARING - 1 : strengthOf(sign);
                if (binds < strength) {
                    return;
                }
                add(sign, 0);
                waits--;
            }
        }

        private void add(int kind, int number) {
            put(kinds, length, kind);
            put(numbers, length, number);
            length++;
        }

        private static boolean isName(int kind) {
            return kind >= RICH && kind <= YEAR;
        }

        /** 0: this can't stand between two parts. */
        private static int strengthOf(int sign) {
            switch (sign) {
                case OR:
                    return 1;
                case AND:
                    return 2;
                case LESS:
                case AT_MOST:
                case ALIKE:
                case UNLIKE:
                case AT_LEAST:
                case MORE:
                    return COMPARING;
                case PLUS:
                case MINUS:
                    return COMPARING + 1;
                case TIMES:
                case BY:
                    return COMPARING + 2;
                default:
                    return 0;
            }
        }

        /** Its value by those of the NAMES; ERROR, too, if it isn't told. */
        long value(long[] names) {
            int top = 0;
            for (int i = 0; i < length && told; i++) {
                int kind = look(kinds, i);
                if (kind == NUMBER || isName(kind)) {
                    if (top >= stack.length) {
                        return ERROR;
                    }
                    stack[top] = kind == NUMBER ? look(numbers, i) : valueOf(names, kind - RICH);
                    top++;
                } else if (top > 0 && top <= stack.length && kind == NOT) {
                    stack[top - 1] = asBit(stack[top - 1] == 0);
                } else if (top > 1 && top <= stack.length) {
                    long joined = join(kind, stack[top - 2], stack[top - 1]);
                    if (joined > MOST || joined < -MOST) {
                        return ERROR;
                    }
                    stack[top - 2] = joined;
                    top--;
                } else {
                    return ERROR;
                }
            }
            return top == 1 ? stack[0] : ERROR;
        }

        private static long valueOf(long[] names, int i) {
            return i >= 0 && i < names.length ? names[i] : 0;
        }

        private static long asBit(boolean is) {
            return is ? 1 : 0;
        }

        private static long join(int sign, long a, long b) {
            switch (sign) {
                case OR:
                    return asBit(a != 0 || b != 0);
                case AND:
                    return asBit(a != 0 && b != 0);
                case LESS:
                    return asBit(a < b);
                case AT_MOST:
                    return asBit(a <= b);
                case ALIKE:
                    return asBit(a == b);
                case UNLIKE:
                    return asBit(a != b);
                case AT_LEAST:
                    return asBit(a >= b);
                case MORE:
                    return asBit(a > b);
                case PLUS:
                    return a + b;
                case MINUS:
                    return a - b;
                case TIMES:
                    return product(a, b);
                default:
                    return b == 0 ? ERROR : a / b;
            }
        }

        /** Two values at the edge have a product beyond a long: it is looked at ahead. */
        private static long product(long a, long b) {
            if (a == 0 || b == 0) {
                return 0;
            }
            return Math.abs(b) > MOST / Math.abs(a) ? ERROR : a * b;
        }
    }

    /** What a TEXT tells. */
    private static final class Town {
        final int[] wardNames = new int[MOST_WARDS];
        final int[] wardDowns = new int[MOST_WARDS];
        final int[] riches = new int[MOST_WARDS];
        final int[] sizes = new int[MOST_WARDS];
        final int[] thingNames = new int[MOST_THINGS];
        final int[] worths = new int[MOST_THINGS];
        final int[] places = new int[MOST_THINGS];
        final int[] owners = new int[MOST_CELLS];
        final int[] besides = new int[MOST_CELLS * SIDES];
        final Formula push = new Formula();
        final Formula joy = new Formula();
        int wide;
        int high;
        int cells;
        int wards;
        int things;
        int knots;
        int seed;
        long walls;
        long stairs;

        void clear() {
            wide = 4;
            high = 4;
            wards = 0;
            things = 0;
            knots = 0;
            seed = 0;
            walls = 0;
            stairs = 0;
            push.clear();
            joy.clear();
            Arrays.fill(owners, NONE);
        }

        /** What follows from the LINES once all are read. */
        void settle() {
            cells = wide * high;
            Arrays.fill(sizes, 0);
            for (int y = 0; y < high; y++) {
                for (int x = 0; x < wide; x++) {
                    int cell = y * wide + x;
                    put(besides, cell * SIDES, y > 0 ? cell - wide : NONE);
                    put(besides, cell * SIDES + 1, x < wide - 1 ? cell + 1 : NONE);
                    put(besides, cell * SIDES + 2, y < high - 1 ? cell + wide : NONE);
                    put(besides, cell * SIDES + 3, x > 0 ? cell - 1 : NONE);
                    int owner = ownerOf(cell);
                    put(sizes, owner, look(sizes, owner) + 1);
                }
            }
        }

        boolean hasCell(int cell) {
            return cell >= 0 && cell < cells;
        }

        boolean hasWard(int ward) {
            return ward >= 0 && ward < wards;
        }

        boolean hasThing(int thing) {
            return thing >= 0 && thing < things;
        }

        int ownerOf(int cell) {
            return look(owners, cell);
        }

        boolean isLine(int from, int to) {
            return ownerOf(from) != ownerOf(to);
        }

        int beside(int cell, int down) {
            return hasCell(cell) && down >= 0 && down < SIDES ? look(besides, cell * SIDES + down) : NONE;
        }
    }

    /** What may be otherwise from call to call, so that it can be tried on a copy. */
    private static final class Scene {
        final int[] downs = new int[MOST_WARDS];
        /** NONE: that THING isn't there. */
        final int[] at = new int[MOST_THINGS];
        final int[] steps = new int[MOST_THINGS];
        final int[] lines = new int[MOST_THINGS];
        long walls;
        long nets;
        long water;

        void begin(Town town) {
            copyRow(town.wardDowns, downs);
            copyRow(town.places, at);
            Arrays.fill(steps, 0);
            Arrays.fill(lines, 0);
            walls = town.walls;
            nets = 0;
            water = 0;
        }

        void copy(Scene other) {
            copyRow(other.downs, downs);
            copyRow(other.at, at);
            copyRow(other.steps, steps);
            copyRow(other.lines, lines);
            walls = other.walls;
            nets = other.nets;
            water = other.water;
        }

        int downOf(Town town, int cell) {
            int owner = look(town.owners, cell);
            return owner < 0 ? STILL : look(downs, owner);
        }

        int nextOf(Town town, int cell) {
            if (bitOf(nets, cell) == 1) {
                return NONE;
            }
            int next = town.beside(cell, downOf(town, cell));
            return next < 0 || bitOf(walls, next) == 1 ? NONE : next;
        }

        int thingIn(Town town, int cell) {
            return indexOf(at, town.things, cell);
        }

        boolean standsIn(Town town, int cell) {
            if (bitOf(walls, cell) == 1) {
                return false;
            }
            int down = downOf(town, cell);
            if (bitOf(town.stairs, cell) == 1 || down == STILL) {
                return bitOf(town.stairs, cell) == 1;
            }
            int below = town.beside(cell, down);
            return below < 0 || bitOf(walls, below) == 1;
        }

        /** How many STEPS all THINGS go in one BEAT. */
        int beat(Town town, boolean inTheWay) {
            int gone = 0;
            for (int i = 0; i < town.things; i++) {
                int from = look(at, i);
                int next = from < 0 ? NONE : nextOf(town, from);
                if (next >= 0 && !(inTheWay && thingIn(town, next) >= 0)) {
                    put(at, i, next);
                    put(steps, i, look(steps, i) + 1);
                    put(lines, i, look(lines, i) + (town.isLine(from, next) ? 1 : 0));
                    gone++;
                }
            }
            return gone;
        }

        int thingsToGo(Town town) {
            int much = 0;
            for (int i = 0; i < town.things; i++) {
                if (nextOf(town, look(at, i)) >= 0) {
                    much++;
                }
            }
            return much;
        }

        /** Whether it stays. */
        boolean pourOne(Town town, int cell) {
            int here = cell;
            // More STEPS than there are CELLS: it goes ROUND.
            for (int i = 0; i <= MOST_CELLS; i++) {
                int next = nextOf(town, here);
                if (next < 0 || bitOf(water, next) == 1) {
                    boolean dry = bitOf(water, here) == 0;
                    water |= 1L << here;
                    return dry;
                }
                here = next;
            }
            return false;
        }

        /** A FLOOD. */
        void pourAnew(Town town) {
            long old = water;
            water = 0;
            for (int i = 0; i < town.cells; i++) {
                if (bitOf(old, i) == 1) {
                    pourOne(town, i);
                }
            }
        }
    }

    /** The years and what was voted in them. */
    private static final class Chronicle {
        final int[] wards = new int[MOST_YEARS];
        final int[] downs = new int[MOST_YEARS];
        final int[] downsAhead = new int[MOST_YEARS];
        int year;
        int beats;
        long lastNumber;

        void begin(Town town) {
            year = 0;
            beats = 0;
            lastNumber = town.seed;
        }

        void copy(Chronicle other) {
            copyRow(other.wards, wards);
            copyRow(other.downs, downs);
            copyRow(other.downsAhead, downsAhead);
            year = other.year;
            beats = other.beats;
            lastNumber = other.lastNumber;
        }

        void goOn(Town town, Scene scene) {
            int ward = LACKING;
            int down = LACKING;
            int ahead = LACKING;
            if (town.wards > 0) {
                ward = number() % town.wards;
                down = number() % 4;
                ahead = look(scene.downs, ward);
                put(scene.downs, ward, down);
                scene.pourAnew(town);
            }
            put(wards, year, ward);
            put(downs, year, down);
            put(downsAhead, year, ahead);
            year++;
        }

        private int number() {
            lastNumber = lastNumber * 1103515245L + 12345L & 0x7fffffffL;
            return (int) (lastNumber >>> 16);
        }
    }

    /** What can be undone: how all was ahead of each, round and round in one row. */
    private static final class Past {
        final Scene[] scenes = new Scene[MOST_UNDONE];
        int latest;
        int much;

        Past() {
            for (int i = 0; i < scenes.length; i++) {
                scenes[i] = new Scene();
            }
        }

        void clear() {
            much = 0;
        }

        void remember(Scene scene) {
            latest = latest + 1 < scenes.length ? latest + 1 : 0;
            if (latest >= 0 && latest < scenes.length && scenes[latest] != null) {
                scenes[latest].copy(scene);
            }
            much = Math.min(much + 1, MOST_UNDONE);
        }

        boolean takeBack(Scene scene) {
            if (much == 0) {
                return false;
            }
            if (latest >= 0 && latest < scenes.length && scenes[latest] != null) {
                scene.copy(scenes[latest]);
            }
            latest = latest > 0 ? latest - 1 : scenes.length - 1;
            much--;
            return true;
        }
    }

    /** A WAY, the latest that was followed; and the CLOCK, the latest that was found. */
    private static final class Trail {
        final int[] cells = new int[MOST_CELLS];
        int length;
        /** STEPS to where it RESTS or to where its ROUND begins. */
        int ahead;
        int round;
        int lines;
        int clockLength;
        int clockWard;
        int clockDown;
        int clockCell;

        void follow(Town town, Scene scene, int from) {
            length = 0;
            round = 0;
            lines = 0;
            long seen = 0;
            int here = from;
            for (int i = 0; i < MOST_CELLS; i++) {
                put(cells, i, here);
                length = i + 1;
                ahead = i;
                seen |= 1L << here;
                int next = scene.nextOf(town, here);
                if (next < 0) {
                    return;
                }
                if (town.isLine(here, next)) {
                    lines++;
                }
                if (bitOf(seen, next) == 1) {
                    ahead = indexOf(cells, length, next);
                    round = length - ahead;
                    return;
                }
                here = next;
            }
        }

        int end() {
            return round > 0 ? LACKING : look(cells, length - 1);
        }

        int cellAt(int k) {
            if (k < length) {
                return look(cells, k);
            }
            return round > 0 ? look(cells, ahead + (k - ahead) % round) : LACKING;
        }

        /** The WARD into which its first LINE leads; LACKING without one. */
        int firstOther(Town town) {
            for (int i = 1; i < length; i++) {
                int owner = town.ownerOf(look(cells, i));
                if (owner != town.ownerOf(look(cells, 0))) {
                    return owner;
                }
            }
            return LACKING;
        }

        /** Tries all on the scene, which is as it was then. */
        void findClock(Town town, Scene scene) {
            clockLength = 0;
            clockWard = NONE;
            clockDown = NONE;
            clockCell = NONE;
            tryClock(town, scene, NONE, NONE);
            for (int i = 0; i < town.wards; i++) {
                int now = look(scene.downs, i);
                for (int down = 0; down <= STILL; down++) {
                    put(scene.downs, i, down);
                    tryClock(town, scene, i, down);
                }
                put(scene.downs, i, now);
            }
        }

        private void tryClock(Town town, Scene scene, int ward, int down) {
            for (int i = 0; i < town.cells; i++) {
                if (bitOf(scene.walls, i) == 0) {
                    follow(town, scene, i);
                    // The CELLS of a ROUND are those that have nothing ahead of it: the least comes first.
                    if (ahead == 0 && round > clockLength) {
                        clockLength = round;
                        clockWard = ward;
                        clockDown = down;
                        clockCell = i;
                    }
                }
            }
        }
    }

    /** The NAMES and what the laws answer by them. */
    private static final class Laws {
        final long[] names = new long[NAMES];
        final int[] rests = new int[MOST_WARDS];
        final int[] worths = new int[MOST_WARDS];
        final int[] crossings = new int[MOST_WARDS];
        final Trail trail = new Trail();
        final int[] joys = new int[MOST_WARDS * ALL_VOTES];
        int wards;
        int allVotes;
        boolean votesTried;

        /** Where each THING comes to REST: joyOf and joyTold answer by that. */
        void measure(Town town, Scene scene) {
            Arrays.fill(rests, 0);
            Arrays.fill(worths, 0);
            Arrays.fill(crossings, 0);
            for (int i = 0; i < town.things; i++) {
                trail.follow(town, scene, look(scene.at, i));
                int ward = town.ownerOf(trail.end());
                put(rests, ward, look(rests, ward) + 1);
                put(worths, ward, look(worths, ward) + look(town.worths, i));
                put(crossings, ward, look(crossings, ward) + (trail.lines > 0 ? 1 : 0));
            }
        }

        /** E of joy. */
        long joyTold(Town town, int ward, int year) {
            name(RICH, look(town.riches, ward));
            name(SIZE, look(town.sizes, ward));
            name(HERE, look(rests, ward));
            name(WORTH, look(worths, ward));
            name(CROSS, look(crossings, ward));
            name(AGAINST, 0);
            name(YEAR, year);
            return town.joy.value(names);
        }

        int joyOf(Town town, int ward, int year) {
            long told = joyTold(town, ward, year);
            return told == ERROR ? look(worths, ward) : (int) Math.max(0, Math.min(9999, told));
        }

        /** E of push; ERROR, too, if there is nothing to push from or to. */
        long pushFrom(Town town, Scene scene, int cell, int down, int year) {
            int to = town.beside(cell, down);
            if (to < 0 || bitOf(scene.walls, cell) == 1 || bitOf(scene.walls, to) == 1) {
                return ERROR;
            }
            int ward = town.ownerOf(to);
            int thing = scene.thingIn(town, to);
            int own = scene.downOf(town, cell);
            name(RICH, ward < 0 ? 0 : look(town.riches, ward));
            name(SIZE, ward < 0 ? 0 : look(town.sizes, ward));
            name(HERE, thing < 0 ? 0 : 1);
            name(WORTH, thing < 0 ? 0 : look(town.worths, thing));
            name(CROSS, town.isLine(cell, to) ? 1 : 0);
            name(AGAINST, own != STILL && (own + 2) % SIDES == down ? 1 : 0);
            name(YEAR, year);
            return town.push.value(names);
        }

        /** What each STEP of a push takes; NONE: it can't be. */
        void pushAll(Town town, Scene scene, int year, int[] costs) {
            for (int cell = 0; cell < town.cells; cell++) {
                int next = scene.nextOf(town, cell);
                for (int down = 0; down < SIDES; down++) {
                    int to = town.beside(cell, down);
                    int cost = NONE;
                    if (to >= 0 && bitOf(scene.walls, cell) == 0 && bitOf(scene.walls, to) == 0) {
                        long told = to == next ? 0 : pushFrom(town, scene, cell, down, year);
                        cost = told == ERROR ? 1 : (int) Math.max(0, Math.min(999, told));
                    }
                    put(costs, cell * SIDES + down, cost);
                }
            }
        }

        /** All JOY by all VOTES, tried on a copy; it stands till something else than a DOWN is otherwise. */
        void tryVotes(Town town, Scene scene, Scene trial, int year) {
            if (votesTried) {
                return;
            }
            votesTried = true;
            trial.copy(scene);
            wards = town.wards;
            allVotes = 1 << 2 * wards;
            for (int by = 0; by < allVotes; by++) {
                for (int ward = 0; ward < wards; ward++) {
                    put(trial.downs, ward, by >> 2 * ward & 3);
                }
                measure(town, trial);
                for (int ward = 0; ward < wards; ward++) {
                    put(joys, ward * ALL_VOTES + by, joyOf(town, ward, year));
                }
            }
        }

        int joyBy(int ward, int by) {
            return look(joys, ward * ALL_VOTES + by);
        }

        boolean isStay(int by) {
            return moved(by) == by;
        }

        /** The VOTES behind one of the MOVES; the same ones, if there is none. */
        int moved(int by) {
            for (int ward = 0; ward < wards; ward++) {
                int best = by;
                for (int down = 0; down < SIDES; down++) {
                    int other = by & ~(3 << 2 * ward) | down << 2 * ward;
                    if (joyBy(ward, other) > joyBy(ward, best)) {
                        best = other;
                    }
                }
                if (best != by) {
                    return best;
                }
            }
            return by;
        }

        private void name(int name, long value) {
            int i = name - RICH;
            if (i >= 0 && i < names.length) {
                names[i] = value;
            }
        }
    }

    /** The best path to a CELL by what each STEP takes. */
    private static final class Paths {
        /** Above all STEPS of a path, so that the sum goes ahead of them in one number. */
        private static final int PER_COST = 64;

        final int[] costs = new int[MOST_CELLS * SIDES];
        final int[] left = new int[MOST_CELLS];
        final int[] cells = new int[MOST_CELLS];
        /** How many CELLS it has; 0: there is none. */
        int length;
        int sum;

        void walkTo(Town town, Scene scene, int from, int to) {
            for (int cell = 0; cell < town.cells; cell++) {
                for (int down = 0; down < SIDES; down++) {
                    boolean can = canStep(town, scene, cell, town.beside(cell, down));
                    put(costs, cell * SIDES + down, can ? 0 : NONE);
                }
            }
            find(town, from, to);
        }

        int cellAt(int k) {
            return k < length ? look(cells, k) : LACKING;
        }

        void find(Town town, int from, int to) {
            Arrays.fill(left, NONE);
            put(left, to, 0);
            boolean found = true;
            for (int i = 0; i < MOST_CELLS && found; i++) {
                found = spread(town);
            }
            length = 0;
            sum = look(left, from) / PER_COST;
            if (look(left, from) >= 0) {
                trace(town, from);
            }
        }

        private static boolean canStep(Town town, Scene scene, int from, int to) {
            if (to < 0 || !scene.standsIn(town, from) || !scene.standsIn(town, to)) {
                return false;
            }
            return !town.isLine(from, to) || bitOf(town.stairs, from) == 1 || bitOf(town.stairs, to) == 1;
        }

        /** What is left from a CELL on by its STEP to one side; NONE: that leads nowhere. */
        private int leftBy(Town town, int cell, int down) {
            int cost = look(costs, cell * SIDES + down);
            int rest = look(left, town.beside(cell, down));
            return cost < 0 || rest < 0 ? NONE : rest + cost * PER_COST + 1;
        }

        private boolean spread(Town town) {
            boolean found = false;
            for (int cell = 0; cell < town.cells; cell++) {
                for (int down = 0; down < SIDES; down++) {
                    int by = leftBy(town, cell, down);
                    int now = look(left, cell);
                    if (by >= 0 && (now < 0 || by < now)) {
                        put(left, cell, by);
                        found = true;
                    }
                }
            }
            return found;
        }

        private void trace(Town town, int from) {
            int here = from;
            for (int i = 0; i < MOST_CELLS; i++) {
                put(cells, i, here);
                length = i + 1;
                if (look(left, here) == 0) {
                    return;
                }
                int down = 0;
                while (down < SIDES - 1 && leftBy(town, here, down) != look(left, here)) {
                    down++;
                }
                here = town.beside(here, down);
            }
        }
    }

    /** NOTES with their STRIKES, and the FITS, the latest that were found. */
    private static final class Notes {
        final int[] froms = new int[MOST_NOTES];
        final int[] tos = new int[MOST_NOTES];
        /** The NOTE that is STRUCK by it; NONE: it is no STRIKE. */
        final int[] strikes = new int[MOST_NOTES];
        final int[] fittingDowns = new int[MOST_WARDS];
        int fitting;
        int much;
        /** By how many it is KNOWN; NONE: by all, also those to come. */
        int by;

        void clear() {
            much = 0;
            by = NONE;
        }

        int add(int from, int to, int struck) {
            if (much >= MOST_NOTES) {
                return NONE;
            }
            put(froms, much, from);
            put(tos, much, to);
            put(strikes, much, struck);
            much++;
            return much - 1;
        }

        int knownBy() {
            return by < 0 ? much : by;
        }

        /** Tries all DOWNS on a copy. */
        void findFits(Town town, Scene scene, Scene trial, Trail trail) {
            trial.copy(scene);
            int bits = knownBits();
            int all = 1;
            for (int i = 0; i < town.wards; i++) {
                all *= STILL + 1;
            }
            fitting = 0;
            Arrays.fill(fittingDowns, 0);
            for (int i = 0; i < all; i++) {
                setDowns(town, trial, i);
                if (areSo(bits, town, trial, trail)) {
                    fitting++;
                    for (int ward = 0; ward < town.wards; ward++) {
                        put(fittingDowns, ward, look(fittingDowns, ward) | 1 << look(trial.downs, ward));
                    }
                }
            }
        }

        private static void setDowns(Town town, Scene trial, int i) {
            int left = i;
            for (int ward = 0; ward < town.wards; ward++) {
                put(trial.downs, ward, left % (STILL + 1));
                left /= STILL + 1;
            }
        }

        private int knownBits() {
            int struck = 0;
            int bits = 0;
            for (int i = knownBy() - 1; i >= 0; i--) {
                if (bitOf(struck, i) == 0) {
                    int strikes = look(this.strikes, i);
                    if (strikes < 0) {
                        bits |= 1 << i;
                    } else {
                        struck |= 1 << strikes;
                    }
                }
            }
            return bits;
        }

        private boolean areSo(int bits, Town town, Scene trial, Trail trail) {
            for (int i = 0; i < much; i++) {
                if (bitOf(bits, i) == 1) {
                    trail.follow(town, trial, look(froms, i));
                    int to = look(tos, i);
                    if (trail.end() != (to < 0 ? LACKING : to)) {
                        return false;
                    }
                }
            }
            return true;
        }
    }
}
