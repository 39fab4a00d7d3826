import java.util.ArrayDeque;
import java.util.ArrayList;
import java.util.Collections;
import java.util.Deque;
import java.util.HashSet;
import java.util.List;
import java.util.NoSuchElementException;
import java.util.Set;

/**
 * The document told a second time, as plainly as the Java library lets it: no rows used again, no answers kept. Its
 * methods bear the names of the face, so that ModelTest can ask both.
 */
final class Model {
    private static final int[] DX = {0, 1, 0, -1};
    private static final int[] DY = {-1, 0, 1, 0};

    /** What calls change, and what an IMAGE keeps. */
    private static final class State {
        List<Integer> downs = new ArrayList<>();
        List<Integer> at = new ArrayList<>();
        List<Integer> steps = new ArrayList<>();
        List<Integer> lines = new ArrayList<>();
        Set<Integer> walls = new HashSet<>();
        Set<Integer> nets = new HashSet<>();
        Set<Integer> water = new HashSet<>();
        List<int[]> voted = new ArrayList<>();
        int beats;
        long number;

        State copy() {
            State copy = new State();
            copy.downs.addAll(downs);
            copy.at.addAll(at);
            copy.steps.addAll(steps);
            copy.lines.addAll(lines);
            copy.walls.addAll(walls);
            copy.nets.addAll(nets);
            copy.water.addAll(water);
            copy.voted.addAll(voted);
            copy.beats = beats;
            copy.number = number;
            return copy;
        }
    }

    private final StringBuilder tape = new StringBuilder();
    private int fault;
    private int place = -1;
    private ModelText town = new ModelText("");
    private State now = new State();
    private State image;
    private final Deque<State> past = new ArrayDeque<>();
    private final List<int[]> notes = new ArrayList<>();
    private int knownBy = -1;

    public int feed(int a, int b, int c, int d, int e) {
        if (tape.length() > 680) {
            return -1;
        }
        for (int number : new int[] {a, b, c, d, e}) {
            for (int i = 0; i < 4; i++) {
                tape.append((char) (number >> 24 - 8 * i & 255));
            }
        }
        return tape.length();
    }

    public int text(int n) {
        if (n < 0 || n > tape.length()) {
            return -2;
        }
        String text = tape.substring(0, n);
        tape.setLength(0);
        ModelText told;
        try {
            told = new ModelText(text);
        } catch (ModelText.Fault f) {
            fault = f.kind;
            place = f.place;
            return -1;
        }
        fault = 0;
        place = -1;
        town = told;
        now = new State();
        now.downs.addAll(told.downs);
        now.at.addAll(told.places);
        now.steps.addAll(Collections.nCopies(told.places.size(), 0));
        now.lines.addAll(Collections.nCopies(told.places.size(), 0));
        now.walls.addAll(told.walls);
        now.number = told.seed;
        image = null;
        past.clear();
        notes.clear();
        knownBy = -1;
        return told.lines;
    }

    public int fault(int what) {
        return what == 0 ? fault : what == 1 ? place : -1;
    }

    public int named(int what, int letters) {
        List<String> names = what == 0 ? town.wards : what == 1 ? town.things : List.of();
        for (String name : names) {
            int bits = 0;
            for (int i = 0; i < 6; i++) {
                bits = bits * 32 + (i < name.length() ? name.charAt(i) - 96 : 0);
            }
            if (bits == letters) {
                return names.indexOf(name);
            }
        }
        return -1;
    }

    public int cell(int cell, int what) {
        if (!isCell(cell)) {
            throw new IndexOutOfBoundsException();
        }
        switch (what) {
            case 0:
                return town.owners[cell];
            case 1:
                return now.walls.contains(cell) ? 1 : 0;
            case 2:
                return town.stairs.contains(cell) ? 1 : 0;
            case 3:
                return now.nets.contains(cell) ? 1 : 0;
            case 4:
                return now.water.contains(cell) ? 1 : 0;
            case 5:
                return now.at.indexOf(cell);
            case 6:
                return next(now, cell);
            case 7:
                return stands(cell) ? 1 : 0;
            default:
                throw new NoSuchElementException();
        }
    }

    public int ward(int ward, int what) {
        if (!isWard(ward) || what < 0 || what > 3) {
            return -1;
        }
        return what == 0 ? now.downs.get(ward) : what == 1 ? town.riches.get(ward)
                : what == 2 ? size(ward) : (int) joy(now, ward);
    }

    public int thing(int thing, int what) {
        if (!isThing(thing) || what < 0 || what > 3) {
            return -1;
        }
        return List.of(now.at, town.worths, now.steps, now.lines).get(what).get(thing);
    }

    public long law(int what, int which, int down) {
        if (what == 1 && isWard(which)) {
            return joyTold(now, which);
        }
        int to = what == 0 && isFree(which) && down >= 0 && down < 4 ? beside(which, down) : -1;
        return isFree(to) ? pushTold(which, to, down) : Long.MIN_VALUE;
    }

    public int rest(int cell) {
        if (!isFree(cell)) {
            return -1;
        }
        List<Integer> way = wayOf(now, cell);
        return roundOf(now, way) >= 0 ? -2 : last(way);
    }

    public int way(int cell, int k) {
        if (!isFree(cell) || k < 0) {
            return -1;
        }
        List<Integer> way = wayOf(now, cell);
        int begin = roundOf(now, way);
        if (k < way.size()) {
            return way.get(k);
        }
        return begin < 0 ? -2 : way.get(begin + (k - begin) % (way.size() - begin));
    }

    public int falls(int cell, int what) {
        if (!isFree(cell) || what < 0 || what > 2) {
            return -1;
        }
        List<Integer> way = wayOf(now, cell);
        int begin = roundOf(now, way);
        if (what == 0) {
            return begin < 0 ? way.size() - 1 : begin;
        }
        if (what == 1) {
            return begin < 0 ? 0 : way.size() - begin;
        }
        return begin < 0 ? linesOf(way) : -2;
    }

    public int beats(int n) {
        if (n < 0 || n > 200) {
            return -1;
        }
        int gone = 0;
        for (int i = 0; i < n; i++) {
            gone += beat(now, false);
            now.beats++;
            past.clear();
        }
        return gone;
    }

    public boolean vote(int ward, int down) {
        if (!isWard(ward) || down < 0 || down > 4 || now.downs.get(ward) == down) {
            return false;
        }
        remember();
        now.downs.set(ward, down);
        flood(now);
        return true;
    }

    public boolean net(int cell, boolean is) {
        if (!isFree(cell) || now.nets.contains(cell) == is) {
            return false;
        }
        remember();
        return is ? now.nets.add(cell) : now.nets.remove(cell);
    }

    public boolean lay(int thing, int cell) {
        if (!isThing(thing) || !isFree(cell) || now.at.contains(cell)) {
            return false;
        }
        remember();
        now.at.set(thing, cell);
        return true;
    }

    public int pour(int cell, int n) {
        if (!isFree(cell) || n < 1 || n > 99) {
            return -1;
        }
        State ahead = now.copy();
        int stay = 0;
        for (int i = 0; i < n; i++) {
            stay += pour(now, cell) ? 1 : 0;
        }
        if (stay > 0) {
            past.addLast(ahead);
            shorten();
        }
        return stay;
    }

    public int drain() {
        int much = now.water.size();
        if (much > 0) {
            remember();
            now.water.clear();
        }
        return much;
    }

    public long flood(int ward, int down) {
        if (!isWard(ward) || down < 0 || down > 4) {
            return -1;
        }
        State then = now.copy();
        then.downs.set(ward, down);
        flood(then);
        return bits(then.water);
    }

    public int walk(int from, int to) {
        if (!stands(from) || !stands(to)) {
            return -1;
        }
        Path path = path(from, to, false);
        return path == null ? -2 : path.steps.length();
    }

    public int step(int from, int to, int k) {
        if (!stands(from) || !stands(to) || k < 0) {
            return -1;
        }
        return cellOf(path(from, to, false), from, k);
    }

    public int push(int from, int to, int what) {
        if (!isFree(from) || !isFree(to) || what != 0 && what != 1) {
            return -1;
        }
        Path path = path(from, to, true);
        return path == null ? -2 : what == 0 ? path.sum : path.steps.length();
    }

    public int pushed(int from, int to, int k) {
        if (!isFree(from) || !isFree(to) || k < 0) {
            return -1;
        }
        return cellOf(path(from, to, true), from, k);
    }

    public int war(int ward, int other) {
        if (!isWard(ward) || !isWard(other) || ward == other) {
            return -1;
        }
        int much = 0;
        for (int cell = 0; cell < cells(); cell++) {
            if (town.owners[cell] == ward && isFree(cell)) {
                int into = ward;
                for (int on : wayOf(now, cell)) {
                    into = into == ward ? town.owners[on] : into;
                }
                much += into == other ? 1 : 0;
            }
        }
        return much;
    }

    public long nets() {
        Set<Integer> nets = new HashSet<>();
        for (int cell = 0; cell < cells(); cell++) {
            if (isFree(cell) && next(now, cell) >= 0 && isLine(cell, next(now, cell))) {
                nets.add(cell);
            }
        }
        return bits(nets);
    }

    public int clock(int what) {
        if (what < 0 || what > 3) {
            return -1;
        }
        int[] best = {0, -1, -1, -1};
        tryClock(now, -1, -1, best);
        for (int ward = 0; ward < town.wards.size(); ward++) {
            for (int down = 0; down < 5; down++) {
                State then = now.copy();
                then.downs.set(ward, down);
                tryClock(then, ward, down, best);
            }
        }
        return best[what];
    }

    public int stays() {
        return allStays().size();
    }

    public int stay(int k) {
        List<Integer> stays = k < 0 ? List.of() : allStays();
        return k < 0 ? -1 : k < stays.size() ? stays.get(k) : -2;
    }

    public int treaty(int what) {
        if (what != 0 && what != 1) {
            return -1;
        }
        long[][] joys = allJoys();
        int best = -2;
        long sum = -2;
        for (int votes : allStays()) {
            long all = 0;
            boolean less = false;
            for (int ward = 0; ward < town.wards.size(); ward++) {
                all += joys[votes][ward];
                less |= joys[votes][ward] < joy(now, ward);
            }
            if (!less && all > sum) {
                best = votes;
                sum = all;
            }
        }
        return what == 0 ? (int) sum : best;
    }

    public int moves(int votes, int what) {
        if (votes < 0 || votes >= Math.pow(4, town.wards.size()) || what != 0 && what != 1) {
            return -1;
        }
        long[][] joys = allJoys();
        int on = votes;
        for (int moves = 0; moves <= 40; moves++) {
            int then = move(joys, on);
            if (then < 0) {
                return what == 0 ? moves : on;
            }
            on = then;
        }
        return -2;
    }

    public int note(int from, int to) {
        if (!isFree(from) || to != -1 && !isFree(to) || notes.size() == 24) {
            return -1;
        }
        notes.add(new int[] {from, to});
        return notes.size() - 1;
    }

    public int strike(int note) {
        if (note < 0 || note >= notes.size() || notes.size() == 24) {
            return -1;
        }
        notes.add(new int[] {note});
        return notes.size() - 1;
    }

    public boolean known(int n) {
        if (n < -1 || n > notes.size()) {
            return false;
        }
        knownBy = n;
        return true;
    }

    public int fits() {
        return allFits().size();
    }

    public int may(int ward) {
        if (!isWard(ward)) {
            return -1;
        }
        Set<Integer> downs = new HashSet<>();
        for (State fit : allFits()) {
            downs.add(fit.downs.get(ward));
        }
        return (int) bits(downs);
    }

    public int years(int n) {
        if (n < 0 || n > 99 || now.voted.size() + n > 99) {
            return -1;
        }
        for (int i = 0; i < n; i++) {
            past.clear();
            if (town.wards.isEmpty()) {
                now.voted.add(new int[] {-2, -2, -2});
            } else {
                int ward = number() % town.wards.size();
                int down = number() % 4;
                now.voted.add(new int[] {ward, down, now.downs.get(ward)});
                now.downs.set(ward, down);
                flood(now);
            }
        }
        return now.voted.size();
    }

    public int voted(int year, int what) {
        return year < 0 || year >= now.voted.size() || what < 0 || what > 2 ? -1 : now.voted.get(year)[what];
    }

    public int tried(int what, int i, int n) {
        boolean is = what >= 0 && what <= 2 && i == 0 || what == 3 && isWard(i) || what == 4 && isThing(i);
        if (!is || n < 0 || n > 200) {
            return -1;
        }
        State then = now.copy();
        if (what == 0) {
            then.nets.clear();
        } else if (what == 2) {
            then.walls.clear();
        } else if (what == 3) {
            then.downs.set(i, 4);
        } else if (what == 4) {
            for (List<Integer> row : List.of(then.at, then.steps, then.lines)) {
                row.remove(i);
            }
        }
        int gone = 0;
        for (int k = 0; k < n; k++) {
            gone += beat(then, what == 1);
        }
        return gone;
    }

    public int undo() {
        if (past.isEmpty()) {
            return -1;
        }
        now = past.removeLast();
        return past.size();
    }

    public int keep() {
        image = now.copy();
        return now.voted.size();
    }

    public int back() {
        if (image == null) {
            return -1;
        }
        now = image.copy();
        past.clear();
        return now.voted.size();
    }

    public int count(int what) {
        int toGo = 0;
        for (int cell : now.at) {
            toGo += next(now, cell) >= 0 ? 1 : 0;
        }
        int[] counts = {town.wide, town.high, town.wards.size(), town.things.size(), town.knots, now.voted.size(),
            now.beats, notes.size(), knownBy < 0 ? notes.size() : knownBy, past.size(), now.water.size(),
            now.nets.size(), toGo};
        return what >= 0 && what < counts.length ? counts[what] : -1;
    }

    private int cells() {
        return town.wide * town.high;
    }

    private boolean isCell(int cell) {
        return cell >= 0 && cell < cells();
    }

    private boolean isFree(int cell) {
        return isCell(cell) && !now.walls.contains(cell);
    }

    private boolean isWard(int ward) {
        return ward >= 0 && ward < town.wards.size();
    }

    private boolean isThing(int thing) {
        return thing >= 0 && thing < town.things.size();
    }

    private int size(int ward) {
        int much = 0;
        for (int cell = 0; cell < cells(); cell++) {
            much += town.owners[cell] == ward ? 1 : 0;
        }
        return much;
    }

    private int beside(int cell, int down) {
        int x = cell % town.wide + DX[down];
        int y = cell / town.wide + DY[down];
        return x >= 0 && x < town.wide && y >= 0 && y < town.high ? y * town.wide + x : -1;
    }

    private int down(State s, int cell) {
        return town.owners[cell] < 0 ? 4 : s.downs.get(town.owners[cell]);
    }

    private int next(State s, int cell) {
        if (down(s, cell) == 4 || s.nets.contains(cell)) {
            return -1;
        }
        int next = beside(cell, down(s, cell));
        return s.walls.contains(next) ? -1 : next;
    }

    private boolean isLine(int from, int to) {
        return town.owners[from] != town.owners[to];
    }

    /** Each of its CELLS once. */
    private List<Integer> wayOf(State s, int from) {
        List<Integer> way = new ArrayList<>();
        for (int cell = from; cell >= 0 && !way.contains(cell); cell = next(s, cell)) {
            way.add(cell);
        }
        return way;
    }

    /** Where in it the ROUND begins; -1: it RESTS. */
    private int roundOf(State s, List<Integer> way) {
        return way.indexOf(next(s, last(way)));
    }

    private static int last(List<Integer> way) {
        return way.get(way.size() - 1);
    }

    private int linesOf(List<Integer> way) {
        int lines = 0;
        for (int i = 1; i < way.size(); i++) {
            lines += isLine(way.get(i - 1), way.get(i)) ? 1 : 0;
        }
        return lines;
    }

    private int beat(State s, boolean through) {
        int gone = 0;
        for (int i = 0; i < s.at.size(); i++) {
            int from = s.at.get(i);
            int to = next(s, from);
            if (to >= 0 && (through || !s.at.contains(to))) {
                s.at.set(i, to);
                s.steps.set(i, s.steps.get(i) + 1);
                s.lines.set(i, s.lines.get(i) + (isLine(from, to) ? 1 : 0));
                gone++;
            }
        }
        return gone;
    }

    private boolean pour(State s, int cell) {
        List<Integer> been = new ArrayList<>();
        int on = cell;
        while (next(s, on) >= 0 && !s.water.contains(next(s, on))) {
            if (been.contains(on)) {
                return false;
            }
            been.add(on);
            on = next(s, on);
        }
        return s.water.add(on);
    }

    private void flood(State s) {
        List<Integer> taken = new ArrayList<>(s.water);
        Collections.sort(taken);
        s.water.clear();
        for (int cell : taken) {
            pour(s, cell);
        }
    }

    private void remember() {
        past.addLast(now.copy());
        shorten();
    }

    private void shorten() {
        if (past.size() > 20) {
            past.removeFirst();
        }
    }

    private static long bits(Set<Integer> set) {
        long bits = 0;
        for (int i : set) {
            bits |= 1L << i;
        }
        return bits;
    }

    private int number() {
        now.number = (now.number * 1103515245L + 12345L) % 2147483648L;
        return (int) (now.number / 65536);
    }

    private boolean stands(int cell) {
        if (!isFree(cell)) {
            return false;
        }
        if (town.stairs.contains(cell)) {
            return true;
        }
        return down(now, cell) < 4 && !isFree(beside(cell, down(now, cell)));
    }

    private long joyTold(State s, int ward) {
        long here = 0;
        long worth = 0;
        long cross = 0;
        for (int i = 0; i < s.at.size(); i++) {
            List<Integer> way = wayOf(s, s.at.get(i));
            if (roundOf(s, way) < 0 && town.owners[last(way)] == ward) {
                here++;
                worth += town.worths.get(i);
                cross += linesOf(way) > 0 ? 1 : 0;
            }
        }
        return ModelText.value(town.joy, town.riches.get(ward), size(ward), here, worth, cross, 0, s.voted.size());
    }

    private long joy(State s, int ward) {
        long told = joyTold(s, ward);
        if (told == Long.MIN_VALUE) {
            long worth = 0;
            for (int i = 0; i < s.at.size(); i++) {
                List<Integer> way = wayOf(s, s.at.get(i));
                worth += roundOf(s, way) < 0 && town.owners[last(way)] == ward ? town.worths.get(i) : 0;
            }
            return worth;
        }
        return told < 0 ? 0 : told > 9999 ? 9999 : told;
    }

    private long pushTold(int from, int to, int down) {
        int ward = town.owners[to];
        int thing = now.at.indexOf(to);
        boolean against = down(now, from) < 4 && beside(to, down(now, from)) == from;
        return ModelText.value(town.push, ward < 0 ? 0 : town.riches.get(ward), ward < 0 ? 0 : size(ward),
                thing < 0 ? 0 : 1, thing < 0 ? 0 : town.worths.get(thing), isLine(from, to) ? 1 : 0,
                against ? 1 : 0, now.voted.size());
    }

    /** STEPS as DOWNS, one behind another. */
    private static final class Path {
        final int sum;
        final String steps;

        Path(int sum, String steps) {
            this.sum = sum;
            this.steps = steps;
        }

        boolean isBetter(Path other) {
            if (other == null || sum != other.sum) {
                return other == null || sum < other.sum;
            }
            if (steps.length() != other.steps.length()) {
                return steps.length() < other.steps.length();
            }
            return steps.compareTo(other.steps) < 0;
        }
    }

    private Path path(int from, int to, boolean pushed) {
        Path[] paths = new Path[cells()];
        paths[from] = new Path(0, "");
        boolean found = true;
        while (found) {
            found = false;
            for (int cell = 0; cell < cells(); cell++) {
                for (int down = 0; down < 4 && paths[cell] != null; down++) {
                    int side = beside(cell, down);
                    int cost = side < 0 ? -1 : pushed ? pushCost(cell, side, down) : walkCost(cell, side);
                    if (cost >= 0) {
                        Path path = new Path(paths[cell].sum + cost, paths[cell].steps + down);
                        if (path.isBetter(paths[side])) {
                            paths[side] = path;
                            found = true;
                        }
                    }
                }
            }
        }
        return paths[to];
    }

    private int walkCost(int from, int to) {
        boolean stair = town.stairs.contains(from) || town.stairs.contains(to);
        return stands(from) && stands(to) && (stair || !isLine(from, to)) ? 0 : -1;
    }

    private int pushCost(int from, int to, int down) {
        if (!isFree(to)) {
            return -1;
        }
        if (next(now, from) == to) {
            return 0;
        }
        long told = pushTold(from, to, down);
        return told == Long.MIN_VALUE ? 1 : told < 0 ? 0 : told > 999 ? 999 : (int) told;
    }

    private int cellOf(Path path, int from, int k) {
        if (path == null || k > path.steps.length()) {
            return -2;
        }
        int cell = from;
        for (int i = 0; i < k; i++) {
            cell = beside(cell, path.steps.charAt(i) - '0');
        }
        return cell;
    }

    private void tryClock(State s, int ward, int down, int[] best) {
        int longest = 0;
        int least = -1;
        for (int cell = 0; cell < cells(); cell++) {
            List<Integer> way = isFree(cell) ? wayOf(s, cell) : List.of();
            if (!way.isEmpty() && roundOf(s, way) >= 0) {
                List<Integer> round = way.subList(roundOf(s, way), way.size());
                int first = Collections.min(round);
                if (round.size() > longest || round.size() == longest && first < least) {
                    longest = round.size();
                    least = first;
                }
            }
        }
        if (longest > best[0]) {
            best[0] = longest;
            best[1] = ward;
            best[2] = down;
            best[3] = least;
        }
    }

    private long[][] allJoys() {
        int wards = town.wards.size();
        long[][] joys = new long[(int) Math.pow(4, wards)][wards];
        for (int votes = 0; votes < joys.length; votes++) {
            State s = now.copy();
            for (int ward = 0; ward < wards; ward++) {
                s.downs.set(ward, downIn(votes, ward));
            }
            for (int ward = 0; ward < wards; ward++) {
                joys[votes][ward] = joy(s, ward);
            }
        }
        return joys;
    }

    private static int downIn(int votes, int ward) {
        return votes / (int) Math.pow(4, ward) % 4;
    }

    private static int with(int votes, int ward, int down) {
        return votes + (down - downIn(votes, ward)) * (int) Math.pow(4, ward);
    }

    private List<Integer> allStays() {
        List<Integer> stays = new ArrayList<>();
        long[][] joys = allJoys();
        for (int votes = 0; votes < joys.length; votes++) {
            boolean stay = true;
            for (int ward = 0; ward < town.wards.size(); ward++) {
                for (int down = 0; down < 4; down++) {
                    stay &= joys[with(votes, ward, down)][ward] <= joys[votes][ward];
                }
            }
            if (stay) {
                stays.add(votes);
            }
        }
        return stays;
    }

    /** VOTES behind one of the MOVES; -1: there is none. */
    private int move(long[][] joys, int votes) {
        for (int ward = 0; ward < town.wards.size(); ward++) {
            long most = joys[votes][ward];
            for (int down = 0; down < 4; down++) {
                most = Math.max(most, joys[with(votes, ward, down)][ward]);
            }
            for (int down = 0; down < 4 && most > joys[votes][ward]; down++) {
                if (joys[with(votes, ward, down)][ward] == most) {
                    return with(votes, ward, down);
                }
            }
        }
        return -1;
    }

    private boolean isStruck(int note, int by) {
        for (int i = note + 1; i < by; i++) {
            if (notes.get(i).length == 1 && notes.get(i)[0] == note && !isStruck(i, by)) {
                return true;
            }
        }
        return false;
    }

    private List<State> allFits() {
        int by = knownBy < 0 ? notes.size() : knownBy;
        List<int[]> known = new ArrayList<>();
        for (int i = 0; i < by; i++) {
            if (notes.get(i).length == 2 && !isStruck(i, by)) {
                known.add(notes.get(i));
            }
        }
        List<State> fits = new ArrayList<>();
        for (int i = 0; i < Math.pow(5, town.wards.size()); i++) {
            State s = now.copy();
            for (int ward = 0; ward < town.wards.size(); ward++) {
                s.downs.set(ward, i / (int) Math.pow(5, ward) % 5);
            }
            boolean so = true;
            for (int[] note : known) {
                List<Integer> way = wayOf(s, note[0]);
                boolean round = roundOf(s, way) >= 0;
                so &= note[1] < 0 ? round : !round && last(way) == note[1];
            }
            if (so) {
                fits.add(s);
            }
        }
        return fits;
    }
}
