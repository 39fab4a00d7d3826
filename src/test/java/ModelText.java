import java.util.ArrayList;
import java.util.HashSet;
import java.util.List;
import java.util.Set;

/** A TEXT for the Model: read by descent, the first FAULT thrown. */
final class ModelText {
    /** The first FAULT along the text. */
    static final class Fault extends RuntimeException {
        private static final long serialVersionUID = 1L;
        final int kind;
        final int place;

        Fault(int kind, int place) {
            this.kind = kind;
            this.place = place;
        }
    }

    /** A part of an E. */
    private interface Part {
        long value(long[] names);
    }

    private static final List<String> NAMES = List.of("rich", "size", "here", "worth", "cross", "against", "year");
    private static final List<String> DOWNS = List.of("up", "right", "down", "left", "still");
    private static final List<String> COMPARISONS = List.of("<", "<=", "=", "<>", ">=", ">");
    private static final Set<String> OTHERS = Set.of("town", "ward", "part", "wall", "stair", "thing", "seed", "law",
            "push", "joy", "or", "and", "not");
    private static final long MOST = 1000000000000L;

    int wide = 4;
    int high = 4;
    int lines;
    int knots;
    int seed;
    final List<String> wards = new ArrayList<>();
    final List<Integer> downs = new ArrayList<>();
    final List<Integer> riches = new ArrayList<>();
    final List<String> things = new ArrayList<>();
    final List<Integer> worths = new ArrayList<>();
    final List<Integer> places = new ArrayList<>();
    final int[] owners = new int[48];
    final Set<Integer> walls = new HashSet<>();
    final Set<Integer> stairs = new HashSet<>();
    Part push;
    Part joy;

    private final String text;
    private final Set<String> told = new HashSet<>();
    private int parts;
    private int end;
    private int at;
    private String token;
    private int depth;

    ModelText(String text) {
        this.text = text;
        java.util.Arrays.fill(owners, -1);
        goOn();
        while (!token.isEmpty()) {
            readLine();
            expect(token.equals(";"));
            goOn();
            lines++;
        }
    }

    /** Long.MIN_VALUE: an ERROR, or no such law. */
    static long value(Part law, long... names) {
        if (law == null) {
            return Long.MIN_VALUE;
        }
        try {
            return law.value(names);
        } catch (ArithmeticException e) {
            return Long.MIN_VALUE;
        }
    }

    private void goOn() {
        at = end;
        while (at < text.length() && (text.charAt(at) == ' ' || text.charAt(at) == '\n')) {
            at++;
        }
        end = at;
        if (at == text.length()) {
            token = "";
            return;
        }
        String rest = text.substring(at);
        if (rest.matches("(?s)[a-z].*")) {
            token = rest.replaceFirst("(?s)[^a-z].*", "");
        } else if (rest.matches("(?s)[0-9].*")) {
            token = rest.replaceFirst("(?s)[^0-9].*", "");
        } else if (rest.startsWith("<=") || rest.startsWith("<>") || rest.startsWith(">=")) {
            token = rest.substring(0, 2);
        } else {
            token = rest.substring(0, 1);
        }
        end = at + token.length();
    }

    private void expect(boolean is) {
        if (!is) {
            throw new Fault(1, at);
        }
    }

    private void refuse(int kind, boolean is) {
        if (is) {
            throw new Fault(kind, at);
        }
    }

    private int number(int least, int most) {
        expect(token.matches("[0-9]+"));
        String digits = token.replaceFirst("^0+(?=.)", "");
        refuse(2, digits.length() > 6 || Integer.parseInt(digits) < least || Integer.parseInt(digits) > most);
        goOn();
        return Integer.parseInt(digits);
    }

    private void expectName() {
        expect(token.matches("[a-z]{1,6}") && !NAMES.contains(token) && !DOWNS.contains(token)
                && !OTHERS.contains(token));
    }

    private String newName(List<String> names) {
        expectName();
        refuse(3, names.contains(token));
        String name = token;
        goOn();
        return name;
    }

    private void readLine() {
        switch (token) {
            case "town":
                readTown();
                break;
            case "ward":
                readWard();
                break;
            case "part":
                readPart();
                break;
            case "wall":
                refuse(2, walls.size() == 12);
                goOn();
                walls.add(cell(walls, stairs, places));
                break;
            case "stair":
                refuse(2, stairs.size() == 8);
                goOn();
                stairs.add(cell(stairs, walls, List.of()));
                break;
            case "thing":
                refuse(2, things.size() == 8);
                goOn();
                String name = newName(things);
                int worth = number(0, 99);
                places.add(cell(Set.of(), walls, places));
                things.add(name);
                worths.add(worth);
                break;
            case "seed":
                refuse(3, !told.add("seed"));
                goOn();
                seed = number(0, 99999);
                break;
            case "law":
                readLaw();
                break;
            default:
                expect(false);
        }
    }

    private void readTown() {
        refuse(3, !told.add("town"));
        refuse(4, parts > 0 || !walls.isEmpty() || !stairs.isEmpty() || !things.isEmpty());
        goOn();
        wide = number(1, 8);
        high = number(1, 6);
    }

    private void readWard() {
        refuse(2, wards.size() == 4);
        goOn();
        String name = newName(wards);
        expect(DOWNS.contains(token));
        int down = DOWNS.indexOf(token);
        goOn();
        riches.add(number(0, 99));
        wards.add(name);
        downs.add(down);
    }

    private void readPart() {
        refuse(2, parts == 12);
        goOn();
        expectName();
        refuse(4, !wards.contains(token));
        int ward = wards.indexOf(token);
        goOn();
        int left = number(0, wide - 1);
        int top = number(0, high - 1);
        int right = number(left, wide - 1);
        int bottom = number(top, high - 1);
        for (int cell = 0; cell < wide * high; cell++) {
            int x = cell % wide;
            int y = cell / wide;
            if (x >= left && x <= right && y >= top && y <= bottom) {
                owners[cell] = ward;
            }
        }
        parts++;
    }

    private int cell(Set<Integer> alike, Set<Integer> unlike, List<Integer> alsoUnlike) {
        int x = number(0, wide - 1);
        int place = at;
        int cell = number(0, high - 1) * wide + x;
        if (alike.contains(cell)) {
            throw new Fault(3, place);
        }
        if (unlike.contains(cell) || alsoUnlike.contains(cell)) {
            throw new Fault(5, place);
        }
        return cell;
    }

    private void readLaw() {
        goOn();
        boolean isPush = token.equals("push");
        expect(isPush || token.equals("joy"));
        refuse(3, !told.add(token));
        goOn();
        Part law = readOr();
        if (isPush) {
            push = law;
        } else {
            joy = law;
        }
    }

    private void knot() {
        refuse(2, knots == 64);
        knots++;
        goOn();
    }

    private Part readOr() {
        Part left = readAnd();
        while (token.equals("or")) {
            knot();
            left = joined("or", left, readAnd());
        }
        return left;
    }

    private Part readAnd() {
        Part left = readNot();
        while (token.equals("and")) {
            knot();
            left = joined("and", left, readNot());
        }
        return left;
    }

    private Part readNot() {
        if (token.equals("not")) {
            knot();
            Part part = readNot();
            return names -> part.value(names) == 0 ? 1 : 0;
        }
        Part left = readSum();
        if (COMPARISONS.contains(token)) {
            String sign = token;
            knot();
            left = joined(sign, left, readSum());
        }
        return left;
    }

    private Part readSum() {
        Part left = readProduct();
        while (token.equals("+") || token.equals("-")) {
            String sign = token;
            knot();
            left = joined(sign, left, readProduct());
        }
        return left;
    }

    private Part readProduct() {
        Part left = readLast();
        while (token.equals("*") || token.equals("/")) {
            String sign = token;
            knot();
            left = joined(sign, left, readLast());
        }
        return left;
    }

    private Part readLast() {
        if (token.equals("(")) {
            refuse(2, depth == 8);
            depth++;
            goOn();
            Part inside = readOr();
            expect(token.equals(")"));
            depth--;
            goOn();
            return inside;
        }
        if (NAMES.contains(token)) {
            int name = NAMES.indexOf(token);
            knot();
            return names -> names[name];
        }
        expect(token.matches("[0-9]+"));
        refuse(2, knots == 64);
        knots++;
        int number = number(0, 9999);
        return names -> number;
    }

    private static Part joined(String sign, Part left, Part right) {
        return names -> {
            long a = left.value(names);
            long b = right.value(names);
            long value = join(sign, a, b);
            if (value > MOST || value < -MOST) {
                throw new ArithmeticException();
            }
            return value;
        };
    }

    private static long join(String sign, long a, long b) {
        switch (sign) {
            case "or":
                return a != 0 || b != 0 ? 1 : 0;
            case "and":
                return a != 0 && b != 0 ? 1 : 0;
            case "+":
                return a + b;
            case "-":
                return a - b;
            case "*":
                return Math.multiplyExact(a, b);
            case "/":
                return a / b;
            default:
                int c = Long.compare(a, b);
                return sign.contains(c < 0 ? "<" : c > 0 ? ">" : "=") ? 1 : 0;
        }
    }
}
