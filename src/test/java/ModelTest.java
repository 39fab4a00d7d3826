import java.lang.reflect.InvocationTargetException;
import java.lang.reflect.Method;
import java.util.ArrayList;
import java.util.HashMap;
import java.util.HashSet;
import java.util.List;
import java.util.Map;
import java.util.NoSuchElementException;
import java.util.Set;

/** Runs of random calls over random towns, each answer compared with the Model's; how many runs may be told. */
public final class ModelTest {
    private static final Checks CHECKS = new Checks();
    private static final int RUNS = 150;

    /** Each call's arguments: c a CELL, w a WARD, t a THING, d a DOWN, l letters, other letters as in argument(). */
    private static final String[] CALLS = {
        "fault q", "named ql", "cell cq", "cell cq", "ward wq", "ward wq", "thing tq", "law qad", "law qad", "rest c",
        "way ck", "way ck", "falls cq", "beats b", "beats b", "vote wd", "vote wd", "vote wd", "net cx", "net cx",
        "lay tc", "lay tc", "pour cp", "pour cp", "pour cp", "drain ", "flood wd", "flood wd", "walk cc", "walk ss",
        "step ssk", "push ccq", "push ccq", "pushed cck", "war ww", "nets ", "clock q", "clock q", "stays ", "stay k",
        "treaty q", "treaty q", "moves vq", "moves vq", "note cr", "note cr", "note ce", "strike n", "strike n",
        "known n", "fits ", "may w", "years y", "voted yq", "tried qib", "tried qib", "undo ", "undo ", "undo ",
        "keep ", "back ", "count q", "count q",
    };
    private static final String[] NAMES = {"a", "b", "ab", "zz", "abcdef", "q", "towns", "u"};
    private static final String[] E_NAMES = {"rich", "size", "here", "worth", "cross", "against", "year"};
    private static final String[] SIGNS = {
        "+", "-", "*", "/", "+", "-", "*", "<", "<=", "=", "<>", ">=", ">", " and ", " or ",
    };
    private static final String[] BITS = {
        ";", " ", "\n", "(", ")", "<", "=", ">", "+", "-", "*", "/", "0", "7", "99", "100", "9999", "10000", "town ",
        "ward ", "part ", "wall ", "stair ", "thing ", "seed ", "law ", "up ", "still ", "push ", "joy ", "not ",
        "and ", "or ", "rich", "against", "abcdefg", "a", "#", "A", "\t", "town 2 2;", "seed 3;", "wall 0 0;",
        "law joy 1;", "stair 0 0;",
    };

    private final Map<String, Method> face = new HashMap<>();
    private final Map<String, Method> told = new HashMap<>();
    private long number;
    private WardFalls x;
    private Model model;
    private int cells;

    public static void main(String[] args) throws ReflectiveOperationException {
        int runs = args.length > 0 ? Integer.parseInt(args[0]) : RUNS;
        ModelTest test = new ModelTest(args.length > 1 ? Long.parseLong(args[1]) : 5);
        for (int i = 0; i < runs; i++) {
            test.run(i);
        }
        CHECKS.end("ModelTest");
    }

    private ModelTest(long seed) {
        number = seed;
        for (Method method : WardFalls.class.getDeclaredMethods()) {
            face.put(method.getName(), method);
        }
        for (Method method : Model.class.getDeclaredMethods()) {
            if (java.lang.reflect.Modifier.isPublic(method.getModifiers())) {
                told.put(method.getName(), method);
            }
        }
    }

    private void run(int run) throws ReflectiveOperationException {
        x = new WardFalls();
        model = new Model();
        String text = "";
        int begun = 0;
        for (int i = 0; i < 400; i++) {
            if (i == begun) {
                text = text();
                load("run " + run, text);
                begun = i + 1 + next(400);
            }
            String[] call = CALLS[next(CALLS.length)].split(" ", -1);
            Object[] arguments = new Object[call[1].length()];
            StringBuilder name = new StringBuilder("run ").append(run).append(" of ").append(text).append(": ")
                    .append(call[0]);
            for (int k = 0; k < arguments.length; k++) {
                arguments[k] = argument(call[1].charAt(k));
                name.append(' ').append(arguments[k]);
            }
            CHECKS.due(name.toString(), answer(face, x, call[0], arguments), answer(told, model, call[0], arguments));
        }
    }

    private void load(String run, String text) {
        // One that is too long is cut by the TAPE.
        for (int from = 0; from < text.length(); from += 20) {
            int[] fours = new int[5];
            for (int i = 0; i < 20; i++) {
                int sign = from + i < text.length() ? text.charAt(from + i) : 32 + next(200);
                fours[i / 4] = fours[i / 4] << 8 | sign;
            }
            CHECKS.due(run + " feed", x.feed(fours[0], fours[1], fours[2], fours[3], fours[4]),
                    model.feed(fours[0], fours[1], fours[2], fours[3], fours[4]));
        }
        int n = text.length() + (next(10) == 0 ? next(40) - 20 : 0);
        CHECKS.due(run + " text of " + text, x.text(n), model.text(n));
        for (int what = 0; what < 2; what++) {
            CHECKS.due(run + " fault of " + text, x.fault(what), model.fault(what));
        }
        cells = x.count(0) * x.count(1);
    }

    private static long answer(Map<String, Method> methods, Object of, String name, Object[] arguments)
            throws ReflectiveOperationException {
        try {
            Object answer = methods.get(name).invoke(of, arguments);
            return answer instanceof Boolean ? ((Boolean) answer ? 1 : 0) : ((Number) answer).longValue();
        } catch (InvocationTargetException e) {
            if (e.getCause() instanceof IndexOutOfBoundsException) {
                return -77;
            }
            if (e.getCause() instanceof NoSuchElementException) {
                return -78;
            }
            throw e;
        }
    }

    private Object argument(char kind) {
        if (kind == 'x') {
            return next(3) > 0;
        }
        if (next(40) == 0) {
            return new int[] {-2, -1, 99, 200, 201, 255, 256, Integer.MAX_VALUE, Integer.MIN_VALUE}[next(9)];
        }
        switch (kind) {
            case 'c':
                return next(cells);
            case 'a':
                return next(next(2) == 0 ? 4 : cells);
            case 's':
                return standing();
            case 'r':
                return Math.max(-1, x.rest(next(cells)));
            case 'e':
                return next(cells + 1) - 1;
            case 'w':
            case 'i':
                return next(next(4) == 0 ? 5 : Math.max(1, x.count(2)));
            case 't':
                return next(next(4) == 0 ? 9 : Math.max(1, x.count(3)));
            case 'd':
                return next(5);
            case 'q':
                return next(3) == 0 ? next(14) - 1 : next(4);
            case 'k':
                return next(next(3) == 0 ? 300 : 12) - (next(9) == 0 ? 1 : 0);
            case 'b':
                return next(3) == 0 ? next(201) : next(5);
            case 'p':
                return next(3) == 0 ? next(101) : next(5);
            case 'v':
                return next(1 << 2 * x.count(2)) + (next(9) == 0 ? 1 : 0);
            case 'n':
                return next(x.count(7) + 2) - 1;
            case 'y':
                return next(next(3) == 0 ? 100 : 4);
            case 'l':
                return letters(NAMES[next(NAMES.length)]);
            default:
                throw new IllegalStateException();
        }
    }

    /** A CELL that one STANDS in, if it finds one. */
    private int standing() {
        int cell = next(cells);
        for (int i = 0; i < 9 && x.cell(cell, 7) == 0; i++) {
            cell = next(cells);
        }
        return cell;
    }

    private static int letters(String name) {
        int letters = 0;
        for (int i = 0; i < 6; i++) {
            letters = letters << 5 | (i < name.length() ? name.charAt(i) - 'a' + 1 : 0);
        }
        return letters;
    }

    private String text() {
        String good = good();
        for (int i = 0; i < 20 && isFaulty(good); i++) {
            good = good();
        }
        if (next(3) > 0) {
            return good;
        }
        StringBuilder text = new StringBuilder(good);
        for (int i = 0; i <= next(3); i++) {
            int from = next(text.length() + 1);
            int to = Math.min(text.length(), from + next(3));
            text.replace(from, to, next(4) == 0 ? "" : BITS[next(BITS.length)]);
        }
        return text.toString();
    }

    private static boolean isFaulty(String text) {
        try {
            return text.length() > 700 || new ModelText(text).lines < 0;
        } catch (ModelText.Fault e) {
            return true;
        }
    }

    /** Mostly one without a FAULT. */
    private String good() {
        int wide = 1 + next(8);
        int high = 1 + next(6);
        StringBuilder text = new StringBuilder();
        text.append("town ").append(wide).append(' ').append(high).append(';');
        int wards = next(8) == 0 ? next(5) : 2 + next(3);
        for (int i = 0; i < wards; i++) {
            text.append("ward ").append(NAMES[i]).append(' ')
                    .append(new String[] {"up", "right", "down", "left", "still"}[next(9) / 2]).append(' ')
                    .append(next(100)).append(';');
        }
        for (int i = 0; i < (wards == 0 ? 0 : 1 + next(12)); i++) {
            int left = i == 0 ? 0 : next(wide);
            int top = i == 0 ? 0 : next(high);
            text.append("part ").append(NAMES[next(wards)]).append(' ').append(left).append(' ').append(top)
                    .append(' ').append(left + next(wide - left)).append(' ').append(top + next(high - top))
                    .append(';');
        }
        Set<Integer> taken = new HashSet<>();
        places(text, "wall", next(next(3) == 0 ? 13 : 3), wide, high, taken);
        places(text, "stair", next(next(3) == 0 ? 9 : 4), wide, high, taken);
        places(text, "thing", next(9), wide, high, taken);
        if (next(3) > 0) {
            text.append("law joy ").append(formula(0)).append(';');
        }
        if (next(3) > 0) {
            text.append("law push ").append(formula(0)).append(';');
        }
        if (next(2) == 0) {
            text.append("seed ").append(next(100000)).append(';');
        }
        return text.toString();
    }

    private void places(StringBuilder text, String word, int much, int wide, int high, Set<Integer> taken) {
        for (int i = 0; i < much; i++) {
            int x = next(wide);
            int y = next(high);
            if (taken.add(y * wide + x)) {
                text.append(word).append(' ');
                if (word.equals("thing")) {
                    text.append(NAMES[NAMES.length - 1 - i % 8]).append(' ').append(next(100)).append(' ');
                }
                text.append(x).append(' ').append(y).append(';');
            }
        }
    }

    private String formula(int depth) {
        int kind = next(depth > 3 ? 4 : 10);
        if (kind < 3) {
            return E_NAMES[next(E_NAMES.length)];
        }
        if (kind == 3) {
            return String.valueOf(next(3) == 0 ? next(10000) : next(10));
        }
        if (kind == 4) {
            return next(2) == 0 ? "(not " + formula(depth + 1) + ")" : "not " + formula(depth + 1);
        }
        if (kind == 5) {
            return "(" + formula(depth + 1) + ")";
        }
        String sign = SIGNS[next(SIGNS.length)];
        if (next(2) == 0) {
            return "(" + formula(depth + 1) + ")" + sign + "(" + formula(depth + 1) + ")";
        }
        return formula(depth + 1) + sign + formula(depth + 1);
    }

    private int next(int bound) {
        number = number * 6364136223846793005L + 1442695040888963407L;
        return (int) ((number >>> 33) % bound);
    }
}
