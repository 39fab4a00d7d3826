/** What one call leaves behind is nothing to the next one: several texts, walks, pushes, laws of one object. */
public final class AgainTest {
    private static final Checks CHECKS = new Checks();

    public static void main(String[] args) {
        texts();
        cutTexts();
        laws();
        paths();
        images();
        undone();
        CHECKS.end("AgainTest");
    }

    private static void texts() {
        WardFalls x = new WardFalls();
        String full = "town 8 1;ward a right 7;ward b up 0;part a 0 0 5 0;seed 5;wall 7 0;stair 6 0;thing p 9 0 0;"
                + "law joy (1<2)+0<9;law push 3;";
        for (int i = 0; i < 4; i++) {
            CHECKS.due("3 all", Checks.load(x, full), 10);
            int[] counts = {8, 1, 2, 1, 8, 0, 0, 0, 0, 0, 0, 0, 1};
            for (int k = 0; k < counts.length; k++) {
                CHECKS.due("42 count(" + k + ")", x.count(k), counts[k]);
            }
            CHECKS.due("7 size", x.ward(0, 2), 6);
            CHECKS.due("9 joy", x.law(1, 0, 0), 1);
            CHECKS.due("9 push", x.law(0, 1, 3), 3);
            CHECKS.due("8 no steps", x.thing(0, 2), 0);
            CHECKS.due("8 no lines", x.thing(0, 3), 0);
            x.beats(9);
            CHECKS.due("8 steps", x.thing(0, 2), 6);
            CHECKS.due("8 lines", x.thing(0, 3), 1);
            x.years(1);
            CHECKS.due("37 by the seed", x.voted(0, 0), firstOf("ward a up 0;ward b up 0;seed 5;"));
            Checks.load(x, "law joy ((1<2;");
            Checks.load(x, "law joy 1+(not");
            Checks.load(x, "law joy 1<2<");
        }
        for (int i = 0; i < 2; i++) {
            CHECKS.due("3 no lines", Checks.load(x, ""), 0);
            int[] counts = {4, 4, 0, 0, 0, 0, 0, 0, 0, 0, 0, 0, 0};
            for (int k = 0; k < counts.length; k++) {
                CHECKS.due("42 count(" + k + ")", x.count(k), counts[k]);
            }
            for (int cell = 0; cell < 16; cell++) {
                CHECKS.due("6 nobody's", x.cell(cell, 0), -1);
                CHECKS.due("6 no wall", x.cell(cell, 1), 0);
                CHECKS.due("6 no stair", x.cell(cell, 2), 0);
            }
            CHECKS.due("9 no push", x.law(0, 0, 1), Long.MIN_VALUE);
        }
        Checks.load(x, "ward a up 0;ward b up 0;");
        CHECKS.due("9 no joy", x.law(1, 0, 0), Long.MIN_VALUE);
        CHECKS.due("7 no size", x.ward(0, 2), 0);
        x.years(1);
        CHECKS.due("37 seed 0", x.voted(0, 0), 0);
        CHECKS.due("37 seed 0", x.voted(0, 0), firstOf("ward a up 0;ward b up 0;"));
        WardFalls none = Checks.town("ward a up 0;ward b up 0;ward c up 0;");
        WardFalls told = Checks.town("ward a up 0;ward b up 0;ward c up 0;seed 0;");
        none.years(20);
        told.years(20);
        for (int i = 0; i < 20; i++) {
            CHECKS.due("37 seed 0 is that without", none.voted(i, 0), told.voted(i, 0));
            CHECKS.due("37 seed 0 is that without", none.voted(i, 1), told.voted(i, 1));
        }
    }

    private static int firstOf(String text) {
        WardFalls x = Checks.town(text);
        x.years(1);
        return x.voted(0, 0);
    }

    /** Only the first n bytes are the TEXT, even in the middle of a word. */
    private static void cutTexts() {
        cut("law joy year;", 11, 1, 8);
        cut("wall 0 12;", 8, 1, 8);
        cut("law joy 1<=2;", 10, 1, 10);
        cut("wall 0 0;wall 1 0;", 9, 0, -1);
        cut(" ".repeat(699) + "!", 700, 1, 699);
        cut(" ".repeat(691) + "wall 1 1;", 700, 0, -1);
    }

    private static void cut(String text, int n, int fault, int place) {
        WardFalls x = new WardFalls();
        Checks.feed(x, text);
        CHECKS.due("3 cut " + text.trim(), x.text(n), fault == 0 ? 1 : -1);
        CHECKS.due("4 cut " + text.trim(), x.fault(0), fault);
        CHECKS.due("4 cut " + text.trim(), x.fault(1), place);
    }

    private static void laws() {
        WardFalls x = Checks.town("town 3 1;ward a right 5;ward b right 6;part a 0 0 1 0;part b 2 0 2 0;thing p 4 0 0;"
                + "law push against*100+rich;law joy against+cross*10;");
        CHECKS.due("9 against, rich of the first ward", x.law(0, 1, 3), 105);
        CHECKS.due("9 no against of joy", x.law(1, 0, 0), 0);
        CHECKS.due("9 p crosses", x.law(1, 1, 0), 10);
        x.net(0, true);
        CHECKS.due("9 p does not cross", x.law(1, 1, 0), 0);
        CHECKS.due("9 nor here", x.law(1, 0, 0), 0);
        WardFalls y = Checks.town("ward a up 0;ward b up 0;");
        CHECKS.due("28 asked first", y.stay(7), 7);
        CHECKS.due("29 asked first", Checks.town("ward a up 0;").treaty(1), 0);
        CHECKS.due("30 asked first", Checks.town("ward a up 0;").moves(3, 1), 3);
    }

    private static void paths() {
        WardFalls x = Checks.town("town 3 2;wall 1 0;wall 1 1;law push 7;");
        CHECKS.due("22 down", x.push(0, 3, 0), 7);
        CHECKS.due("22 it can't be", x.push(0, 2, 0), -2);
        CHECKS.due("23 it can't be", x.pushed(0, 2, 0), -2);
        CHECKS.due("22 up", x.push(3, 0, 0), 7);
        CHECKS.due("22 up by 1", new WardFalls().push(12, 0, 0), 3);
        // stairs at 0 and 5; 3 is of b, which goes down, 1 and 4 are nobody's
        WardFalls y = Checks.town("town 3 2;ward a left 0;ward b down 0;part a 0 0 0 0;part b 0 1 1 1;part a 2 1 2 1;"
                + "stair 2 1;");
        CHECKS.due("20 up over a line", y.walk(3, 0), -2);
        CHECKS.due("20 down over a line", y.walk(0, 3), -2);
        CHECKS.due("20 onto a stair over a line", y.walk(3, 5), 2);
        CHECKS.due("21 onto a stair over a line", y.step(3, 5, 1), 4);
        CHECKS.due("20 from a stair over a line", y.walk(5, 4), 1);
        CHECKS.due("20 none behind some", y.walk(0, 5), -2);
        y.push(3, 0, 0);
        CHECKS.due("20 a push between", y.walk(3, 0), -2);
    }

    private static void images() {
        WardFalls x = Checks.town("town 2 1;ward a right 0;ward b left 0;part a 0 0 0 0;part b 1 0 1 0;thing p 4 0 0;"
                + "seed 3;");
        x.beats(5);
        x.years(1);
        int[] voted = {x.voted(0, 0), x.voted(0, 1), x.voted(0, 2)};
        x.keep();
        Checks.load(x, "wall 9 9;");
        x.beats(20);
        CHECKS.due("41 back", x.back(), 1);
        CHECKS.due("8 lines", x.thing(0, 3), 5);
        CHECKS.due("8 steps", x.thing(0, 2), 5);
        for (int i = 0; i < 3; i++) {
            CHECKS.due("37 what was voted ahead of the image", x.voted(0, i), voted[i]);
        }
        WardFalls y = Checks.town("ward a up 0;ward b up 0;seed 3;");
        y.keep();
        y.years(5);
        int[] then = {y.voted(0, 0), y.voted(0, 1), y.voted(0, 2)};
        y.back();
        CHECKS.due("37 not gone by", y.voted(0, 0), -1);
        y.years(1);
        for (int i = 0; i < 3; i++) {
            CHECKS.due("37 gone by again", y.voted(0, i), then[i]);
        }
    }

    /** Each one undone is looked at: all twenty, wherever they were kept. */
    private static void undone() {
        WardFalls x = Checks.town("town 8 6;thing p 1 0 0;");
        for (int round = 0; round < 3; round++) {
            int start = x.thing(0, 0);
            int[] cells = new int[25];
            cells[0] = start;
            for (int i = 1; i < 25; i++) {
                cells[i] = (start + i) % 48;
                CHECKS.due("16 laid", x.lay(0, cells[i]), true);
            }
            for (int i = 23; i >= 4; i--) {
                CHECKS.due("39 undone", x.undo(), i - 4);
                CHECKS.due("8 as it was", x.thing(0, 0), cells[i]);
            }
            CHECKS.due("39 no more", x.undo(), -1);
        }
    }
}
