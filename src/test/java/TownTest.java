import java.util.NoSuchElementException;

/** Promises 6 to 12: cells, wards, things, laws, ways. */
public final class TownTest {
    private static final Checks CHECKS = new Checks();
    private static final long NO_LAW = Long.MIN_VALUE;

    /*
     * Cells   0  1  2  3     wards  a a b b     a goes right, b left, c down; 7 is a wall, 9 a stair,
     *         4  5  6  7            a a . b     10 and 11 are nobody's, 6 too
     *         8  9 10 11            c c . .
     */
    private static final String TOWN = "town 4 3;ward a right 5;ward b left 9;ward c down 1;part a 0 0 1 1;"
            + "part b 2 0 3 1;part c 0 2 1 2;ward d still 3;part d 2 1 2 1;wall 3 1;stair 1 2;"
            + "thing cup 7 0 0;thing hat 3 3 0;thing pot 90 1 1;";

    public static void main(String[] args) {
        cells();
        cellThrows();
        walls();
        wards();
        things();
        joyLaws();
        pushLaws();
        values();
        ways();
        rounds();
        CHECKS.end("TownTest");
    }

    private static void cells() {
        WardFalls x = Checks.town(TOWN);
        int[] owners = {0, 0, 1, 1, 0, 0, 3, 1, 2, 2, -1, -1};
        int[] nexts = {1, 2, 1, 2, 5, 6, -1, 6, -1, -1, -1, -1};
        int[] stands = {0, 0, 0, 0, 0, 0, 0, 0, 1, 1, 0, 0};
        int[] things = {0, -1, -1, 1, -1, 2, -1, -1, -1, -1, -1, -1};
        for (int i = 0; i < 12; i++) {
            CHECKS.due("6 ward of " + i, x.cell(i, 0), owners[i]);
            CHECKS.due("6 wall " + i, x.cell(i, 1), i == 7 ? 1 : 0);
            CHECKS.due("6 stair " + i, x.cell(i, 2), i == 9 ? 1 : 0);
            CHECKS.due("6 net " + i, x.cell(i, 3), 0);
            CHECKS.due("6 water " + i, x.cell(i, 4), 0);
            CHECKS.due("6 thing " + i, x.cell(i, 5), things[i]);
            CHECKS.due("6 next " + i, x.cell(i, 6), nexts[i]);
            CHECKS.due("6 stands " + i, x.cell(i, 7), stands[i]);
        }
        CHECKS.due("15 net", x.net(1, true), true);
        CHECKS.due("6 net 1", x.cell(1, 3), 1);
        CHECKS.due("6 no next by a net", x.cell(1, 6), -1);
        CHECKS.due("17 pour", x.pour(0, 1), 1);
        CHECKS.due("6 water 1", x.cell(1, 4), 1);
        CHECKS.due("6 a wall is below", x.vote(1, 2), true);
        CHECKS.due("6 stands 3", x.cell(3, 7), 1);
        CHECKS.due("6 stands 2", x.cell(2, 7), 0);
        CHECKS.due("6 no next into a wall", x.cell(3, 6), -1);
        CHECKS.due("6 still", x.vote(2, 4), true);
        CHECKS.due("6 stands 8, still", x.cell(8, 7), 0);
        CHECKS.due("6 stands 9, a stair", x.cell(9, 7), 1);
        CHECKS.due("14 up", x.vote(0, 0), true);
        CHECKS.due("6 the first cell is below", x.cell(4, 7), 0);
        CHECKS.due("6 stands at the edge", x.cell(0, 7), 1);
        WardFalls y = new WardFalls();
        CHECKS.due("6 nobody's", y.cell(15, 0), -1);
        CHECKS.due("6 nobody's", y.cell(15, 6), -1);
    }

    private static void cellThrows() {
        WardFalls x = Checks.town(TOWN);
        CHECKS.due("6 cell 12", thrown(x, 12, 0), 1);
        CHECKS.due("6 cell -1", thrown(x, -1, 7), 1);
        CHECKS.due("6 cell far", thrown(x, Integer.MAX_VALUE, 7), 1);
        CHECKS.due("6 what 8", thrown(x, 11, 8), 2);
        CHECKS.due("6 what -1", thrown(x, 0, -1), 2);
        CHECKS.due("6 neither", thrown(x, 12, 8), 1);
        CHECKS.due("6 a wall", thrown(x, 7, 7), 0);
    }

    private static int thrown(WardFalls x, int cell, int what) {
        try {
            x.cell(cell, what);
            return 0;
        } catch (IndexOutOfBoundsException e) {
            return 1;
        } catch (NoSuchElementException e) {
            return 2;
        }
    }

    private static void walls() {
        WardFalls x = Checks.town(TOWN);
        CHECKS.due("10 a wall", x.rest(7), -1);
        CHECKS.due("11 a wall", x.way(7, 0), -1);
        CHECKS.due("12 a wall", x.falls(7, 0), -1);
        CHECKS.due("15 a wall", x.net(7, true), false);
        CHECKS.due("16 a wall", x.lay(0, 7), false);
        CHECKS.due("17 a wall", x.pour(7, 1), -1);
        CHECKS.due("22 a wall", x.push(7, 0, 0), -1);
        CHECKS.due("22 a wall", x.push(0, 7, 0), -1);
        CHECKS.due("23 a wall", x.pushed(0, 7, 0), -1);
        CHECKS.due("31 a wall", x.note(7, 0), -1);
        CHECKS.due("31 a wall", x.note(0, 7), -1);
        CHECKS.due("9 a wall", x.law(0, 7, 3), NO_LAW);
    }

    private static void wards() {
        WardFalls x = Checks.town(TOWN);
        int[] downs = {1, 3, 2, 4};
        int[] riches = {5, 9, 1, 3};
        int[] sizes = {4, 3, 2, 1};
        for (int i = 0; i < 4; i++) {
            CHECKS.due("7 down of " + i, x.ward(i, 0), downs[i]);
            CHECKS.due("7 rich " + i, x.ward(i, 1), riches[i]);
            CHECKS.due("7 size " + i, x.ward(i, 2), sizes[i]);
        }
        // cup and hat go round between 1 and 2; pot goes from 5 to 6.
        CHECKS.due("7 joy of a", x.ward(0, 3), 0);
        CHECKS.due("7 joy of d", x.ward(3, 3), 90);
        x.vote(1, 4);
        CHECKS.due("7 joy of b, still", x.ward(1, 3), 10);
        CHECKS.due("7 no such ward", x.ward(4, 0), -1);
        CHECKS.due("7 no such ward", x.ward(-1, 0), -1);
        CHECKS.due("7 no such what", x.ward(0, 4), -1);
        CHECKS.due("7 no such what", x.ward(0, -1), -1);
    }

    private static void things() {
        WardFalls x = Checks.town(TOWN);
        int[] cells = {0, 3, 5};
        int[] worths = {7, 3, 90};
        for (int i = 0; i < 3; i++) {
            CHECKS.due("8 cell of " + i, x.thing(i, 0), cells[i]);
            CHECKS.due("8 worth " + i, x.thing(i, 1), worths[i]);
            CHECKS.due("8 steps " + i, x.thing(i, 2), 0);
            CHECKS.due("8 lines " + i, x.thing(i, 3), 0);
        }
        CHECKS.due("13 all go", x.beats(1), 3);
        CHECKS.due("8 cell of 2", x.thing(2, 0), 6);
        CHECKS.due("8 steps of 2", x.thing(2, 2), 1);
        CHECKS.due("8 lines of 2", x.thing(2, 3), 1);
        CHECKS.due("8 lines of 0", x.thing(0, 3), 0);
        x.lay(2, 8);
        CHECKS.due("8 laid", x.thing(2, 0), 8);
        CHECKS.due("8 laid is no step", x.thing(2, 2), 1);
        CHECKS.due("8 no such thing", x.thing(3, 0), -1);
        CHECKS.due("8 no such thing", x.thing(-1, 0), -1);
        CHECKS.due("8 no such what", x.thing(0, 4), -1);
        CHECKS.due("8 no such what", x.thing(0, -1), -1);
    }

    private static WardFalls joyful(String formula) {
        return Checks.town("town 4 1;ward a right 5;ward b still 9;part a 0 0 1 0;part b 2 0 2 0;"
                + "thing cup 7 0 0;thing hat 30 2 0;law joy " + formula + ";");
    }

    private static void joyLaws() {
        CHECKS.due("9 rich", joyful("rich").law(1, 1, 99), 9);
        CHECKS.due("9 size", joyful("size").law(1, 0, -5), 2);
        CHECKS.due("9 here", joyful("here").law(1, 1, 0), 2);
        CHECKS.due("9 worth", joyful("worth").law(1, 1, 0), 37);
        CHECKS.due("9 cross", joyful("cross").law(1, 1, 0), 1);
        CHECKS.due("9 cross", joyful("cross").law(1, 0, 0), 0);
        CHECKS.due("9 against", joyful("against").law(1, 1, 0), 0);
        WardFalls x = joyful("year");
        x.years(3);
        CHECKS.due("9 year", x.law(1, 1, 0), 3);
        CHECKS.due("9 no such ward", x.law(1, 2, 0), NO_LAW);
        CHECKS.due("9 no such ward", x.law(1, -1, 0), NO_LAW);
        CHECKS.due("9 no such what", x.law(2, 0, 0), NO_LAW);
        CHECKS.due("9 no such what", x.law(-1, 0, 0), NO_LAW);
        CHECKS.due("9 no law of push", x.law(0, 0, 1), NO_LAW);
        CHECKS.due("9 below 0", joyful("0-5").law(1, 0, 0), -5);
        CHECKS.due("7 put to 0", joyful("0-5").ward(0, 3), 0);
        CHECKS.due("7 put to 9999", joyful("9999+1").ward(0, 3), 9999);
        CHECKS.due("9 above 9999", joyful("9999+1").law(1, 0, 0), 10000);
        CHECKS.due("9 an error", joyful("1/(here-2)").law(1, 1, 0), NO_LAW);
        CHECKS.due("7 worth with an error", joyful("1/(here-2)").ward(1, 3), 37);
        CHECKS.due("7 worth with an error", joyful("1/(here-2)").ward(0, 3), 0);
        CHECKS.due("9 no law of joy", Checks.town("ward a up 0;").law(1, 0, 0), NO_LAW);
    }

    private static WardFalls pushing(String formula) {
        return Checks.town("town 3 2;ward a right 5;ward b left 9;part a 0 0 1 0;part b 2 0 2 0;part a 0 1 0 1;"
                + "wall 0 1;thing cup 7 2 0;thing hat 8 1 1;law push " + formula + ";");
    }

    private static void pushLaws() {
        CHECKS.due("9 rich", pushing("rich").law(0, 1, 1), 9);
        CHECKS.due("9 rich of nobody's", pushing("rich").law(0, 1, 2), 0);
        CHECKS.due("9 size, walls too", pushing("size").law(0, 2, 3), 3);
        CHECKS.due("9 size of nobody's", pushing("size").law(0, 1, 2), 0);
        CHECKS.due("9 here", pushing("here").law(0, 1, 1), 1);
        CHECKS.due("9 here of nobody's", pushing("here").law(0, 1, 2), 1);
        CHECKS.due("9 none here", pushing("here").law(0, 1, 3), 0);
        CHECKS.due("9 worth", pushing("worth").law(0, 1, 1), 7);
        CHECKS.due("9 worth of nobody's", pushing("worth").law(0, 1, 2), 8);
        CHECKS.due("9 no worth", pushing("worth").law(0, 1, 3), 0);
        CHECKS.due("9 cross", pushing("cross").law(0, 1, 1), 1);
        CHECKS.due("9 cross to nobody's", pushing("cross").law(0, 1, 2), 1);
        CHECKS.due("9 no cross", pushing("cross").law(0, 1, 3), 0);
        CHECKS.due("9 no cross of nobody's", pushing("cross").law(0, 4, 1), 0);
        CHECKS.due("9 against", pushing("against").law(0, 1, 3), 1);
        CHECKS.due("9 not against", pushing("against").law(0, 1, 1), 0);
        CHECKS.due("9 aside", pushing("against").law(0, 1, 2), 0);
        CHECKS.due("9 against nobody's", pushing("against").law(0, 4, 1), 0);
        WardFalls x = pushing("year+1");
        x.vote(0, 4);
        x.years(1);
        CHECKS.due("9 year", x.law(0, 1, 1), 2);
        WardFalls y = pushing("against");
        y.vote(0, 0);
        CHECKS.due("9 against up", y.law(0, 1, 2), 1);
        y.vote(0, 4);
        CHECKS.due("9 against still", y.law(0, 1, 2), 0);
        CHECKS.due("9 into a wall", y.law(0, 0, 2), NO_LAW);
        CHECKS.due("9 from a wall", y.law(0, 3, 1), NO_LAW);
        CHECKS.due("9 no cell there", y.law(0, 0, 0), NO_LAW);
        CHECKS.due("9 no cell there", y.law(0, 2, 1), NO_LAW);
        CHECKS.due("9 no such down", y.law(0, 1, 4), NO_LAW);
        CHECKS.due("9 no such down", y.law(0, 1, -1), NO_LAW);
        CHECKS.due("9 no such cell", y.law(0, 6, 0), NO_LAW);
        CHECKS.due("9 no such cell", y.law(0, -1, 1), NO_LAW);
        CHECKS.due("9 an error", pushing("5/here").law(0, 1, 3), NO_LAW);
    }

    private static void values() {
        worth("1+2*3", 7);
        worth("(1+2)*3", 9);
        worth("10-4-3", 3);
        worth("100/7/2", 7);
        worth("2*7/3", 4);
        worth("(0-7)/2", -3);
        worth("7/(0-2)", -3);
        worth("not 0", 1);
        worth("not 5", 0);
        worth("not not 5", 1);
        worth("not 1=2", 1);
        worth("not 0 and 0", 0);
        worth("1 or 1 and 0", 1);
        worth("3 and 4", 1);
        worth("1 and 1", 1);
        worth("(0 or 1)*5", 5);
        worth("(1 and 0)+5", 5);
        worth("(not 0)+5", 6);
        worth("not ".repeat(63) + "1", 0);
        worth("((((((((" + "not ".repeat(63) + "1))))))))", 0);
        worth("((((((((" + "not ".repeat(62) + "1))))))))", 1);
        worth("3 and 0", 0);
        worth("0 or 7", 1);
        worth("0 or 0", 0);
        worth("1 or 1/0", NO_LAW);
        worth("0 and 1/0", NO_LAW);
        worth("1<2", 1);
        worth("2<2", 0);
        worth("2<=2", 1);
        worth("3<=2", 0);
        worth("2=2", 1);
        worth("2=3", 0);
        worth("2<>2", 0);
        worth("2<>3", 1);
        worth("2>=3", 0);
        worth("3>=3", 1);
        worth("3>3", 0);
        worth("4>3", 1);
        worth("1+1<1*3", 1);
        worth("1000*1000*1000*1000", 1000000000000L);
        worth("1000*1000*1000*1000+1", NO_LAW);
        worth("1000*1000*1000*1000*0", 0);
        worth("1000*1000*1000*1000*2", NO_LAW);
        worth("0-1000*1000*1000*1000", -1000000000000L);
        worth("0-1000*1000*1000*1000-1", NO_LAW);
        worth("(1000*1000*1000*1000)*(1000*1000*1000*1000)", NO_LAW);
        worth("(0-1000*1000*1000*1000)*(1000*1000*1000*1000)", NO_LAW);
        worth("9999*9999*9999", 999700029999L);
        worth("9999*9999*9999*2-1", NO_LAW);
        worth("0/5", 0);
        worth("5/0", NO_LAW);
        worth("0/0", NO_LAW);
    }

    private static void worth(String formula, long due) {
        CHECKS.due("9 " + formula, Checks.town("ward a up 0;law joy " + formula + ";").law(1, 0, 0), due);
    }

    private static void ways() {
        WardFalls x = Checks.town(TOWN);
        CHECKS.due("10 rests where it is", x.rest(8), 8);
        CHECKS.due("10 rests over a line", x.rest(4), 6);
        CHECKS.due("10 nobody's", x.rest(11), 11);
        CHECKS.due("10 no such cell", x.rest(12), -1);
        CHECKS.due("10 no such cell", x.rest(-1), -1);
        CHECKS.due("11 itself", x.way(4, 0), 4);
        CHECKS.due("11 its next", x.way(4, 1), 5);
        CHECKS.due("11 the last", x.way(4, 2), 6);
        CHECKS.due("11 it rests", x.way(4, 3), -2);
        CHECKS.due("11 it rests", x.way(4, Integer.MAX_VALUE), -2);
        CHECKS.due("11 no such k", x.way(4, -1), -1);
        CHECKS.due("11 no such cell", x.way(12, 0), -1);
        CHECKS.due("11 no such cell", x.way(-1, 0), -1);
        CHECKS.due("12 steps", x.falls(4, 0), 2);
        CHECKS.due("12 no round", x.falls(4, 1), 0);
        CHECKS.due("12 lines", x.falls(4, 2), 1);
        CHECKS.due("12 no such what", x.falls(4, 3), -1);
        CHECKS.due("12 no such what", x.falls(4, -1), -1);
        CHECKS.due("12 no such cell", x.falls(12, 0), -1);
    }

    private static void rounds() {
        // a square of four wards: 0 right, 1 down, 3 left, 2 up; 4 and 5 fall into it
        WardFalls x = Checks.town("town 2 3;ward a right 0;ward b down 0;ward c left 0;ward d up 0;"
                + "part a 0 0 0 0;part b 1 0 1 0;part c 1 1 1 1;part d 0 1 1 2;part c 1 1 1 1;");
        CHECKS.due("10 round", x.rest(0), -2);
        CHECKS.due("10 into the round", x.rest(4), -2);
        CHECKS.due("12 ahead of the round", x.falls(0, 0), 0);
        CHECKS.due("12 ahead of the round", x.falls(4, 0), 1);
        CHECKS.due("12 cells of the round", x.falls(4, 1), 4);
        CHECKS.due("12 lines of a round", x.falls(4, 2), -2);
        int[] way = {4, 2, 0, 1, 3, 2, 0, 1, 3, 2};
        for (int i = 0; i < way.length; i++) {
            CHECKS.due("11 way(4, " + i + ")", x.way(4, i), way[i]);
        }
        // 2147483647 = 4 * 536870911 + 3: behind three more steps than the second one
        CHECKS.due("11 far round", x.way(4, Integer.MAX_VALUE), way[3]);
        x.net(3, true);
        CHECKS.due("10 a net stops it", x.rest(4), 3);
        CHECKS.due("12 steps to the net", x.falls(4, 0), 4);
        CHECKS.due("12 lines to the net", x.falls(4, 2), 3);
    }
}
