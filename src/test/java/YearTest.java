/** Promises 36 to 38: years of votes by chance, and what is tried. */
public final class YearTest {
    private static final Checks CHECKS = new Checks();

    public static void main(String[] args) {
        withoutWards();
        byChance();
        floods();
        edges();
        tried();
        triedEdges();
        CHECKS.end("YearTest");
    }

    private static void withoutWards() {
        WardFalls x = new WardFalls();
        CHECKS.due("36 two", x.years(2), 2);
        CHECKS.due("37 none", x.voted(1, 0), -2);
        CHECKS.due("37 none", x.voted(0, 1), -2);
        CHECKS.due("37 none", x.voted(0, 2), -2);
        CHECKS.due("37 not gone by", x.voted(2, 0), -1);
        CHECKS.due("37 no such what", x.voted(0, 3), -1);
        CHECKS.due("36 up to 99", x.years(97), 99);
        CHECKS.due("36 behind 99", x.years(1), -1);
        CHECKS.due("36 none more", x.years(0), 99);
    }

    private static void byChance() {
        WardFalls x = Checks.town("ward a left 0;ward b left 0;ward c left 0;seed 77;");
        int[] downs = {3, 3, 3};
        long number = 77;
        CHECKS.due("36 fifty", x.years(50), 50);
        for (int i = 0; i < 50; i++) {
            number = (number * 1103515245L + 12345L) % (1L << 31);
            int ward = (int) (number / 65536 % 3);
            number = (number * 1103515245L + 12345L) % (1L << 31);
            int down = (int) (number / 65536 % 4);
            CHECKS.due("37 ward of " + i, x.voted(i, 0), ward);
            CHECKS.due("37 down of " + i, x.voted(i, 1), down);
            CHECKS.due("37 the down ahead of " + i, x.voted(i, 2), downs[ward]);
            downs[ward] = down;
        }
        for (int i = 0; i < 3; i++) {
            CHECKS.due("7 down now of " + i, x.ward(i, 0), downs[i]);
        }
        CHECKS.due("42 the year", x.count(5), 50);
        WardFalls y = Checks.town("ward a left 0;ward b left 0;ward c left 0;seed 77;");
        for (int i = 0; i < 50; i++) {
            y.years(1);
        }
        CHECKS.due("36 one by one alike", y.voted(49, 0) * 9 + y.voted(49, 1), x.voted(49, 0) * 9 + x.voted(49, 1));
        WardFalls z = Checks.town("ward a still 0;seed 99999;");
        z.years(1);
        CHECKS.due("37 the first number is of the ward", z.voted(0, 0), 0);
        long second = (99999L * 1103515245L + 12345L) % (1L << 31);
        second = (second * 1103515245L + 12345L) % (1L << 31);
        CHECKS.due("37 the second one of the down", z.voted(0, 1), second / 65536 % 4);
        CHECKS.due("37 it was still", z.voted(0, 2), 4);
    }

    private static void floods() {
        // two drops on one another: a FLOOD lets them fall as told, whatever is voted
        WardFalls x = Checks.town("town 1 4;ward a down 0;part a 0 0 0 3;");
        x.pour(0, 2);
        long due = -1;
        WardFalls probe = Checks.town("town 1 4;ward a down 0;part a 0 0 0 3;");
        probe.years(1);
        due = x.flood(0, probe.voted(0, 1));
        x.years(1);
        long wet = 0;
        for (int i = 0; i < 4; i++) {
            wet |= (long) x.cell(i, 4) << i;
        }
        CHECKS.due("36 a flood behind a year", wet, due);
    }

    private static void edges() {
        WardFalls x = Checks.town("ward a up 1;ward b up 1;");
        CHECKS.due("36 none", x.years(0), 0);
        CHECKS.due("36 below 0", x.years(-1), -1);
        CHECKS.due("36 above 99", x.years(100), -1);
        CHECKS.due("36 far", x.years(Integer.MAX_VALUE), -1);
        CHECKS.due("36 99", x.years(99), 99);
        CHECKS.due("36 no more", x.years(1), -1);
        CHECKS.due("37 the last", x.voted(98, 0) >= 0, true);
        CHECKS.due("37 not gone by", x.voted(99, 0), -1);
        CHECKS.due("37 below 0", x.voted(-1, 0), -1);
        CHECKS.due("37 no such what", x.voted(0, -1), -1);
        CHECKS.due("37 no such what", x.voted(0, 3), -1);
        CHECKS.due("42 the year", x.count(5), 99);
    }

    /** p at 0 and q at 1 fall right to the wall at 3 of a; behind it 4 and 5 are b's. */
    private static WardFalls row() {
        return Checks.town("town 6 1;ward a right 0;ward b right 0;part a 0 0 3 0;part b 4 0 5 0;wall 3 0;"
                + "thing p 1 0 0;thing q 1 1 0;");
    }

    private static void tried() {
        WardFalls x = row();
        CHECKS.due("38 as it is, by no net", x.tried(0, 0, 200), 2);
        x.net(1, true);
        CHECKS.due("38 no net", x.tried(0, 0, 200), 2);
        CHECKS.due("38 nobody in the way", x.tried(1, 0, 200), 1);
        x.net(1, false);
        CHECKS.due("38 nobody in the way", x.tried(1, 0, 200), 3);
        CHECKS.due("38 no wall", x.tried(2, 0, 200), 8);
        CHECKS.due("38 no wall, one beat", x.tried(2, 0, 1), 1);
        CHECKS.due("38 a still", x.tried(3, 0, 200), 0);
        CHECKS.due("38 b still", x.tried(3, 1, 200), 2);
        CHECKS.due("38 p isn't there", x.tried(4, 0, 200), 1);
        CHECKS.due("38 q isn't there", x.tried(4, 1, 200), 2);
        CHECKS.due("38 q isn't there, one beat", x.tried(4, 1, 1), 1);
        CHECKS.due("8 nothing changes", x.thing(1, 0), 1);
        CHECKS.due("8 no steps", x.thing(1, 2), 0);
        CHECKS.due("42 no beats", x.count(6), 0);
        CHECKS.due("42 still to undo", x.count(9), 2);
        CHECKS.due("6 the wall stays", x.cell(3, 1), 1);
        CHECKS.due("38 no wall in the first cell", Checks.town("town 3 1;ward a left 0;part a 0 0 2 0;wall 0 0;"
                + "thing p 1 2 0;").tried(2, 0, 9), 2);
        CHECKS.due("38 two through one another", Checks.town("town 2 1;ward a right 0;ward b left 0;part a 0 0 0 0;"
                + "part b 1 0 1 0;thing p 1 0 0;thing q 1 1 0;").tried(1, 0, 10), 20);
    }

    private static void triedEdges() {
        WardFalls x = row();
        for (int what = 0; what < 3; what++) {
            CHECKS.due("38 i is 0", x.tried(what, 1, 1), -1);
            CHECKS.due("38 i is 0", x.tried(what, -1, 1), -1);
        }
        CHECKS.due("38 no such ward", x.tried(3, 2, 1), -1);
        CHECKS.due("38 no such ward", x.tried(3, -1, 1), -1);
        CHECKS.due("38 no such thing", x.tried(4, 2, 1), -1);
        CHECKS.due("38 no such thing", x.tried(4, -1, 1), -1);
        CHECKS.due("38 no such what", x.tried(5, 0, 1), -1);
        CHECKS.due("38 no such what", x.tried(-1, 0, 1), -1);
        CHECKS.due("38 no such n", x.tried(0, 0, 201), -1);
        CHECKS.due("38 no such n", x.tried(0, 0, -1), -1);
        CHECKS.due("38 none", x.tried(0, 0, 0), 0);
    }
}
