/** Promises 27 to 30: votes nobody would take back, treaties, moves. */
public final class VoteTest {
    private static final Checks CHECKS = new Checks();

    public static void main(String[] args) {
        noWards();
        stays();
        treaties();
        treatyOfTheFirst();
        moves();
        endless();
        fortyMoves();
        anew();
        CHECKS.end("VoteTest");
    }

    private static void noWards() {
        WardFalls x = new WardFalls();
        CHECKS.due("27 one", x.stays(), 1);
        CHECKS.due("28 it", x.stay(0), 0);
        CHECKS.due("28 no more", x.stay(1), -2);
        CHECKS.due("29 nothing", x.treaty(0), 0);
        CHECKS.due("29 nothing", x.treaty(1), 0);
        CHECKS.due("30 none", x.moves(0, 0), 0);
        CHECKS.due("30 no such votes", x.moves(1, 0), -1);
        WardFalls y = Checks.town("ward a up 0;ward b up 0;ward c up 0;ward d still 0;");
        CHECKS.due("27 all of four", y.stays(), 256);
        CHECKS.due("28 the last", y.stay(255), 255);
        CHECKS.due("28 no more", y.stay(256), -2);
        CHECKS.due("30 the last votes", y.moves(255, 1), 255);
        CHECKS.due("30 bits behind", y.moves(256, 1), -1);
    }

    /** a has 0 and 1, b 2 and 3 of a row; p of 5 lies in 1, q of 8 in 2. */
    private static WardFalls two(String more) {
        return Checks.town("town 4 1;ward a right 1;ward b right 2;part a 0 0 1 0;part b 2 0 3 0;"
                + "thing p 5 1 0;thing q 8 2 0;" + more);
    }

    private static void stays() {
        WardFalls x = two("");
        // a: right loses p (to b or round); b: left loses q (to a or round). No DOWN takes from the other one.
        CHECKS.due("27 three by three", x.stays(), 9);
        int[] due = {0, 2, 3, 4, 6, 7, 8, 10, 11};
        for (int i = 0; i < due.length; i++) {
            CHECKS.due("28 stay " + i, x.stay(i), due[i]);
        }
        CHECKS.due("28 no so many", x.stay(9), -2);
        CHECKS.due("28 below 0", x.stay(-1), -1);
        CHECKS.due("7 nothing changes", x.ward(0, 0), 1);
        WardFalls y = two("law joy here*0-worth;");
        CHECKS.due("27 all alike at 0", y.stays(), 16);
        WardFalls z = two("law joy 100-worth;");
        // now each is glad to be rid of its own: by any votes of the other one
        CHECKS.due("27 one", z.stays(), 1);
        CHECKS.due("28 both away", z.stay(0), 1 | 3 << 2);
    }

    private static void treaties() {
        WardFalls x = two("");
        CHECKS.due("7 b has both now", x.ward(1, 3), 13);
        CHECKS.due("29 b would have less", x.treaty(0), -2);
        CHECKS.due("29 b would have less", x.treaty(1), -2);
        x.vote(0, 0);
        CHECKS.due("29 the sum", x.treaty(0), 13);
        CHECKS.due("29 the first", x.treaty(1), 0);
        CHECKS.due("29 no such what", x.treaty(2), -1);
        CHECKS.due("29 no such what", x.treaty(-1), -1);
    }

    private static void treatyOfTheFirst() {
        WardFalls x = Checks.town("town 3 3;ward a up 0;ward b still 50;ward c still 60;part a 1 1 1 1;part b 2 1 2 1;"
                + "part c 1 2 1 2;thing p 7 1 1;law joy rich*here+here+worth*0;");
        // p never stays in a: by up and left it is nobody's; b keeps it by right alone, c by down alone.
        CHECKS.due("27 stays", x.stays(), 2 * 16 + 4 + 4);
        CHECKS.due("29 c's sum is the greatest", x.treaty(0), 61);
        CHECKS.due("29 a down, c down", x.treaty(1), 2 | 2 << 4);
        x.vote(0, 1);
        CHECKS.due("29 b keeps what it has", x.treaty(0), 51);
        CHECKS.due("29 a right, b right", x.treaty(1), 1 | 1 << 2);
    }

    private static void moves() {
        WardFalls x = two("");
        CHECKS.due("30 none to do", x.moves(0, 0), 0);
        CHECKS.due("30 none to do", x.moves(0, 1), 0);
        // a right, b left: 1 and 2 go round; a takes up, then b takes up
        CHECKS.due("30 both", x.moves(1 | 3 << 2, 0), 2);
        CHECKS.due("30 both", x.moves(1 | 3 << 2, 1), 0);
        CHECKS.due("30 b alone", x.moves(2 | 3 << 2, 0), 1);
        CHECKS.due("30 b alone", x.moves(2 | 3 << 2, 1), 2);
        CHECKS.due("30 below 0", x.moves(-1, 0), -1);
        CHECKS.due("30 bits behind", x.moves(16, 0), -1);
        CHECKS.due("30 no such what", x.moves(0, 2), -1);
        CHECKS.due("30 no such what", x.moves(0, -1), -1);
        CHECKS.due("7 nothing changes", x.ward(1, 0), 1);
        // the best, not the first that is better: right gives 3, down 4
        WardFalls y = Checks.town("town 3 3;ward a up 0;part a 1 1 2 1;part a 1 2 1 2;thing p 3 1 1;thing q 1 0 2;"
                + "thing r 1 2 1;law joy here;wall 2 0;");
        CHECKS.due("30 the best of these", y.moves(0, 0), 1);
        CHECKS.due("30 the best of these", y.moves(0, 1), 1);
    }

    private static void endless() {
        // one of both always falls into a's: a takes the DOWN that keeps it, b the one that fetches it back
        WardFalls x = Checks.town("town 2 2;ward a up 0;ward b up 1;part b 0 0 0 0;part a 1 0 1 0;part a 0 1 0 1;"
                + "part b 1 1 1 1;thing p 2 0 0;thing q 1 1 1;law joy here;");
        CHECKS.due("27 no stay", x.stays(), 0);
        CHECKS.due("28 none", x.stay(0), -2);
        CHECKS.due("29 none", x.treaty(0), -2);
        CHECKS.due("29 none", x.treaty(1), -2);
        for (int i = 0; i < 16; i++) {
            CHECKS.due("30 no end", x.moves(i, 0), -2);
            CHECKS.due("30 no end", x.moves(i, 1), -2);
        }
    }

    /** A town found by searching: from one of its VOTES there are 40 MOVES, from others 41 and 45. */
    private static void fortyMoves() {
        WardFalls x = Checks.town("town 7 5;ward a up 97;ward b up 54;ward c up 33;ward d up 24;part a 0 0 6 4;"
                + "part d 2 2 4 3;part d 4 4 6 4;part d 5 1 6 1;part b 6 3 6 4;part b 4 2 6 4;part a 4 2 4 3;"
                + "part c 0 0 1 1;part c 1 3 6 3;part c 3 2 5 3;part c 6 3 6 4;part d 2 0 2 1;thing p 42 4 1;"
                + "thing q 4 1 2;thing r 74 6 1;thing s 10 3 1;thing t 38 0 0;thing u 67 6 2;thing v 82 3 2;"
                + "law joy (worth-40)*(worth-60)+9;");
        CHECKS.due("30 39 moves", x.moves(232, 0), 39);
        CHECKS.due("30 40 moves", x.moves(238, 0), 40);
        CHECKS.due("30 where they end", x.moves(238, 1), 98);
        CHECKS.due("30 a 41st", x.moves(236, 0), -2);
        CHECKS.due("30 a 41st", x.moves(236, 1), -2);
        CHECKS.due("30 a 45th", x.moves(239, 0), -2);
    }

    private static void anew() {
        WardFalls x = two("");
        CHECKS.due("27 first", x.stays(), 9);
        x.net(1, true);
        CHECKS.due("27 a net", x.stays(), 12);
        x.undo();
        CHECKS.due("27 undone", x.stays(), 9);
        x.keep();
        x.lay(0, 0);
        CHECKS.due("27 laid", x.stays(), 9);
        x.lay(0, 3);
        CHECKS.due("27 laid into b", x.stays(), 12);
        x.back();
        CHECKS.due("27 back", x.stays(), 9);
        x.vote(0, 0);
        CHECKS.due("27 a vote by itself is nothing to them", x.stays(), 9);
        x.vote(0, 1);
        x.beats(2);
        CHECKS.due("27 beats", x.stays(), 12);
        WardFalls y = two("law joy worth*(year=0);");
        CHECKS.due("27 this year", y.stays(), 9);
        y.years(1);
        CHECKS.due("27 the next year", y.stays(), 16);
        Checks.load(y, "ward a up 1;");
        CHECKS.due("27 another text", y.stays(), 4);
    }
}
