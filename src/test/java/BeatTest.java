/** Promises 13 to 19: beats, votes, nets, things laid, water. */
public final class BeatTest {
    private static final Checks CHECKS = new Checks();

    public static void main(String[] args) {
        beats();
        votes();
        nets();
        laid();
        poured();
        lost();
        drained();
        flooded();
        CHECKS.end("BeatTest");
    }

    private static WardFalls row(String more) {
        return Checks.town("town 5 1;ward a right 1;ward b left 1;part a 0 0 4 0;" + more);
    }

    private static void beats() {
        WardFalls x = row("thing p 1 0 0;thing q 1 1 0;thing r 1 3 0;part b 4 0 4 0;");
        // p waits for q, which goes behind it; r goes to 4 over the line.
        CHECKS.due("13 one", x.beats(1), 2);
        CHECKS.due("8 p waited", x.thing(0, 0), 0);
        CHECKS.due("8 q went", x.thing(1, 0), 2);
        CHECKS.due("8 r went", x.thing(2, 0), 4);
        CHECKS.due("8 lines of r", x.thing(2, 3), 1);
        // p to 1, q to 3, r back to 4? 3 is taken by q now.
        CHECKS.due("13 two", x.beats(1), 2);
        CHECKS.due("8 r waits", x.thing(2, 0), 4);
        CHECKS.due("42 beats", x.count(6), 2);
        CHECKS.due("13 many", x.beats(200), 1);
        CHECKS.due("42 beats", x.count(6), 202);
        CHECKS.due("8 steps of p", x.thing(0, 2), 2);
        CHECKS.due("13 none", x.beats(0), 0);
        CHECKS.due("13 below", x.beats(-1), -1);
        CHECKS.due("13 beyond", x.beats(201), -1);
        CHECKS.due("42 beats", x.count(6), 202);
        WardFalls y = row("thing p 1 3 0;thing q 1 2 0;part b 4 0 4 0;");
        // By numbers: p leaves 3 first, so q can follow at once.
        CHECKS.due("13 one behind another", y.beats(1), 2);
        CHECKS.due("13 behind the first thing", row("wall 4 0;thing p 1 3 0;thing q 1 2 0;").beats(9), 0);
        CHECKS.due("13 round", row("thing p 1 3 0;part b 4 0 4 0;").beats(200), 200);
        CHECKS.due("13 no things", new WardFalls().beats(3), 0);
    }

    private static void votes() {
        WardFalls x = row("part b 4 0 4 0;");
        CHECKS.due("14 has it", x.vote(0, 1), false);
        CHECKS.due("14 vote", x.vote(0, 3), true);
        CHECKS.due("7 it is so", x.ward(0, 0), 3);
        CHECKS.due("10 it falls so", x.rest(3), 0);
        CHECKS.due("14 still", x.vote(0, 4), true);
        CHECKS.due("14 no such down", x.vote(0, 5), false);
        CHECKS.due("14 no such down", x.vote(0, -1), false);
        CHECKS.due("14 no such ward", x.vote(2, 0), false);
        CHECKS.due("14 no such ward", x.vote(-1, 0), false);
        CHECKS.due("42 two to undo", x.count(9), 2);
    }

    private static void nets() {
        WardFalls x = row("wall 4 0;");
        CHECKS.due("15 has none", x.net(2, false), false);
        CHECKS.due("15 net", x.net(2, true), true);
        CHECKS.due("15 has one", x.net(2, true), false);
        CHECKS.due("10 rests in it", x.rest(0), 2);
        CHECKS.due("42 nets", x.count(11), 1);
        CHECKS.due("15 wall", x.net(4, true), false);
        CHECKS.due("15 no such cell", x.net(5, true), false);
        CHECKS.due("15 no such cell", x.net(-1, true), false);
        CHECKS.due("15 no such cell", x.net(64, true), false);
        CHECKS.due("15 taken away", x.net(2, false), true);
        CHECKS.due("10 rests at the wall", x.rest(0), 3);
        CHECKS.due("42 two to undo", x.count(9), 2);
    }

    private static void laid() {
        WardFalls x = row("wall 4 0;thing p 1 0 0;thing q 1 1 0;");
        CHECKS.due("16 taken", x.lay(0, 1), false);
        CHECKS.due("16 by itself", x.lay(0, 0), false);
        CHECKS.due("16 wall", x.lay(0, 4), false);
        CHECKS.due("16 no such cell", x.lay(0, 5), false);
        CHECKS.due("16 no such cell", x.lay(0, -1), false);
        CHECKS.due("16 no such thing", x.lay(2, 3), false);
        CHECKS.due("16 no such thing", x.lay(-1, 3), false);
        CHECKS.due("16 laid", x.lay(0, 3), true);
        CHECKS.due("8 there", x.thing(0, 0), 3);
        CHECKS.due("6 not here", x.cell(0, 5), -1);
        CHECKS.due("42 one to undo", x.count(9), 1);
    }

    private static void poured() {
        WardFalls x = row("wall 4 0;");
        CHECKS.due("17 it flows down", x.pour(1, 1), 1);
        CHECKS.due("6 water at the wall", x.cell(3, 4), 1);
        CHECKS.due("17 the second one stays above", x.pour(3, 1), 0);
        CHECKS.due("17 lost", x.count(9), 1);
        CHECKS.due("17 three of five", x.pour(0, 5), 3);
        CHECKS.due("42 all wet", x.count(10), 4);
        CHECKS.due("17 none", x.pour(0, 99), 0);
        CHECKS.due("17 no such n", x.pour(0, 0), -1);
        CHECKS.due("17 no such n", x.pour(0, 100), -1);
        CHECKS.due("17 no such n", x.pour(0, -1), -1);
        CHECKS.due("17 no such cell", x.pour(5, 1), -1);
        CHECKS.due("17 no such cell", x.pour(-1, 1), -1);
        CHECKS.due("17 wall", x.pour(4, 1), -1);
        WardFalls y = row("wall 4 0;");
        y.pour(3, 1);
        y.net(2, true);
        y.pour(1, 1);
        CHECKS.due("6 water in the net", y.cell(2, 4), 1);
        CHECKS.due("17 a net holds it", y.pour(2, 1), 0);
        y.net(2, false);
        // where there is WATER one is poured that goes on to a dry NEXT
        WardFalls z = row("wall 4 0;");
        z.vote(0, 4);
        z.pour(1, 1);
        z.vote(0, 4);
        CHECKS.due("6 water at 1", z.cell(1, 4), 1);
    }

    private static void lost() {
        // 3 and 4 go round
        WardFalls x = row("part b 4 0 4 0;");
        CHECKS.due("17 lost in the round", x.pour(0, 3), 0);
        CHECKS.due("17 nothing to undo", x.count(9), 0);
        x.net(4, true);
        CHECKS.due("17 held", x.pour(0, 1), 1);
        x.net(4, false);
        // 4 has water: one that comes stays in 3, another in 2
        CHECKS.due("17 behind water in the round", x.pour(3, 2), 1);
        CHECKS.due("6 water at 3", x.cell(3, 4), 1);
        CHECKS.due("17 all the rest", x.pour(0, 9), 3);
        // a wet CELL with a dry NEXT passes it on
        WardFalls y = row("part b 4 0 4 0;");
        y.net(3, true);
        y.pour(3, 1);
        y.net(3, false);
        CHECKS.due("17 on from a wet cell", y.pour(3, 1), 1);
        CHECKS.due("6 water at 4", y.cell(4, 4), 1);
    }

    private static void drained() {
        WardFalls x = row("wall 4 0;");
        CHECKS.due("18 nothing", x.drain(), 0);
        CHECKS.due("18 nothing is done", x.count(9), 0);
        x.pour(0, 3);
        CHECKS.due("18 three", x.drain(), 3);
        CHECKS.due("42 dry", x.count(10), 0);
        CHECKS.due("42 two to undo", x.count(9), 2);
        CHECKS.due("18 again", x.drain(), 0);
        x.pour(0, 1);
        CHECKS.due("18 one", x.drain(), 1);
        CHECKS.due("42 dry", x.count(10), 0);
    }

    private static void flooded() {
        WardFalls x = row("wall 4 0;");
        x.pour(0, 2);
        CHECKS.due("19 to the left", x.flood(0, 3), 3);
        // the one from 2 comes to 3 first, then there is some where the other one was taken up
        CHECKS.due("19 as it is", x.flood(0, 1), 8);
        CHECKS.due("19 up", x.flood(0, 0), 12);
        CHECKS.due("19 still", x.flood(0, 4), 12);
        CHECKS.due("19 nothing changes", x.cell(3, 4), 1);
        CHECKS.due("19 nothing changes", x.ward(0, 0), 1);
        CHECKS.due("19 nothing to undo", x.count(9), 1);
        CHECKS.due("19 no such down", x.flood(0, 5), -1);
        CHECKS.due("19 no such down", x.flood(0, -1), -1);
        CHECKS.due("19 no such ward", x.flood(2, 0), -1);
        CHECKS.due("19 no such ward", x.flood(-1, 0), -1);
        x.vote(0, 3);
        CHECKS.due("14 a flood behind a vote", x.cell(0, 4), 1);
        CHECKS.due("14 a flood behind a vote", x.cell(1, 4), 1);
        CHECKS.due("14 a flood behind a vote", x.count(10), 2);
        CHECKS.due("19 from the first cell on", x.flood(0, 1), 12);
        x.net(1, true);
        x.net(1, false);
        CHECKS.due("15 no flood behind a net", x.cell(1, 4), 1);
        // 47 is the highest bit
        WardFalls y = Checks.town("town 8 6;ward a down 0;part a 7 0 7 5;");
        y.pour(7, 1);
        CHECKS.due("19 the last cell", y.flood(0, 2), 1L << 47);
    }
}
