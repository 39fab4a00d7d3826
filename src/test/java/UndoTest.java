/** Promises 39 to 42: undone, images, counts. */
public final class UndoTest {
    private static final Checks CHECKS = new Checks();

    public static void main(String[] args) {
        each();
        twenty();
        goneBy();
        images();
        imageKeepsNot();
        counts();
        CHECKS.end("UndoTest");
    }

    private static WardFalls row() {
        return Checks.town("town 5 1;ward a right 1;ward b left 1;part a 0 0 4 0;thing p 1 0 0;thing q 1 1 0;");
    }

    private static void each() {
        WardFalls x = row();
        CHECKS.due("39 nothing", x.undo(), -1);
        x.pour(0, 2);
        x.vote(0, 3);
        CHECKS.due("6 flooded", x.cell(0, 4), 1);
        x.net(2, true);
        x.lay(0, 4);
        x.drain();
        CHECKS.due("42 five", x.count(9), 5);
        CHECKS.due("39 the drain", x.undo(), 4);
        CHECKS.due("42 wet again", x.count(10), 2);
        CHECKS.due("39 the thing", x.undo(), 3);
        CHECKS.due("8 where it was", x.thing(0, 0), 0);
        CHECKS.due("39 the net", x.undo(), 2);
        CHECKS.due("42 no net", x.count(11), 0);
        CHECKS.due("39 the vote", x.undo(), 1);
        CHECKS.due("7 its down", x.ward(0, 0), 1);
        CHECKS.due("6 the water as it was", x.cell(4, 4), 1);
        CHECKS.due("6 the water as it was", x.cell(3, 4), 1);
        CHECKS.due("6 the water as it was", x.cell(0, 4), 0);
        CHECKS.due("39 what was poured", x.undo(), 0);
        CHECKS.due("42 dry", x.count(10), 0);
        CHECKS.due("39 no more", x.undo(), -1);
        x.vote(0, 1);
        x.net(9, true);
        x.lay(0, 1);
        x.drain();
        x.flood(0, 2);
        x.note(0, 0);
        x.known(0);
        x.keep();
        CHECKS.due("42 nothing was done", x.count(9), 0);
    }

    private static void twenty() {
        WardFalls x = row();
        for (int i = 0; i < 23; i++) {
            x.vote(0, i % 2 == 0 ? 2 : i % 3);
            x.net(i % 5, i / 5 % 2 == 0);
        }
        CHECKS.due("42 at most 20", x.count(9), 20);
        for (int i = 19; i >= 0; i--) {
            CHECKS.due("39 undone", x.undo(), i);
        }
        CHECKS.due("39 no more", x.undo(), -1);
        CHECKS.due("42 the early ones stay", x.count(11) > 0, true);
        WardFalls y = row();
        for (int i = 1; i <= 21; i++) {
            y.lay(0, i % 2 == 0 ? 2 : 3);
        }
        for (int i = 0; i < 20; i++) {
            y.undo();
        }
        CHECKS.due("8 as it was behind the first", y.thing(0, 0), 3);
    }

    private static void goneBy() {
        WardFalls x = row();
        x.net(1, true);
        x.beats(0);
        x.years(0);
        x.beats(-1);
        x.years(100);
        CHECKS.due("42 none went by", x.count(9), 1);
        x.beats(1);
        CHECKS.due("42 a beat went by", x.count(9), 0);
        CHECKS.due("39 a beat went by", x.undo(), -1);
        x.net(1, false);
        x.years(1);
        CHECKS.due("39 a year went by", x.undo(), -1);
        x.net(1, true);
        CHECKS.due("39 since then", x.undo(), 0);
    }

    private static void images() {
        WardFalls x = row();
        CHECKS.due("41 there is none", x.back(), -1);
        x.beats(3);
        x.years(2);
        x.net(0, true);
        x.pour(0, 1);
        x.lay(1, 0);
        int down = x.ward(0, 0);
        CHECKS.due("40 the year", x.keep(), 2);
        CHECKS.due("42 to undo", x.count(9), 2 + (x.thing(1, 0) == 0 ? 1 : 0));
        int p = x.thing(0, 0);
        int steps = x.thing(0, 2);
        x.years(7);
        int ward = x.voted(8, 0);
        int voted = x.voted(8, 1);
        x.beats(5);
        x.net(0, false);
        x.drain();
        x.lay(0, 2);
        CHECKS.due("41 the year", x.back(), 2);
        CHECKS.due("42 the year", x.count(5), 2);
        CHECKS.due("42 beats", x.count(6), 3);
        CHECKS.due("42 nothing to undo", x.count(9), 0);
        CHECKS.due("42 water", x.count(10), 1);
        CHECKS.due("42 nets", x.count(11), 1);
        CHECKS.due("7 down", x.ward(0, 0), down);
        CHECKS.due("8 cell", x.thing(0, 0), p);
        CHECKS.due("8 steps", x.thing(0, 2), steps);
        CHECKS.due("37 not gone by", x.voted(2, 0), -1);
        x.years(7);
        CHECKS.due("37 the numbers, too", x.voted(8, 0), ward);
        CHECKS.due("37 the numbers, too", x.voted(8, 1), voted);
        CHECKS.due("41 again", x.back(), 2);
        x.years(1);
        CHECKS.due("40 in place of the one ahead", x.keep(), 3);
        x.years(1);
        CHECKS.due("41 the later one", x.back(), 3);
    }

    private static void imageKeepsNot() {
        WardFalls x = row();
        x.keep();
        x.note(0, 0);
        x.note(1, 1);
        x.known(1);
        Checks.feed(x, "wall;");
        x.text(5);
        x.feed(0, 0, 0, 0, 0);
        x.back();
        CHECKS.due("41 notes stay", x.count(7), 2);
        CHECKS.due("41 by how many stays", x.count(8), 1);
        CHECKS.due("41 the fault stays", x.fault(0), 1);
        CHECKS.due("41 the tape stays", x.feed(0, 0, 0, 0, 0), 40);
    }

    private static void counts() {
        WardFalls x = Checks.town("town 7 3;ward a right 1;part a 0 0 6 0;thing p 1 0 0;thing q 1 1 0;thing r 1 6 0;"
                + "law joy 1+(2);law push not year<3;");
        x.net(2, true);
        x.net(3, true);
        x.pour(0, 1);
        x.beats(1);
        x.years(1);
        x.note(0, 0);
        x.lay(0, 4);
        int[] due = {7, 3, 1, 3, 7, 1, 1, 1, 1, 1, 1, 2};
        for (int i = 0; i < due.length; i++) {
            CHECKS.due("42 count(" + i + ")", x.count(i), due[i]);
        }
        CHECKS.due("42 a next in the first cell", Checks.town("town 3 1;ward a left 0;part a 0 0 2 0;thing p 1 1 0;")
                .count(12), 1);
        WardFalls y = row();
        CHECKS.due("42 a thing ahead of another has a next", y.count(12), 2);
        y.net(0, true);
        CHECKS.due("42 a net", y.count(12), 1);
        y.vote(0, 4);
        CHECKS.due("42 still", y.count(12), 0);
        CHECKS.due("42 no such what", y.count(13), -1);
        CHECKS.due("42 no such what", y.count(-1), -1);
    }
}
