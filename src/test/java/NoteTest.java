/** Promises 31 to 35: notes, strikes, by how many it is known, fits. */
public final class NoteTest {
    private static final Checks CHECKS = new Checks();

    public static void main(String[] args) {
        notes();
        strikes();
        known();
        fits();
        fitsAsTheyAre();
        may();
        CHECKS.end("NoteTest");
    }

    /** a has 0 and 1, b 2 and 3 of a row, the wall is 4. */
    private static WardFalls row() {
        return Checks.town("town 6 1;ward a right 1;ward b right 2;part a 0 0 1 0;part b 2 0 3 0;wall 4 0;");
    }

    private static void notes() {
        WardFalls x = row();
        CHECKS.due("31 the first", x.note(0, 3), 0);
        CHECKS.due("31 the same again", x.note(0, 3), 1);
        CHECKS.due("31 round", x.note(0, -1), 2);
        CHECKS.due("31 itself", x.note(5, 5), 3);
        CHECKS.due("31 a wall", x.note(4, 0), -1);
        CHECKS.due("31 a wall", x.note(0, 4), -1);
        CHECKS.due("31 no such cell", x.note(6, 0), -1);
        CHECKS.due("31 no such cell", x.note(-1, 0), -1);
        CHECKS.due("31 no such cell", x.note(0, 6), -1);
        CHECKS.due("31 no such cell", x.note(0, -2), -1);
        CHECKS.due("42 four", x.count(7), 4);
        for (int i = 4; i < 24; i++) {
            CHECKS.due("31 number " + i, i % 2 == 0 ? x.note(0, 1) : x.strike(i - 1), i);
        }
        CHECKS.due("31 a 25th", x.note(0, 3), -1);
        CHECKS.due("32 a 25th", x.strike(0), -1);
        CHECKS.due("42 24", x.count(7), 24);
    }

    private static void strikes() {
        WardFalls x = row();
        CHECKS.due("32 no such note", x.strike(0), -1);
        x.note(0, 0);
        CHECKS.due("34 a isn't right, or has a hold", x.fits(), 20);
        CHECKS.due("32 below 0", x.strike(-1), -1);
        CHECKS.due("32 beyond", x.strike(1), -1);
        CHECKS.due("32 struck", x.strike(0), 1);
        CHECKS.due("34 all again", x.fits(), 25);
        CHECKS.due("32 the strike struck", x.strike(1), 2);
        CHECKS.due("34 counts again", x.fits(), 20);
        CHECKS.due("32 and that one", x.strike(2), 3);
        CHECKS.due("34 all again", x.fits(), 25);
        CHECKS.due("32 twice", x.strike(0), 4);
        CHECKS.due("32 the second one struck", x.strike(4), 5);
        CHECKS.due("34 still struck by the first", x.fits(), 25);
        CHECKS.due("32 the first strike struck, too", x.strike(1), 6);
        CHECKS.due("34 counts again", x.fits(), 20);
    }

    private static void known() {
        WardFalls x = row();
        CHECKS.due("33 by none", x.known(0), true);
        CHECKS.due("33 no such n", x.known(1), false);
        CHECKS.due("33 no such n", x.known(-2), false);
        CHECKS.due("42 by none", x.count(8), 0);
        x.note(0, 0);
        x.strike(0);
        CHECKS.due("42 by none", x.count(8), 0);
        CHECKS.due("34 by none", x.fits(), 25);
        CHECKS.due("33 by one", x.known(1), true);
        CHECKS.due("34 the strike isn't known", x.fits(), 20);
        CHECKS.due("33 by two", x.known(2), true);
        CHECKS.due("34 struck", x.fits(), 25);
        x.note(0, 0);
        CHECKS.due("34 the next one isn't known", x.fits(), 25);
        CHECKS.due("42 by two", x.count(8), 2);
        CHECKS.due("33 by all", x.known(-1), true);
        CHECKS.due("42 by all", x.count(8), 3);
        CHECKS.due("34 by all", x.fits(), 20);
        x.strike(2);
        CHECKS.due("42 also those to come", x.count(8), 4);
        CHECKS.due("34 also those to come", x.fits(), 25);
        CHECKS.due("33 by all there are", x.known(4), true);
        CHECKS.due("33 no such n", x.known(5), false);
        CHECKS.due("42 no such n stays", x.count(8), 4);
    }

    private static void fits() {
        CHECKS.due("34 no wards", new WardFalls().fits(), 1);
        WardFalls none = new WardFalls();
        none.note(0, 1);
        CHECKS.due("34 no wards, not so", none.fits(), 0);
        CHECKS.due("34 four wards", Checks.town("ward a up 0;ward b up 0;ward c up 0;ward d up 0;").fits(), 625);
        WardFalls x = row();
        x.note(0, 3);
        CHECKS.due("34 both right", x.fits(), 1);
        WardFalls y = row();
        y.note(1, -1);
        CHECKS.due("34 round", y.fits(), 1);
        CHECKS.due("35 a right", y.may(0), 2);
        CHECKS.due("35 b left", y.may(1), 8);
        y.note(0, 1);
        CHECKS.due("34 never", y.fits(), 0);
        CHECKS.due("35 never", y.may(0), 0);
        CHECKS.due("7 nothing changes", y.ward(1, 0), 1);
    }

    private static void fitsAsTheyAre() {
        WardFalls x = row();
        x.note(0, 1);
        CHECKS.due("34 no way to rest in 1", x.fits(), 0);
        x.net(1, true);
        CHECKS.due("34 but by a net", x.fits(), 5);
        x.net(1, false);
        WardFalls y = Checks.town("town 3 1;ward a up 1;part a 0 0 1 0;thing p 1 1 0;");
        y.note(0, 2);
        CHECKS.due("34 a thing in the way doesn't matter", y.fits(), 1);
        WardFalls z = Checks.town("town 3 1;ward a up 1;part a 0 0 1 0;wall 2 0;");
        z.note(0, 1);
        CHECKS.due("34 a wall does", z.fits(), 1);
    }

    private static void may() {
        WardFalls x = row();
        CHECKS.due("35 all", x.may(0), 31);
        x.note(0, 0);
        CHECKS.due("35 not right", x.may(0), 29);
        CHECKS.due("35 all of b", x.may(1), 31);
        x.note(2, 2);
        CHECKS.due("35 nor b", x.may(1), 21);
        x.note(3, 2);
        CHECKS.due("35 3 goes to 2 and on to 1", x.may(1), 0);
        CHECKS.due("35 no such ward", x.may(2), -1);
        CHECKS.due("35 no such ward", x.may(-1), -1);
    }
}
