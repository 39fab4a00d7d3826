/** What README.md shows answers as it says there. */
public final class ReadmeTest {
    private static final Checks CHECKS = new Checks();

    public static void main(String[] args) {
        fed();
        used();
        CHECKS.end("ReadmeTest");
    }

    private static void fed() {
        WardFalls x = new WardFalls();
        CHECKS.due("feed", x.feed(0x77616c6c, 0x20312032, 0x3b202020, 0x20202020, 0x20202020), 20);
        CHECKS.due("text(9)", x.text(9), 1);
        CHECKS.due("cell(9, 1)", x.cell(9, 1), 1);
    }

    private static void used() {
        WardFalls x = Checks.town("ward a down 5;part a 0 0 3 3;thing p 9 1 0;law joy worth+rich;");
        CHECKS.due("rest(1)", x.rest(1), 13);
        CHECKS.due("ward(0, 3)", x.ward(0, 3), 14);
        CHECKS.due("beats(2)", x.beats(2), 2);
        CHECKS.due("thing(0, 0)", x.thing(0, 0), 9);
        CHECKS.due("vote(0, 0)", x.vote(0, 0), true);
        CHECKS.due("rest(9)", x.rest(9), 1);
        CHECKS.due("undo()", x.undo(), 0);
        CHECKS.due("rest(9)", x.rest(9), 13);
        CHECKS.due("walk(12, 15)", x.walk(12, 15), 3);
        CHECKS.due("push(13, 9, 0)", x.push(13, 9, 0), 1);
        CHECKS.due("note(0, 3)", x.note(0, 3), 0);
        CHECKS.due("may(0)", x.may(0), 2);
    }
}
