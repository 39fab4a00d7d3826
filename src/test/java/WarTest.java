/** Promises 24 to 26: wars, nets, the clock. */
public final class WarTest {
    private static final Checks CHECKS = new Checks();

    public static void main(String[] args) {
        wars();
        nets();
        clocks();
        clockTies();
        CHECKS.end("WarTest");
    }

    private static void wars() {
        // a a a b . / a c c b b   a goes right, b down, c up
        WardFalls x = Checks.town("town 5 2;ward a right 0;ward b down 0;ward c up 0;part a 0 0 2 0;part a 0 1 0 1;"
                + "part b 3 0 3 1;part b 4 1 4 1;part c 1 1 2 1;");
        CHECKS.due("24 a on b", x.war(0, 1), 3);
        CHECKS.due("24 a on c", x.war(0, 2), 1);
        CHECKS.due("24 c on a", x.war(2, 0), 2);
        CHECKS.due("24 only by the first line", x.war(2, 1), 0);
        CHECKS.due("24 b rests", x.war(1, 0), 0);
        x.net(1, true);
        CHECKS.due("24 a net between", x.war(0, 1), 1);
        CHECKS.due("24 alike", x.war(1, 1), -1);
        CHECKS.due("24 no such ward", x.war(3, 0), -1);
        CHECKS.due("24 no such ward", x.war(0, 3), -1);
        CHECKS.due("24 no such ward", x.war(-1, 0), -1);
        CHECKS.due("24 nobody is none", x.war(0, -1), -1);
        WardFalls y = Checks.town("town 5 1;ward a right 0;ward b right 0;part a 0 0 3 0;part b 4 0 4 0;wall 1 0;");
        CHECKS.due("24 no walls", y.war(0, 1), 2);
        WardFalls z = Checks.town("town 4 1;ward a right 0;ward b right 0;part a 0 0 1 0;part b 3 0 3 0;");
        CHECKS.due("24 nobody's between", z.war(0, 1), 0);
    }

    private static void nets() {
        WardFalls x = Checks.town("town 4 2;ward a right 0;ward b up 0;part a 0 0 2 0;part b 0 1 2 1;wall 1 1;");
        // 2 crosses to nobody's 3; 4 and 6 cross up, 5 is a wall
        CHECKS.due("25 nets", x.nets(), 1 << 2 | 1 << 4 | 1 << 6);
        x.net(2, true);
        CHECKS.due("25 one is there", x.nets(), 1 << 4 | 1 << 6);
        x.net(0, true);
        CHECKS.due("25 another one doesn't matter", x.nets(), 1 << 4 | 1 << 6);
        x.vote(1, 4);
        CHECKS.due("25 none", x.nets(), 0);
        WardFalls y = Checks.town("town 8 6;ward a right 0;ward b left 0;part a 6 5 6 5;part b 7 5 7 5;");
        CHECKS.due("25 the highest bits", y.nets(), 3L << 46);
        CHECKS.due("25 the first cell", Checks.town("ward a right 0;part a 0 0 0 0;").nets(), 1);
        CHECKS.due("25 no wards", new WardFalls().nets(), 0);
    }

    private static void clocks() {
        WardFalls x = Checks.town("town 4 2;ward a right 0;ward b down 0;ward c left 0;ward d down 0;part a 0 0 2 0;"
                + "part b 3 0 3 0;part c 1 1 3 1;part d 0 1 0 1;");
        CHECKS.due("26 all around, if d goes up", x.clock(0), 8);
        CHECKS.due("26 the ward", x.clock(1), 3);
        CHECKS.due("26 its down", x.clock(2), 0);
        CHECKS.due("26 the least cell", x.clock(3), 0);
        CHECKS.due("26 no such what", x.clock(4), -1);
        CHECKS.due("26 no such what", x.clock(-1), -1);
        CHECKS.due("26 nothing changes", x.ward(3, 0), 2);
        x.vote(3, 0);
        CHECKS.due("26 as it is", x.clock(0), 8);
        CHECKS.due("26 as it is", x.clock(1), -1);
        CHECKS.due("26 as it is", x.clock(2), -1);
        CHECKS.due("26 as it is", x.clock(3), 0);
        x.net(5, true);
        CHECKS.due("26 a net in it", x.clock(0), 2);
        CHECKS.due("26 a net in it, the ward", x.clock(1), 0);
        CHECKS.due("26 a net in it, its down", x.clock(2), 2);
        CHECKS.due("26 a net in it, its least cell", x.clock(3), 0);
    }

    private static void clockTies() {
        WardFalls none = Checks.town("town 4 1;ward a right 0;part a 0 0 3 0;");
        CHECKS.due("26 none", none.clock(0), 0);
        CHECKS.due("26 none", none.clock(1), -1);
        CHECKS.due("26 none", none.clock(2), -1);
        CHECKS.due("26 none", none.clock(3), -1);
        // 1 and 2 go round as they are; so would 3 and 4 by b's or c's other DOWN: no longer one
        WardFalls x = Checks.town("town 5 1;ward a right 0;ward b left 0;ward c right 0;part a 1 0 1 0;part b 2 0 2 0;"
                + "part c 3 0 3 0;part b 4 0 4 0;");
        CHECKS.due("26 two rounds", x.clock(0), 2);
        CHECKS.due("26 as it is goes first", x.clock(1), -1);
        CHECKS.due("26 the least of both", x.clock(3), 1);
        x.vote(0, 0);
        x.vote(2, 0);
        CHECKS.due("26 a or c to the right", x.clock(0), 2);
        CHECKS.due("26 the first ward", x.clock(1), 0);
        CHECKS.due("26 its down", x.clock(2), 1);
        // a ward of one cell beside two others: 2 up or 3 left would both do
        WardFalls y = Checks.town("town 2 2;ward a right 0;ward b left 0;ward c up 0;part b 1 0 1 0;part c 0 1 0 1;"
                + "part a 0 0 0 0;");
        y.vote(0, 4);
        y.vote(1, 3);
        CHECKS.due("26 the first down", y.clock(2), 1);
    }
}
