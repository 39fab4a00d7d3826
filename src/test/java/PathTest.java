/** Promises 20 to 23: walks and pushes. */
public final class PathTest {
    private static final Checks CHECKS = new Checks();

    public static void main(String[] args) {
        walks();
        walkTies();
        pushes();
        pushTies();
        CHECKS.end("PathTest");
    }

    /*
     * Cells  0  1  2  3  4    a goes down: one stands in 5 to 8, and in 2 (over the wall 7? no: 7 is free);
     *        5  6  7  8  9    9 is b's, which goes right; 3 is a stair
     */
    private static void walks() {
        WardFalls x = Checks.town("town 5 2;ward a down 0;ward b right 0;part a 0 0 3 1;part b 4 0 4 1;stair 3 0;");
        CHECKS.due("20 along", x.walk(5, 8), 3);
        CHECKS.due("20 nowhere", x.walk(6, 6), 0);
        CHECKS.due("20 up the stair", x.walk(5, 3), 4);
        CHECKS.due("20 a line without a stair", x.walk(8, 9), 3);
        CHECKS.due("21 by the stair", x.step(8, 9, 1), 3);
        CHECKS.due("21 by the stair", x.step(8, 9, 2), 4);
        CHECKS.due("21 the last", x.step(8, 9, 3), 9);
        CHECKS.due("21 no more", x.step(8, 9, 4), -2);
        CHECKS.due("21 the first", x.step(8, 9, 0), 8);
        CHECKS.due("21 no such k", x.step(8, 9, -1), -1);
        CHECKS.due("20 one can't stand there", x.walk(0, 8), -1);
        CHECKS.due("20 one can't stand there", x.walk(8, 0), -1);
        CHECKS.due("21 one can't stand there", x.step(8, 0, 0), -1);
        CHECKS.due("20 no such cell", x.walk(10, 8), -1);
        CHECKS.due("20 no such cell", x.walk(8, -1), -1);
        CHECKS.due("21 no such cell", x.step(10, 8, 0), -1);
        x.vote(1, 4);
        CHECKS.due("20 still", x.walk(8, 9), -1);
        WardFalls y = Checks.town("town 3 2;ward a down 0;part a 0 0 2 1;wall 1 1;");
        CHECKS.due("20 no way round", y.walk(3, 5), -2);
        CHECKS.due("21 no way round", y.step(3, 5, 0), -2);
        CHECKS.due("6 one stands on the wall", y.cell(1, 7), 1);
        CHECKS.due("20 a wall", y.walk(3, 4), -1);
        CHECKS.due("20 nobody's", new WardFalls().walk(0, 0), -1);
    }

    private static void walkTies() {
        // stairs everywhere but in the middle: two ways round, the one by the lesser DOWN first
        WardFalls x = Checks.town("town 3 3;stair 0 0;stair 1 0;stair 2 0;stair 0 1;stair 2 1;stair 0 2;stair 1 2;"
                + "stair 2 2;");
        CHECKS.due("20 around", x.walk(0, 8), 4);
        CHECKS.due("21 right goes ahead of down", x.step(0, 8, 1), 1);
        CHECKS.due("21 right goes ahead of down", x.step(0, 8, 2), 2);
        CHECKS.due("21 up goes ahead of left", x.step(8, 0, 1), 5);
        CHECKS.due("21 down goes ahead of left", x.step(2, 6, 1), 5);
        CHECKS.due("21 up goes ahead of right", x.step(6, 2, 1), 3);
    }

    private static void pushes() {
        WardFalls x = Checks.town("town 4 2;ward a right 0;part a 0 0 3 0;wall 1 1;law push 5+here*20;"
                + "thing p 9 1 0;");
        CHECKS.due("22 for nothing", x.push(0, 3, 0), 0);
        CHECKS.due("22 steps", x.push(0, 3, 1), 3);
        CHECKS.due("22 nowhere", x.push(2, 2, 0), 0);
        CHECKS.due("22 nowhere", x.push(2, 2, 1), 0);
        CHECKS.due("23 nowhere", x.pushed(2, 2, 0), 2);
        CHECKS.due("23 no more", x.pushed(2, 2, 1), -2);
        CHECKS.due("22 back, over the thing", x.push(3, 0, 0), 35);
        CHECKS.due("22 down", x.push(0, 4, 0), 5);
        CHECKS.due("22 along", x.push(0, 7, 0), 5);
        CHECKS.due("23 for nothing as long as it can", x.pushed(0, 7, 2), 2);
        CHECKS.due("23 right goes ahead of down", x.pushed(0, 7, 3), 3);
        CHECKS.due("23 the last", x.pushed(0, 7, 4), 7);
        CHECKS.due("22 no such what", x.push(0, 7, 2), -1);
        CHECKS.due("22 no such what", x.push(0, 7, -1), -1);
        CHECKS.due("22 no such cell", x.push(0, 8, 0), -1);
        CHECKS.due("22 no such cell", x.push(-1, 0, 0), -1);
        CHECKS.due("23 no such k", x.pushed(0, 7, -1), -1);
        CHECKS.due("23 no such cell", x.pushed(8, 0, 0), -1);
        CHECKS.due("23 a wall", x.pushed(0, 5, 0), -1);
        x.net(0, true);
        CHECKS.due("22 a net holds it: not for nothing", x.push(0, 3, 0), 25);
        WardFalls y = Checks.town("town 3 1;wall 1 0;");
        CHECKS.due("22 it can't be", y.push(0, 2, 0), -2);
        CHECKS.due("22 it can't be", y.push(0, 2, 1), -2);
        CHECKS.due("23 it can't be", y.pushed(0, 2, 0), -2);
        CHECKS.due("22 1 without a law", new WardFalls().push(0, 15, 0), 6);
        CHECKS.due("22 1 with an error", Checks.town("law push 1/0;").push(0, 15, 0), 6);
        CHECKS.due("22 put to 999", Checks.town("law push 1000;").push(0, 1, 0), 999);
        CHECKS.due("22 put to 0", Checks.town("law push 0-1;").push(0, 15, 0), 0);
        CHECKS.due("22 for nothing, by the fewest steps", Checks.town("law push 0;").push(0, 15, 1), 6);
        CHECKS.due("22 the longest", Checks.town("town 8 6;law push 9999;").push(0, 47, 0), 999 * 12);
    }

    private static void pushTies() {
        WardFalls x = new WardFalls();
        int[] right = {0, 1, 2, 3, 7, 11, 15};
        int[] up = {12, 8, 4, 0, 1, 2, 3};
        int[] down = {3, 7, 11, 15, 14, 13, 12};
        for (int i = 0; i < 7; i++) {
            CHECKS.due("23 right ahead of down", x.pushed(0, 15, i), right[i]);
            CHECKS.due("23 up ahead of right", x.pushed(12, 3, i), up[i]);
            CHECKS.due("23 down ahead of left", x.pushed(3, 12, i), down[i]);
        }
        // the least sum goes ahead of the fewest steps: round by the row that falls
        WardFalls y = Checks.town("town 4 3;ward a up 0;ward b right 0;ward c down 0;part a 0 1 0 2;part b 0 0 2 0;"
                + "part c 3 0 3 1;law push 9;");
        CHECKS.due("22 the least sum", y.push(8, 11, 0), 0);
        CHECKS.due("22 its steps", y.push(8, 11, 1), 7);
        CHECKS.due("22 the fewest steps of a sum", y.push(8, 9, 1), 1);
    }
}
