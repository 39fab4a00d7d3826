/** Sentences of the document that name an edge, read again: each one that the other tests leave out. */
public final class EdgeTest {
    private static final Checks CHECKS = new Checks();

    /** A ROUND of all 48 CELLS: right along the top, to and fro over the rows below it, up along the left side. */
    private static final String ROUND = "town 8 6;ward a right 0;ward b left 0;ward c down 0;ward d up 0;"
            + "part a 0 0 7 5;part b 1 1 7 1;part b 1 3 7 3;part b 1 5 7 5;part d 0 1 0 5;part c 7 0 7 0;"
            + "part c 1 1 1 1;part c 7 2 7 2;part c 1 3 1 3;part c 7 4 7 4;thing p 3 0 0;";

    public static void main(String[] args) {
        bytes();
        signs();
        leastOfOnePlace();
        firstAlongTheText();
        lengthIfMoreMustCome();
        longestRound();
        longestWay();
        longestPush();
        netsAndStanding();
        yearOfTheSameDown();
        yearsNoneDoes();
        noneGoesFirst();
        triedStill();
        triedFromNow();
        undoneOverNothing();
        knownAndStruck();
        imageOfAllElse();
        bounds();
        valuesAtTheEdge();
        CHECKS.end("EdgeTest");
    }

    /** Blanks are 10 and 32 alone. */
    private static void bytes() {
        CHECKS.good("\n \nwall\n0 0\n;\n", 1);
        for (int sign : new int[] {0, 9, 11, 13, 31, 33, 127, 128, 160, 255}) {
            CHECKS.faulty("wall" + (char) sign + "0 0;", 1, 4);
        }
        for (char sign : new char[] {'/' - 1, '9' + 1, 'a' - 1, 'z' + 1, 'A', 'Z'}) {
            CHECKS.faulty("wall 0 0;" + sign, 1, 9);
        }
        CHECKS.good("ward az left 0;ward z up 90;seed 09;", 3);
    }

    private static void signs() {
        CHECKS.faulty("law joy 1=>2;", 1, 10);
        CHECKS.faulty("law joy 1<=>2;", 1, 11);
        CHECKS.faulty("law joy 1<>=2;", 1, 11);
        CHECKS.faulty("law joy 1>>2;", 1, 10);
        CHECKS.faulty("law joy 1==2;", 1, 10);
        CHECKS.faulty("law joy 1> =2;", 1, 11);
        CHECKS.faulty("law joy 1< >2;", 1, 11);
        CHECKS.faulty("law joy 1<(2<3)<4;", 1, 15);
        CHECKS.faulty("law joy 1<(2+(3=4))=5;", 1, 19);
        CHECKS.good("law joy (1<2)<(3<4);", 1);
        CHECKS.good("law joy 1<2 or 3<4;", 1);
        CHECKS.good("law joy (1<2 and 2<3)and not 3<4;", 1);
        CHECKS.faulty("law joy not;", 1, 11);
        CHECKS.faulty("law joy not and 1;", 1, 12);
        CHECKS.faulty("law joy 1 or or 1;", 1, 13);
        CHECKS.faulty("law joy 1*not 2;", 1, 10);
        CHECKS.faulty("law joy 1-not 2;", 1, 10);
        CHECKS.good("law joy 1 or not 2 and not not 3;", 1);
        CHECKS.faulty("law joy (1 not 2);", 1, 11);
        CHECKS.faulty("law joy 1(2);", 1, 9);
        CHECKS.faulty("law joy (1)2;", 1, 11);
        CHECKS.faulty("law joy (1)(2);", 1, 11);
        CHECKS.faulty("law joy rich size;", 1, 13);
    }

    /** Of one place the least. */
    private static void leastOfOnePlace() {
        String all = "law push " + "1+".repeat(31) + "1;";
        CHECKS.good(all + "law joy 1;", 2);
        CHECKS.faulty(all + "law joy 1+;", 2, all.length() + 9);
        CHECKS.faulty(all + "law joy 1 1;", 1, all.length() + 10);
        CHECKS.faulty(all + "law joy 1 a;", 1, all.length() + 10);
        CHECKS.faulty(all + "law joy 1(1);", 1, all.length() + 9);
        CHECKS.faulty("law joy 1 10000;", 1, 10);
        CHECKS.faulty("law joy ((((((((1(;", 1, 17);
        CHECKS.faulty("wall 0 0 99;", 1, 9);
        CHECKS.faulty("ward 100 up 1;", 1, 5);
        CHECKS.faulty("thing abcdefg 1 0 0;", 1, 6);
        CHECKS.faulty("seed 1;wall 0 0;seed 2;", 3, 16);
        CHECKS.faulty("town 2 2;stair 0 0;town 9 9;", 3, 19);
        CHECKS.faulty("town 2 2;thing p 0 0 0;town", 3, 23);
    }

    /** The first along the text: what comes behind it is not looked at. */
    private static void firstAlongTheText() {
        CHECKS.faulty("wall 4 #;", 2, 5);
        CHECKS.faulty("wall # 4;", 1, 5);
        CHECKS.faulty("wall 0 4 #", 2, 7);
        CHECKS.faulty("wall 0 0;wall 0 0 #", 3, 16);
        CHECKS.faulty("stair 0 0;wall 0 0 0;", 5, 17);
        CHECKS.faulty("part a # 0 0 0;", 4, 5);
        CHECKS.faulty("ward a up 1;part a 1 1 0 #;", 2, 23);
        CHECKS.faulty("ward a up 1;ward a #;", 3, 17);
        CHECKS.faulty("thing a 1 0 0;thing a 100 9 9;", 3, 20);
        CHECKS.faulty("thing a 100 9 9;", 2, 8);
        CHECKS.faulty("law joy 10000 #;", 2, 8);
        CHECKS.faulty("law joy 1;law joy #;", 3, 14);
        CHECKS.faulty("seed 1;seed #;", 3, 7);
        CHECKS.faulty("wall 0 0;town #;", 4, 9);
        CHECKS.faulty("seed 1 seed 2;", 1, 7);
        // A LINE that a later one would set right is read as it stands.
        CHECKS.faulty("wall 5 0;town 8 6;", 2, 5);
        CHECKS.faulty("part b 0 0 0 0;ward b up 1;", 4, 5);
        CHECKS.good("thing b 1 0 0;ward b up 1;part b 0 0 0 0;", 3);
    }

    /** The length is n, whatever stands behind on the TAPE. */
    private static void lengthIfMoreMustCome() {
        String[] cut = {
            "town", "town 1", "town 1 1", "ward", "ward a", "ward a up", "ward a up 1", "wall", "stair 1", "seed",
            "seed 1", "thing", "thing a", "thing a 1", "thing a 1 0", "thing a 1 0 0", "law", "law joy", "law joy (",
            "law joy 1", "law joy not", "law joy 1+", "law joy (1", "law joy 1 and", "law joy 1<", "ward a up 1;part",
            "ward a up 1;part a 0 0 0", "ward a up 1;part a 0 0 0 0",
        };
        for (String text : cut) {
            CHECKS.faulty(text, 1, text.length());
            CHECKS.faulty(text + " \n ", 1, text.length() + 3);
        }
        WardFalls x = new WardFalls();
        Checks.feed(x, "wall 1 1;#");
        CHECKS.due("3 the first nine bytes", x.text(9), 1);
        Checks.feed(x, "wall 0 0;wall 1 1;");
        CHECKS.due("3 within the second line", x.text(13), -1);
        CHECKS.due("4 its length", x.fault(1), 13);
        CHECKS.due("3 the wall of the text ahead", x.cell(5, 1), 1);
        CHECKS.due("3 none of the faulty one", x.cell(0, 1), 0);
    }

    private static void longestRound() {
        WardFalls x = Checks.town(ROUND);
        for (int cell = 0; cell < 48; cell++) {
            CHECKS.due("10 rest " + cell, x.rest(cell), -2);
            CHECKS.due("12 steps ahead of it " + cell, x.falls(cell, 0), 0);
            CHECKS.due("12 its cells " + cell, x.falls(cell, 1), 48);
            CHECKS.due("12 no lines " + cell, x.falls(cell, 2), -2);
            CHECKS.due("12 no such what " + cell, x.falls(cell, 3), -1);
        }
        CHECKS.due("11 the last", x.way(0, 47), 8);
        CHECKS.due("11 again", x.way(0, 48), 0);
        CHECKS.due("11 2147483647 is 31 modulo 48", x.way(0, Integer.MAX_VALUE), x.way(0, 31));
        CHECKS.due("26 all", x.clock(0), 48);
        CHECKS.due("26 as it is", x.clock(1), -1);
        CHECKS.due("26 as it is", x.clock(2), -1);
        CHECKS.due("26 the first", x.clock(3), 0);
        CHECKS.due("17 all lost", x.pour(20, 99), 0);
        CHECKS.due("13 on and on", x.beats(200), 200);
        CHECKS.due("8 200 is 8 modulo 48", x.thing(0, 0), x.way(0, 8));
        CHECKS.due("31 round", x.note(47, -1), 0);
        CHECKS.due("34 it is so", (x.may(0) >> 1 & 1) + (x.may(1) >> 3 & 1) + (x.may(2) >> 2 & 1) + (x.may(3) & 1), 4);
        x.vote(3, 4);
        CHECKS.due("26 by the last ward", x.clock(0), 48);
        CHECKS.due("26 by the last ward", x.clock(1), 3);
        CHECKS.due("26 its down", x.clock(2), 0);
    }

    private static void longestWay() {
        WardFalls x = Checks.town(ROUND);
        x.net(8, true);
        CHECKS.due("10 rests behind all", x.rest(0), 8);
        CHECKS.due("12 steps", x.falls(0, 0), 47);
        CHECKS.due("12 no round", x.falls(0, 1), 0);
        CHECKS.due("12 lines", x.falls(0, 2), 11);
        CHECKS.due("11 the last", x.way(0, 47), 8);
        CHECKS.due("11 no more", x.way(0, 48), -2);
        CHECKS.due("7 it comes there", x.ward(3, 3), 3);
        CHECKS.due("17 one in each cell", x.pour(0, 99), 48);
        CHECKS.due("42 all wet", x.count(10), 48);
        CHECKS.due("17 no more", x.pour(30, 1), 0);
        // The 22 of the upper rows come first and fill the lower ones, where all of their own are lost then.
        CHECKS.due("19 d still", x.flood(3, 4), (1L << 48) - 1 - 0xfefeffL);
        x.net(8, false);
        CHECKS.due("19 all go round", x.flood(3, 0), 0);
        CHECKS.due("19 nothing changes", x.count(10), 48);
        CHECKS.due("18 all", x.drain(), 48);
    }

    /** The sum goes ahead of the STEPS: 47 of them for nothing, or one for 1. */
    private static void longestPush() {
        for (String law : new String[] {"", "law push 1;", "law push 9999;"}) {
            WardFalls x = Checks.town(ROUND + law);
            CHECKS.due("22 for nothing", x.push(0, 8, 0), 0);
            CHECKS.due("22 all around", x.push(0, 8, 1), 47);
            for (int k = 0; k < 48; k++) {
                CHECKS.due("23 step " + k, x.pushed(0, 8, k), x.way(0, k));
            }
            CHECKS.due("23 no more", x.pushed(0, 8, 48), -2);
        }
        WardFalls y = Checks.town(ROUND + "law push 0;");
        CHECKS.due("22 of several the fewest steps", y.push(0, 8, 1), 1);
        CHECKS.due("23 of several the fewest steps", y.pushed(0, 8, 1), 8);
    }

    /** A NET is nothing to standing, to walks, to what is told of push. */
    private static void netsAndStanding() {
        WardFalls x = Checks.town("town 3 2;ward a down 4;part a 0 0 2 1;law push against*9;");
        x.net(4, true);
        CHECKS.due("6 one stands in it", x.cell(4, 7), 1);
        CHECKS.due("20 one walks over it", x.walk(3, 5), 2);
        CHECKS.due("9 against its down all the same", x.law(0, 4, 0), 9);
        x.net(1, true);
        CHECKS.due("6 a net above", x.cell(1, 7), 0);
        CHECKS.due("22 no next: the law, put to 0", x.push(1, 4, 0), 0);
        WardFalls y = Checks.town("town 2 2;ward a down 4;stair 0 0;");
        CHECKS.due("6 a stair of nobody's", y.cell(0, 7), 1);
        CHECKS.due("6 nobody's", y.cell(2, 7), 0);
        WardFalls z = Checks.town("town 2 1;ward a right 4;part a 0 0 0 0;stair 1 0;wall 0 0;");
        CHECKS.due("6 no wall is stood in", z.cell(0, 7), 0);
        CHECKS.due("20 a stair alone", z.walk(1, 1), 0);
        CHECKS.due("20 no wall", z.walk(1, 0), -1);
    }

    /** There is a FLOOD behind a YEAR's vote, even if the WARD had that DOWN; of a NET taken away there is none. */
    private static void yearOfTheSameDown() {
        WardFalls x = Checks.town("town 1 4;ward a up 0;part a 0 0 0 3;");
        x.net(2, true);
        x.pour(3, 1);
        x.net(2, false);
        CHECKS.due("15 it stays", x.cell(2, 4), 1);
        CHECKS.due("14 no vote, no flood", x.vote(0, 0), false);
        CHECKS.due("14 it stays", x.cell(2, 4), 1);
        x.years(0);
        CHECKS.due("36 it stays", x.cell(2, 4), 1);
        x.years(1);
        CHECKS.due("37 up", x.voted(0, 1), 0);
        CHECKS.due("37 it was up", x.voted(0, 2), 0);
        CHECKS.due("36 run anew", x.cell(2, 4), 0);
        CHECKS.due("36 run anew", x.cell(0, 4), 1);
    }

    private static void yearsNoneDoes() {
        WardFalls x = Checks.town("ward a up 0;ward b up 0;seed 9;");
        x.net(0, true);
        CHECKS.due("36 behind 99", x.years(50), 50);
        int a = x.ward(0, 0);
        int b = x.ward(1, 0);
        x.net(1, true);
        CHECKS.due("36 behind 99", x.years(50), -1);
        CHECKS.due("36 none does", x.count(5), 50);
        CHECKS.due("36 none does", x.voted(50, 0), -1);
        CHECKS.due("36 none does", x.ward(0, 0) * 5 + x.ward(1, 0), a * 5 + b);
        CHECKS.due("36 none went by", x.count(9), 1);
        CHECKS.due("36 as far as 99", x.years(49), 99);
        CHECKS.due("42 gone by", x.count(9), 0);
    }

    /** Of several answers that hold NONE goes first. */
    private static void noneGoesFirst() {
        WardFalls x = Checks.town("town 3 2;ward a down 0;part a 0 0 2 1;wall 1 0;wall 1 1;");
        CHECKS.due("20 there is none", x.walk(3, 5), -2);
        CHECKS.due("21 k below 0", x.step(3, 5, -1), -1);
        CHECKS.due("21 k below 0", x.step(3, 5, Integer.MIN_VALUE), -1);
        CHECKS.due("21 there is none", x.step(3, 5, Integer.MAX_VALUE), -2);
        CHECKS.due("22 it can't be", x.push(3, 5, 0), -2);
        CHECKS.due("22 no such what", x.push(3, 5, 2), -1);
        CHECKS.due("22 no such what", x.push(3, 5, -1), -1);
        CHECKS.due("23 k below 0", x.pushed(3, 5, -1), -1);
        CHECKS.due("23 it can't be", x.pushed(3, 5, Integer.MAX_VALUE), -2);
        CHECKS.due("28 k below 0", x.stay(Integer.MIN_VALUE), -1);
        CHECKS.due("28 no so many", x.stay(Integer.MAX_VALUE), -2);
        WardFalls y = Checks.town("town 2 2;ward a up 0;ward b up 1;part b 0 0 0 0;part a 1 0 1 0;part a 0 1 0 1;"
                + "part b 1 1 1 1;thing p 2 0 0;thing q 1 1 1;law joy here;");
        CHECKS.due("29 none", y.treaty(1), -2);
        CHECKS.due("29 no such what", y.treaty(2), -1);
        CHECKS.due("30 no end", y.moves(15, 1), -2);
        CHECKS.due("30 no such what", y.moves(15, 2), -1);
        CHECKS.due("30 no such votes", y.moves(16, 1), -1);
        CHECKS.due("30 no such votes", y.moves(Integer.MIN_VALUE, 0), -1);
        WardFalls z = new WardFalls();
        z.years(1);
        CHECKS.due("37 no such what", z.voted(0, 3), -1);
        CHECKS.due("37 none", z.voted(0, 2), -2);
        CHECKS.due("3 below 0", z.text(Integer.MIN_VALUE), -2);
        CHECKS.due("3 there are not so many", z.text(Integer.MAX_VALUE), -2);
    }

    private static void triedStill() {
        WardFalls x = Checks.town("town 3 3;ward a up 0;ward b right 0;part a 1 1 1 1;part b 1 2 1 2;thing p 1 1 1;"
                + "thing q 1 1 2;");
        CHECKS.due("38 a still, q goes", x.tried(3, 0, 9), 1);
        CHECKS.due("38 b still, p goes", x.tried(3, 1, 9), 1);
        for (int down = 0; down < 4; down++) {
            x.vote(0, down);
            CHECKS.due("38 a still, whatever it was", x.tried(3, 0, 9), 1);
        }
    }

    /** From now on: by the NETS, DOWNS and places of now; nothing stays of it. */
    private static void triedFromNow() {
        WardFalls x = Checks.town("town 6 1;ward a right 0;part a 0 0 5 0;thing p 1 0 0;thing q 1 3 0;");
        x.beats(1);
        CHECKS.due("38 behind a beat", x.tried(0, 0, 200), 4);
        x.net(2, true);
        CHECKS.due("38 by the net", x.tried(1, 0, 200), 2);
        CHECKS.due("38 without it", x.tried(0, 0, 200), 4);
        x.vote(0, 3);
        CHECKS.due("38 by the down", x.tried(1, 0, 200), 3);
        CHECKS.due("38 by the down, no net", x.tried(0, 0, 200), 1 + 3);
        CHECKS.due("38 p isn't there", x.tried(4, 0, 200), 2);
        CHECKS.due("38 one beat", x.tried(4, 0, 1), 1);
        CHECKS.due("6 the net", x.cell(2, 3), 1);
        CHECKS.due("8 p", x.thing(0, 0), 1);
        CHECKS.due("8 q", x.thing(1, 0), 4);
        CHECKS.due("8 q's steps", x.thing(1, 2), 1);
        CHECKS.due("42 beats", x.count(6), 1);
        CHECKS.due("42 to undo", x.count(9), 2);
        CHECKS.due("27 as now", x.ward(0, 0), 3);
    }

    /** What did nothing can't be undone: the latest that did something is. */
    private static void undoneOverNothing() {
        WardFalls x = Checks.town("town 2 1;ward a right 0;part a 0 0 1 0;thing p 1 0 0;wall 1 0;");
        CHECKS.due("17 one stays", x.pour(0, 1), 1);
        CHECKS.due("17 none stays", x.pour(0, 99), 0);
        CHECKS.due("14 it has it", x.vote(0, 1), false);
        CHECKS.due("15 it is so", x.net(0, false), false);
        CHECKS.due("16 it lies there", x.lay(0, 0), false);
        CHECKS.due("42 one", x.count(9), 1);
        CHECKS.due("39 what stayed", x.undo(), 0);
        CHECKS.due("42 dry", x.count(10), 0);
        CHECKS.due("18 nothing", x.drain(), 0);
        CHECKS.due("39 none", x.undo(), -1);
        x.net(0, true);
        Checks.feed(x, "?");
        CHECKS.due("3 a fault", x.text(1), -1);
        CHECKS.due("39 the net, behind a fault", x.undo(), 0);
        CHECKS.due("42 no net", x.count(11), 0);
        x.net(0, true);
        Checks.feed(x, ";");
        CHECKS.due("3 a text", x.text(0), 0);
        CHECKS.due("39 nothing then", x.undo(), -1);
    }

    private static void knownAndStruck() {
        WardFalls x = Checks.town("town 2 1;ward a right 0;part a 0 0 1 0;");
        x.note(0, 1);
        x.note(1, 0);
        CHECKS.due("34 not both", x.fits(), 0);
        x.strike(1);
        CHECKS.due("34 right alone", x.fits(), 1);
        x.strike(2);
        CHECKS.due("34 the strike is struck", x.fits(), 0);
        x.known(3);
        CHECKS.due("34 not yet", x.fits(), 1);
        CHECKS.due("35 right", x.may(0), 2);
        x.known(2);
        CHECKS.due("34 no strike yet", x.fits(), 0);
        CHECKS.due("35 none", x.may(0), 0);
        x.known(1);
        CHECKS.due("34 the first", x.fits(), 1);
        CHECKS.due("32 a strike of one that isn't known", x.strike(3), 4);
        CHECKS.due("42 by one", x.count(8), 1);
        CHECKS.due("33 no such n", x.known(6), false);
        CHECKS.due("33 no such n", x.known(Integer.MIN_VALUE), false);
        CHECKS.due("33 by all", x.known(-1), true);
        // 4 strikes 3, so 2 counts, so 1 doesn't.
        CHECKS.due("34 asked from the last one on", x.fits(), 1);
        x.text(0);
        CHECKS.due("3 no notes", x.count(7), 0);
        CHECKS.due("32 no such note", x.strike(0), -1);
    }

    private static void imageOfAllElse() {
        WardFalls x = Checks.town("town 3 1;ward a right 0;part a 0 0 2 0;thing p 5 0 0;seed 4;");
        x.note(0, 2);
        x.known(0);
        x.vote(0, 3);
        x.pour(2, 2);
        x.keep();
        CHECKS.due("40 what can be undone stays", x.count(9), 2);
        CHECKS.due("39 undone", x.undo(), 1);
        CHECKS.due("41 back", x.back(), 0);
        CHECKS.due("41 nothing to undo then", x.undo(), -1);
        CHECKS.due("41 its water", x.count(10), 2);
        CHECKS.due("41 its down", x.ward(0, 0), 3);
        CHECKS.due("41 not by how many it is known", x.count(8), 0);
        x.lay(0, 1);
        x.keep();
        x.beats(1);
        x.back();
        CHECKS.due("41 where it lay", x.thing(0, 0), 1);
        CHECKS.due("41 its steps", x.thing(0, 2), 0);
        CHECKS.due("41 no beats", x.count(6), 0);
        Checks.load(x, "town 3 1");
        CHECKS.due("41 behind a fault", x.back(), 0);
        Checks.load(x, "town 3 1;");
        CHECKS.due("41 behind a text", x.back(), -1);
    }

    /** Numbers far beyond what is said, at the calls that take some. */
    private static void bounds() {
        WardFalls x = Checks.town(ROUND);
        for (int far : new int[] {48, 64, 1 << 16, Integer.MAX_VALUE, -1, -48, Integer.MIN_VALUE}) {
            CHECKS.due("7 " + far, x.ward(far, 0), -1);
            CHECKS.due("8 " + far, x.thing(far, 0), -1);
            CHECKS.due("9 " + far, x.law(0, far, 0), Long.MIN_VALUE);
            CHECKS.due("9 " + far, x.law(0, 9, far), Long.MIN_VALUE);
            CHECKS.due("9 " + far, x.law(1, far, 0), Long.MIN_VALUE);
            CHECKS.due("10 " + far, x.rest(far), -1);
            CHECKS.due("11 " + far, x.way(far, 0), -1);
            CHECKS.due("12 " + far, x.falls(far, 0), -1);
            CHECKS.due("12 " + far, x.falls(0, far), -1);
            CHECKS.due("14 " + far, x.vote(far, 0), false);
            CHECKS.due("14 " + far, x.vote(0, far), false);
            CHECKS.due("15 " + far, x.net(far, true), false);
            CHECKS.due("16 " + far, x.lay(far, 1), false);
            CHECKS.due("16 " + far, x.lay(0, far), false);
            CHECKS.due("17 " + far, x.pour(far, 1), -1);
            CHECKS.due("19 " + far, x.flood(far, 0), -1);
            CHECKS.due("19 " + far, x.flood(0, far), -1);
            CHECKS.due("20 " + far, x.walk(far, 0) + x.walk(0, far), -2);
            CHECKS.due("22 " + far, x.push(far, 0, 0) + x.push(0, far, 0), -2);
            CHECKS.due("23 " + far, x.pushed(far, 0, 0) + x.pushed(0, far, 0), -2);
            CHECKS.due("24 " + far, x.war(far, 0) + x.war(0, far), -2);
            CHECKS.due("26 " + far, x.clock(far), -1);
            CHECKS.due("29 " + far, x.treaty(far), -1);
            CHECKS.due("30 " + far, x.moves(0, far), -1);
            CHECKS.due("31 " + far, x.note(far, 0), -1);
            CHECKS.due("32 " + far, x.strike(far), -1);
            CHECKS.due("35 " + far, x.may(far), -1);
            CHECKS.due("37 " + far, x.voted(far, 0), -1);
            CHECKS.due("38 " + far, x.tried(far, 0, 1) + x.tried(3, far, 1) + x.tried(4, far, 1), -3);
            CHECKS.due("42 " + far, x.count(far), -1);
        }
        for (int far : new int[] {201, Integer.MAX_VALUE, -1, Integer.MIN_VALUE}) {
            CHECKS.due("13 " + far, x.beats(far), -1);
            CHECKS.due("17 " + far, x.pour(0, far), -1);
            CHECKS.due("36 " + far, x.years(far), -1);
            CHECKS.due("38 " + far, x.tried(1, 0, far), -1);
        }
        CHECKS.due("13 none went", x.count(6), 0);
        CHECKS.due("36 none went by", x.count(5), 0);
        CHECKS.due("42 nothing done", x.count(9), 0);
        CHECKS.due("42 no notes", x.count(7), 0);
    }

    /** A value that a long can't hold is an ERROR, too, even if what is left of it in 64 bits is small. */
    private static void valuesAtTheEdge() {
        String most = "1000*1000*1000*1000";
        String wide = "256*256*256*256";
        told("(" + wide + ")*(" + wide + ")", Long.MIN_VALUE);
        told("(0-" + wide + ")*(" + wide + ")", Long.MIN_VALUE);
        told("(" + wide + "*128)*(256*256*256*2)", Long.MIN_VALUE);
        told(wide + "*128", 1L << 39);
        told(most + "+0", 1000000000000L);
        told(most + "-1", 999999999999L);
        told("1+" + most, Long.MIN_VALUE);
        told("(0-" + most + ")-0", -1000000000000L);
        told("(0-" + most + ")+1", -999999999999L);
        told("(0-" + most + ")-1", Long.MIN_VALUE);
        told("(0-1000*1000)*(1000*1000)", -1000000000000L);
        told("(0-1000*1000)*(1000*1000+1)", Long.MIN_VALUE);
        told("(0-1000*1000)*(0-1000*1000)", 1000000000000L);
        told("(0-1000*1000)*(0-1000*1000-1)", Long.MIN_VALUE);
        told("(" + most + ")/(0-1)", -1000000000000L);
        told("(0-" + most + ")/(0-1)", 1000000000000L);
        told("0*(1+" + most + ")", Long.MIN_VALUE);
        told("not(1/0)", Long.MIN_VALUE);
        told("1=1/0", Long.MIN_VALUE);
        told("(1/0)-(1/0)", Long.MIN_VALUE);
        told("(0-1)/2", 0);
        told("1/(0-2)", 0);
        told("(0-9)/(0-2)", 4);
        told("(0-3)and(0-4)", 1);
        told("not(0-1)", 0);
        told("(0-2)<(0-1)", 1);
        told("09999", 9999);
        told("0 or 0 and 1 or not 1", 0);
    }

    private static void told(String formula, long due) {
        CHECKS.due("9 " + formula, Checks.town("ward a up 0;law joy " + formula + ";").law(1, 0, 0), due);
        // The same of push.
        CHECKS.due("9 " + formula, Checks.town("law push " + formula + ";").law(0, 5, 2), due);
    }
}
