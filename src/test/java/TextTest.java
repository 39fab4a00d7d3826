/** Promises 1 to 5: a new object, the TAPE, TEXTS with their FAULTS, names. */
public final class TextTest {
    private static final Checks CHECKS = new Checks();

    public static void main(String[] args) {
        newObject();
        tape();
        texts();
        tokens();
        tooMuch();
        toldAlready();
        order();
        places();
        formulas();
        named();
        CHECKS.end("TextTest");
    }

    private static void newObject() {
        WardFalls x = new WardFalls();
        CHECKS.due("1 NONE", WardFalls.NONE, -1);
        int[] counts = {4, 4, 0, 0, 0, 0, 0, 0, 0, 0, 0, 0, 0};
        for (int i = 0; i < counts.length; i++) {
            CHECKS.due("1 count(" + i + ")", x.count(i), counts[i]);
        }
        CHECKS.due("1 fault(0)", x.fault(0), 0);
        CHECKS.due("1 fault(1)", x.fault(1), -1);
        CHECKS.due("1 an empty tape", x.text(1), -2);
        CHECKS.due("1 rest(15)", x.rest(15), 15);
        CHECKS.due("1 rest(16)", x.rest(16), -1);
    }

    private static void tape() {
        WardFalls x = new WardFalls();
        for (int i = 1; i <= 35; i++) {
            CHECKS.due("2 feed", x.feed(0x20202020, 0x20202020, 0x0a0a0a0a, 0x20202020, 0x20202020), 20 * i);
        }
        CHECKS.due("2 feed beyond 700", x.feed(0, 0, 0, 0, 0), -1);
        CHECKS.due("2 nothing came", x.text(701), -2);
        CHECKS.due("2 all 700", x.text(700), 0);
        CHECKS.due("2 empty again", x.feed(0x77616c6c, 0x20312032, 0x3bff80fe, -1, 0x80808080), 20);
        CHECKS.due("2 the highest first", x.text(9), 1);
        CHECKS.due("2 wall 1 2;", x.cell(9, 1), 1);
        x.feed(0x77616c6c, 0x20312032, 0x3bff80fe, -1, 0x80808080);
        CHECKS.due("2 bytes above 127", x.text(10), -1);
        CHECKS.due("2 bytes above 127", x.fault(1), 9);
    }

    private static void texts() {
        WardFalls x = Checks.town("town 3 2;ward a right 7;part a 0 0 2 1;thing t 5 0 0;law joy worth+1;");
        x.beats(1);
        x.net(0, true);
        x.pour(1, 1);
        x.note(0, 0);
        x.known(0);
        x.keep();
        x.years(2);
        x.vote(0, 2);
        Checks.feed(x, "wall 9 9;");
        CHECKS.due("3 -2 beyond the tape", x.text(21), -2);
        CHECKS.due("3 -2 below 0", x.text(-1), -2);
        CHECKS.due("3 -2 is no latest text", x.fault(0), 0);
        CHECKS.due("3 the tape stayed", x.text(20), -1);
        CHECKS.due("4 fault(0)", x.fault(0), 2);
        CHECKS.due("4 fault(1)", x.fault(1), 5);
        CHECKS.due("4 fault(2)", x.fault(2), -1);
        CHECKS.due("4 fault(-1)", x.fault(-1), -1);
        CHECKS.due("3 the tape is empty behind a fault", x.text(1), -2);
        CHECKS.due("4 it stays by -2", x.fault(0), 2);
        int[] stayed = {3, 2, 1, 1, 3, 2, 1, 1, 0, 1, 1, 1};
        for (int i = 0; i < stayed.length; i++) {
            CHECKS.due("3 all else stays, count(" + i + ")", x.count(i), stayed[i]);
        }
        Checks.feed(x, "town 3 2;ward b right 7;");
        CHECKS.due("3 a new text", x.text(24), 2);
        CHECKS.due("4 no fault", x.fault(0), 0);
        CHECKS.due("4 no place", x.fault(1), -1);
        int[] anew = {3, 2, 1, 0, 0, 0, 0, 0, 0, 0, 0, 0, 0, -1};
        for (int i = 0; i < anew.length; i++) {
            CHECKS.due("3 all anew, count(" + i + ")", x.count(i), anew[i]);
        }
        CHECKS.due("3 no image", x.back(), -1);
        CHECKS.due("3 nothing to undo", x.undo(), -1);
        CHECKS.due("3 the down as told", x.ward(0, 0), 1);
        CHECKS.due("3 all known", x.note(0, 0), 0);
        CHECKS.due("3 all known", x.count(8), 1);
        CHECKS.good("", 0);
        CHECKS.good(" \n ", 0);
    }

    private static void tokens() {
        CHECKS.good("ward\na up 0;", 1);
        CHECKS.good("town 4\n4;wall 003 0;", 2);
        CHECKS.good("town4 4;ward a up7;", 2);
        CHECKS.good("ward abcdef up 0;", 1);
        CHECKS.faulty("ward abcdefg up 0;", 1, 5);
        CHECKS.faulty("ward against up 0;", 1, 5);
        CHECKS.faulty("ward town up 0;", 1, 5);
        CHECKS.faulty("ward still up 0;", 1, 5);
        CHECKS.faulty("ward 5 up 0;", 1, 5);
        CHECKS.faulty("ward a left;", 1, 11);
        CHECKS.faulty("ward a b 0;", 1, 7);
        CHECKS.faulty("ward a push 0;", 1, 7);
        CHECKS.faulty(";", 1, 0);
        CHECKS.faulty("wall 0 0;;", 1, 9);
        CHECKS.faulty("a;", 1, 0);
        CHECKS.faulty("up 1;", 1, 0);
        CHECKS.faulty("Wall 0 0;", 1, 0);
        CHECKS.faulty("wall\t0 0;", 1, 4);
        CHECKS.faulty("wall 0 0", 1, 8);
        CHECKS.faulty("wall 0 0  ", 1, 10);
        CHECKS.faulty("wall 0", 1, 6);
        CHECKS.faulty("wall", 1, 4);
        CHECKS.faulty("wall 0 -1;", 1, 7);
        CHECKS.faulty("wall 0 0 0;", 1, 9);
        CHECKS.faulty("wall 0 0;.", 1, 9);
        CHECKS.faulty("part a", 4, 5);
        CHECKS.faulty("part ;", 1, 5);
        CHECKS.faulty("thing ;", 1, 6);
        CHECKS.faulty("ward ;", 1, 5);
        CHECKS.faulty("law joy 1 law;", 1, 10);
        CHECKS.faulty("law rich 1;", 1, 4);
        CHECKS.faulty("seed;", 1, 4);
        CHECKS.faulty("seed a;", 1, 5);
    }

    private static void tooMuch() {
        CHECKS.good("town 8 6;wall 7 5;", 2);
        CHECKS.good("town 1 1;wall 0 0;", 2);
        CHECKS.faulty("town 0 1;", 2, 5);
        CHECKS.faulty("town 8 0;", 2, 7);
        CHECKS.faulty("town 9 9;", 2, 5);
        CHECKS.faulty("town 8 7;", 2, 7);
        CHECKS.good("seed 0;", 1);
        CHECKS.faulty("ward a up 100;", 2, 10);
        CHECKS.faulty("town 99999999999999999999 1;", 2, 5);
        CHECKS.faulty("town 4294967297 1;", 2, 5);
        CHECKS.good("seed 99999;", 1);
        CHECKS.faulty("seed 100000;", 2, 5);
        CHECKS.good("ward a up 99;thing a 99 3 3;", 2);
        CHECKS.faulty("thing a 100 3 3;", 2, 8);
        CHECKS.faulty("thing a 99 4 3;", 2, 11);
        CHECKS.faulty("thing a 99 3 4;", 2, 13);
        CHECKS.faulty("stair 3 4;", 2, 8);
        CHECKS.faulty("town 2 6;stair 2 0;", 2, 15);
        String wards = "ward a up 1;ward b up 1;ward c up 1;ward d up 1;";
        CHECKS.good(wards, 4);
        CHECKS.faulty(wards + "ward a;", 2, 48);
        CHECKS.faulty(wards + "ward", 2, 48);
        String part = "part a 0 0 0 0;";
        String parts = "ward a up 1;" + part.repeat(12);
        CHECKS.good(parts, 13);
        CHECKS.faulty(parts + "part b", 2, 192);
        CHECKS.faulty("ward a up 1;part a 1 0 0 0;", 2, 23);
        CHECKS.faulty("ward a up 1;part a 0 2 0 1;", 2, 25);
        CHECKS.faulty("ward a up 1;part a 0 0 4 0;", 2, 23);
        CHECKS.faulty("ward a up 1;part a 0 0 0 4;", 2, 25);
        CHECKS.faulty("ward a up 1;part a 4 0 0 0;", 2, 19);
        CHECKS.faulty("ward a up 1;part a 0 4 0 0;", 2, 21);
        String walls = rows("wall", 12);
        CHECKS.good(walls, 12);
        CHECKS.faulty(walls + "wall 0 0;", 2, 108);
        String stairs = rows("stair", 8);
        CHECKS.good(stairs, 8);
        CHECKS.faulty(stairs + "stair 0 0;", 2, 80);
        StringBuilder things = new StringBuilder();
        for (int i = 0; i < 8; i++) {
            things.append("thing ").append((char) ('a' + i)).append(" 1 ").append(i % 4).append(' ').append(i / 4)
                    .append(';');
        }
        CHECKS.good(things.toString(), 8);
        CHECKS.faulty(things + "thing;", 2, things.length());
    }

    private static String rows(String word, int much) {
        StringBuilder text = new StringBuilder();
        for (int i = 0; i < much; i++) {
            text.append(word).append(' ').append(i % 4).append(' ').append(i / 4).append(';');
        }
        return text.toString();
    }

    private static void toldAlready() {
        CHECKS.faulty("ward a up 1;ward a down 2;", 3, 17);
        CHECKS.faulty("ward a up 1;ward a;", 3, 17);
        CHECKS.good("ward a up 1;ward aa up 1;thing a 1 0 0;thing aa 1 1 0;", 4);
        CHECKS.faulty("thing a 1 0 0;thing a 1 1 0;", 3, 20);
        CHECKS.faulty("wall 1 1;wall 1 1;", 3, 16);
        CHECKS.faulty("stair 1 1;stair 1 1;", 3, 18);
        CHECKS.faulty("town 2 2;town", 3, 9);
        CHECKS.faulty("seed 1;seed 2;", 3, 7);
        CHECKS.faulty("law push 1;law joy 1;law push", 3, 25);
        CHECKS.good("law push 1;law joy 1;", 2);
    }

    private static void order() {
        CHECKS.faulty("part a 0 0 0 0;ward a up 1;", 4, 5);
        CHECKS.good("ward a up 1;seed 5;law joy 1;town 2 2;part a 0 0 1 1;", 5);
        CHECKS.faulty("ward a up 1;part a 0 0 0 0;town 1 1;", 4, 27);
        CHECKS.faulty("wall 0 0;town 1 1;", 4, 9);
        CHECKS.faulty("stair 0 0;town 1 1;", 4, 10);
        CHECKS.faulty("thing a 0 0 0;town 1 1;", 4, 14);
        // Of one place the least: told already goes ahead of being behind.
        CHECKS.faulty("town 4 4;wall 0 0;town 1 1;", 3, 18);
    }

    private static void places() {
        CHECKS.faulty("stair 1 1;wall 1 1;", 5, 17);
        CHECKS.faulty("thing a 1 1 1;wall 1 1;", 5, 21);
        CHECKS.faulty("wall 1 1;stair 1 1;", 5, 17);
        CHECKS.faulty("wall 1 1;thing a 1 1 1;", 5, 21);
        CHECKS.faulty("thing a 1 1 1;thing b 1 1 1;", 5, 26);
        CHECKS.good("stair 1 1;thing a 1 1 1;", 2);
        CHECKS.good("thing a 1 1 1;stair 1 1;", 2);
        CHECKS.good("wall 1 1;wall 1 2;stair 2 1;thing a 1 3 1;", 4);
    }

    private static void formulas() {
        CHECKS.good("law joy not not rich<size+1*2 and(here or(worth))=cross/against-year;", 1);
        CHECKS.good("law joy 9999;", 1);
        CHECKS.faulty("law joy 10000;", 2, 8);
        CHECKS.faulty("law joy ;", 1, 8);
        CHECKS.faulty("law joy 1+;", 1, 10);
        CHECKS.faulty("law joy +1;", 1, 8);
        CHECKS.faulty("law joy 1 2;", 1, 10);
        CHECKS.faulty("law joy a;", 1, 8);
        CHECKS.faulty("law joy 1+not 2;", 1, 10);
        CHECKS.faulty("law joy 1<not 2;", 1, 10);
        CHECKS.faulty("law joy 1 not 2;", 1, 10);
        CHECKS.good("law joy 1+(not 2);", 1);
        CHECKS.faulty("law joy 1<2<3;", 1, 11);
        CHECKS.good("law joy 1<2 and 3<4 or not 5<6;", 1);
        CHECKS.good("law joy 1<(2<3);", 1);
        CHECKS.good("law joy (1<2)+(3<4);", 1);
        CHECKS.faulty("law joy (1<2)<3=4;", 1, 15);
        CHECKS.good("law joy 1<=2 or 1<>2 or 1>=2 or 1>2 or 1=2 or 1<2;", 1);
        CHECKS.faulty("law joy 1< =2;", 1, 11);
        CHECKS.faulty("law joy 1=<2;", 1, 10);
        CHECKS.faulty("law joy 1><2;", 1, 10);
        CHECKS.faulty("law joy (1;", 1, 10);
        CHECKS.faulty("law joy 1);", 1, 9);
        CHECKS.faulty("law joy ();", 1, 9);
        CHECKS.faulty("law joy 1", 1, 9);
        CHECKS.good("law joy ((((((((1))))))));", 1);
        CHECKS.good("law joy ((((1))))+((((((((1))))))));", 1);
        CHECKS.faulty("law joy (((((((((1)))))))));", 2, 16);
        String many = "law push " + "1+".repeat(30) + "1;";
        CHECKS.good(many + "law joy not 1;", 2);
        CHECKS.good(many + "law joy ((not 1));", 2);
        CHECKS.faulty(many + "law joy not 1+1;", 2, many.length() + 14);
        CHECKS.faulty(many + "law joy 1+1+1;", 2, many.length() + 11);
        CHECKS.faulty(many + "law joy not not not not 1;", 2, many.length() + 20);
        WardFalls x = Checks.town(many + "law joy not 1;");
        CHECKS.due("42 knots", x.count(4), 63);
    }

    private static void named() {
        WardFalls x = Checks.town("ward b up 1;ward zaz up 2;ward abcdef up 3;thing zaz 1 0 0;thing b 1 1 0;");
        CHECKS.due("5 b", x.named(0, 2 << 25), 0);
        CHECKS.due("5 zaz", x.named(0, 26 << 25 | 1 << 20 | 26 << 15), 1);
        CHECKS.due("5 abcdef", x.named(0, 1 << 25 | 2 << 20 | 3 << 15 | 4 << 10 | 5 << 5 | 6), 2);
        CHECKS.due("5 thing zaz", x.named(1, 26 << 25 | 1 << 20 | 26 << 15), 0);
        CHECKS.due("5 thing b", x.named(1, 2 << 25), 1);
        CHECKS.due("5 thing abcdef", x.named(1, 1 << 25 | 2 << 20 | 3 << 15 | 4 << 10 | 5 << 5 | 6), -1);
        CHECKS.due("5 no letters", x.named(0, 0), -1);
        CHECKS.due("5 b at the lowest", x.named(0, 2), -1);
        CHECKS.due("5 another what", x.named(2, 2 << 25), -1);
        CHECKS.due("5 another what", x.named(-1, 2 << 25), -1);
    }
}
