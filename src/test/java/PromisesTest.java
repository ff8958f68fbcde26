/** Promise by promise: ordinary calls, the edges that the document names, wrong arguments. */
public final class PromisesTest {
    private static final int NONE = -1, UNKNOWN = -2, OUTSIDE = -3, NOT = -4, FULL = -5;
    private static int wrong;
    private static String promise;

    private static void due(String call, int got, int want) {
        if (got != want) {
            wrong++;
            System.out.println(promise + ": " + call + " answered " + got + ", due is " + want);
        }
    }

    private static void write(GiantStair x, String text) {
        for (int from = 0; from < text.length(); from += 8) {
            int n = Math.min(8, text.length() - from);
            long bytes = 0;
            for (int i = 0; i < n; i++) bytes |= (long) text.charAt(from + i) << 8 * i;
            x.write(bytes, n);
        }
    }

    private static void tell(GiantStair x, String text) {
        write(x, text);
        int lines = text.split(";", -1).length;
        due("stair() of " + text, x.stair(), lines);
    }

    private static GiantStair told(String text) {
        GiantStair x = new GiantStair();
        tell(x, text);
        return x;
    }

    private static void faultOf(String ahead, String text, int place) {
        GiantStair x = new GiantStair();
        if (!ahead.isEmpty()) tell(x, ahead);
        write(x, text);
        due("fault() of " + text, x.fault(), place);
        due("count(6) behind fault() of " + text, x.count(6), text.length());
        int people = x.count(1);
        int done = x.stair();
        due("stair() of " + text, done < 0 ? done : 0, place == NONE ? 0 : NOT);
        if (place != NONE) {
            due("PEOPLE behind a text refused", x.count(1), people);
            due("erase() behind a text refused", x.erase(), text.length());
        }
    }

    private static void newObject() {
        GiantStair x = new GiantStair();
        due("count(0)", x.count(0), 2);
        for (int what = 1; what <= 6; what++) due("count(" + what + ")", x.count(what), 0);
        due("step(1, 0)", x.step(1, 0), 20);
        due("step(1, 1)", x.step(1, 1), 0);
        due("step(2, 0)", x.step(2, 0), UNKNOWN);
        due("one(0, 0)", x.one(0, 0), UNKNOWN);
        due("fault()", x.fault(), 0);
        due("stair()", x.stair(), NOT);
        due("back(0)", x.back(0), NOT);
        due("soonest()", x.soonest(), 0);
        due("roped(1)", x.roped(1), NONE);
        due("many(0)", x.many(0), 1);
        due("odds(0, 1)", x.odds(0, 1), 1);
        due("judge()", x.judge(), NONE);
    }

    private static void writing() {
        GiantStair x = new GiantStair();
        due("write(.., 0)", x.write(59, 0), OUTSIDE);
        due("write(.., 9)", x.write(59, 9), OUTSIDE);
        due("write(.., -1)", x.write(59, -1), OUTSIDE);
        due("write(.., max)", x.write(59, Integer.MAX_VALUE), OUTSIDE);
        due("write(.., 1)", x.write(-1L << 8 | 'a', 1), 1);
        due("write(.., 8)", x.write(-1, 8), 9);
        due("fault(): bytes are 0 .. 255", x.fault(), 0);
        x.erase();
        // The first byte is the lowest one, and all above byte n - 1 are not looked at.
        due("write(at.., 3)", x.write('x' | ' ' << 8 | ' ' << 16 | (long) 'z' << 24, 3), 3);
        due("fault()", x.fault(), 0);
        x.erase();
        due("write(nobody, 6)", x.write('n' | 'o' << 8 | 'b' << 16 | (long) 'o' << 24 | (long) 'd' << 32 | (long) 'y' << 40, 6), 6);
        due("fault()", x.fault(), NONE);
        x.erase();
        for (int i = 1; i <= 24; i++) due("write(.., 8)", x.write(0x2020202020202020L, 8), 8 * i);
        due("write(.., 7)", x.write(0x20202020202020L, 7), 199);
        due("write(.., 2)", x.write(0x2020, 2), FULL);
        due("write(.., 9)", x.write(0, 9), OUTSIDE);
        due("count(6)", x.count(6), 199);
        due("write(.., 1)", x.write(32, 1), 200);
        due("write(.., 1)", x.write(32, 1), FULL);
        due("fault()", x.fault(), 200);
    }

    private static void erasing() {
        GiantStair x = new GiantStair();
        due("erase()", x.erase(), 0);
        write(x, "proud 1 1 1");
        due("erase()", x.erase(), 11);
        due("erase()", x.erase(), 0);
        due("count(6)", x.count(6), 0);
        due("stair()", x.stair(), NOT);
        tell(x, "stair 3");
        due("erase() behind stair()", x.erase(), 0);
        due("count(0)", x.count(0), 3);
    }

    private static void faults() {
        for (String good : new String[] {"stair 1", "stair 4", "step 1 60", "step 0 1", "rope 1", "pilgrim 30 50 99",
            "porter 1 1 0", "proud 1 1 1", "saint 1 1 1", "nobody", "  nobody  ", "stair4", "step0 1", "step 0 01",
            "stair 3;rope 2", "saint 1 1 1;load 0 49;at 0 2", " stair  1 ; rope  0 ", "nobody;nobody", "stair 01",
            "stair 4;proud 1 1 1;at 0 4", "proud1 1 1;proud 1 1 1;at1 2", "rope 00"}) {
            faultOf("", good, NONE);
        }
        faultOf("", "", 0);
        faultOf("", "   ", 3);
        faultOf("", ";", 0);
        faultOf("", "nobody;", 7);
        faultOf("", "nobody; ", 8);
        faultOf("", "nobody;;nobody", 7);
        faultOf("", "nobody,nobody", 6);
        faultOf("", "nobody nobody", 7);
        faultOf("", "no body", 0);
        faultOf("", "Nobody", 0);
        faultOf("", " nobodys", 1);
        faultOf("", "nobod", 0);
        faultOf("", "nobodyz", 0);
        faultOf("", "xtair 2", 0);
        faultOf("", "stain 2", 0);
        faultOf("", " ".repeat(194) + "nobody", NONE);
        faultOf("", " ".repeat(193) + "stair 4", NONE);
        faultOf("", " ".repeat(192) + "stair 14", 198);
        faultOf("", "steprope 1", 0);
        faultOf("", "5", 0);
        faultOf("", "nobody\t", 6);
        faultOf("", "nobody" + (char) 0, 6);
        faultOf("", "nobody" + (char) 255, 6);
        faultOf("", "stair", 5);
        faultOf("", "stair ", 6);
        faultOf("", "stair;", 5);
        faultOf("", "stair 0", 6);
        faultOf("", "stair 5", 6);
        faultOf("", "stair -1", 6);
        faultOf("", "stair 001", 6);
        faultOf("", "stair 3 3", 8);
        faultOf("", "stair 3x", 7);
        faultOf("", "stair x", 6);
        faultOf("", "step 2 9", 5);
        faultOf("", "step 1", 6);
        faultOf("", "step 1 0", 7);
        faultOf("", "step 1 61", 7);
        faultOf("", "step 11", 5);
        faultOf("", "rope 2", 5);
        faultOf("", "rope", 4);
        faultOf("", "stair 1;rope 1", 13);
        faultOf("", "rope 1;stair 1;rope 0;rope 1", 27);
        for (String kind : new String[] {"pilgrim", "porter", "proud", "saint"}) {
            int at = kind.length() + 1;
            faultOf("", kind + " 0 1 1", at);
            faultOf("", kind + " 31 1 1", at);
            faultOf("", kind + " 30 0 1", at + 3);
            faultOf("", kind + " 30 51 1", at + 3);
            faultOf("", kind + " 30 50 100", at + 6);
            faultOf("", kind + " 30 50", at + 5);
            faultOf("", kind + " 30 50 99 9", at + 9);
        }
        faultOf("", "load 0 1", 5);
        faultOf("", "at 0 1", 3);
        faultOf("", "saint 1 1 1;load 0 50", 19);
        faultOf("", "saint 1 1 1;load 1 1", 17);
        faultOf("", "saint 1 1 1;at 0 3", 17);
        faultOf("", "saint 1 1 1;at 1 0", 15);
        faultOf("", "saint 1 1 1;stair 4;at 0 0", 23);
        faultOf("", "saint 1 1 1;nobody;at 0 0", 22);
        faultOf("saint 1 1 1", "load 0 5;at 0 2", NONE);
        faultOf("saint 1 1 1", "at 1 0", 3);
        String five = "saint 1 1 1;saint 1 1 1;saint 1 1 1;saint 1 1 1;saint 1 1 1";
        faultOf("", five, NONE);
        faultOf("", five + ";proud 1 1 1", 60);
        faultOf("", five + ";nobody;proud 1 1 1", NONE);
        faultOf(five, " pilgrim", 1);
        faultOf(five, "stair 2;pilgrim 1 1 1", NONE);
        String eleven = "rope 0;".repeat(11);
        faultOf("", eleven + "rope 0", NONE);
        faultOf("", eleven + "rope 0 ", NONE);
        faultOf("", eleven + "rope 0;", 83);
        faultOf("", eleven + "rope 0 ;rope 0", 84);
        faultOf("", eleven + "rope 0 0", 84);
    }

    private static void stairing() {
        GiantStair x = told("stair 3;step 1 33;rope 2;pilgrim 10 20 26;load 0 7;at 0 2");
        due("count(6)", x.count(6), 0);
        due("count(0)", x.count(0), 3);
        due("one(0, 4)", x.one(0, 4), 2);
        due("up", x.up(0, -1, -1), NOT);
        tell(x, "step 2 5");
        due("step(1, 0): told earlier", x.step(1, 0), 33);
        due("step(2, 0)", x.step(2, 0), 5);
        due("step(2, 1): told earlier", x.step(2, 1), 1);
        due("one(0, 2): told earlier", x.one(0, 2), 27);
        due("up", x.up(0, -1, -1), 1);
        x.keep(1);
        x.row(0, 0);
        tell(x, "proud 25 1 1");
        due("one(0, 4): as told last", x.one(0, 4), 2);
        due("one(1, 4): at first", x.one(1, 4), 0);
        due("count(2)", x.count(2), 0);
        due("count(4)", x.count(4), 0);
        due("back(1)", x.back(1), NOT);
        tell(x, "at 0 1;at 0 3;load 0 0;load 0 2");
        due("one(0, 4): the last told", x.one(0, 4), 3);
        due("one(0, 2): the last told", x.one(0, 2), 22);
        tell(x, "nobody");
        due("count(1)", x.count(1), 0);
        due("step(1, 0) behind nobody", x.step(1, 0), 33);
        tell(x, "saint 9 8 7");
        due("one(0, 2): a new one has no LOAD", x.one(0, 2), 8);
        due("one(0, 4): a new one is at 0", x.one(0, 4), 0);
        tell(x, "stair 3");
        due("count(1) behind stair", x.count(1), 0);
        due("step(1, 0) behind stair", x.step(1, 0), 20);
        due("step(2, 1) behind stair", x.step(2, 1), 0);
        write(x, "stair 2;stair 9");
        due("stair() with a FAULT", x.stair(), NOT);
        due("count(0)", x.count(0), 3);
        due("count(6)", x.count(6), 15);
        GiantStair y = told("pilgrim 18 9 9;pilgrim 18 9 9;step 0 30");
        due("up", y.up(0, 1, -1), 1);
        y.keep(0);
        y.row(1, 1);
        write(y, "x");
        due("stair()", y.stair(), NOT);
        due("nothing changes: count(2)", y.count(2), 1);
        due("nothing changes: count(4)", y.count(4), 1);
        due("nothing changes: helped", y.helped(1, 0), 1);
        due("nothing changes: back", y.back(0), 1);
        y.erase();
        tell(y, "rope 1");
        due("nobody has helped", y.helped(1, 0), 0);
        due("all at their LEVELS", y.one(0, 4), 0);
    }

    private static void steps() {
        GiantStair x = told("stair 4;step 0 1;step 3 60;rope 3");
        due("step(0, 0)", x.step(0, 0), 1);
        due("step(0, 1)", x.step(0, 1), 0);
        due("step(3, 0)", x.step(3, 0), 60);
        due("step(3, 1)", x.step(3, 1), 1);
        due("step(4, 0)", x.step(4, 0), UNKNOWN);
        due("step(-1, 0)", x.step(-1, 0), UNKNOWN);
        due("step(4, 9)", x.step(4, 9), UNKNOWN);
        due("step(max, 0)", x.step(Integer.MAX_VALUE, 0), UNKNOWN);
        due("step(0, 2)", x.step(0, 2), OUTSIDE);
        due("step(0, -1)", x.step(0, -1), OUTSIDE);
    }

    private static void ones() {
        GiantStair x = told("step 0 30;pilgrim 11 12 13;porter 29 15 16;proud 17 18 19;saint 20 21 22;load 3 9;at 3 2");
        int[][] want = {{0, 11, 12, 13, 0, 0, 0}, {1, 29, 15, 16, 0, 0, 0}, {2, 17, 18, 19, 0, 0, 0}, {3, 20, 30, 22, 2, 0, 0}};
        for (int one = 0; one < 4; one++) {
            for (int what = 0; what < 7; what++) due("one(" + one + ", " + what + ")", x.one(one, what), want[one][what]);
            due("one(" + one + ", 7)", x.one(one, 7), OUTSIDE);
            due("one(" + one + ", -1)", x.one(one, -1), OUTSIDE);
        }
        due("one(4, 0)", x.one(4, 0), UNKNOWN);
        due("one(-1, 0)", x.one(-1, 0), UNKNOWN);
        due("one(5, 7)", x.one(5, 7), UNKNOWN);
        x.up(0, 1, -1);
        x.up(1, 2, 0);
        due("one(0, 4)", x.one(0, 4), 1);
        due("one(0, 5)", x.one(0, 5), 1);
        due("one(0, 6)", x.one(0, 6), 1);
        due("one(1, 5)", x.one(1, 5), 1);
        due("one(1, 6): each that helped", x.one(1, 6), 2);
        due("one(2, 5)", x.one(2, 5), 1);
    }

    private static void taken() {
        GiantStair x = told("pilgrim 20 1 1;porter 20 1 1;proud 20 1 1;saint 30 1 1;at 1 1;at 2 2;at 3 1");
        int[][] want = {{1, 1, NOT, NOT, NOT}, {3, 3, 3, NOT, NOT}, {2, 2, NOT, 2, NOT}, {0, NOT, NOT, NOT, 0}};
        for (int one = 0; one < 4; one++) {
            for (int kind = 0; kind < 5; kind++) due("as(" + one + ", " + kind + ")", x.as(one, kind), want[one][kind]);
            due("as(" + one + ", 5)", x.as(one, 5), OUTSIDE);
            due("as(" + one + ", -1)", x.as(one, -1), OUTSIDE);
        }
        due("as(4, 0)", x.as(4, 0), UNKNOWN);
        due("as(-1, 9)", x.as(-1, 9), UNKNOWN);
        GiantStair y = told("step 0 30;proud 15 5 5;pilgrim 15 5 5");
        due("as(0, 1): a PROUD one takes no help, as a PILGRIM neither", y.as(0, 1), 0);
        due("as(1, 0): a PROUD one helps", y.as(1, 0), 1);
    }

    private static void ups() {
        // Height 30; the pilgrim is 15 high and 10 heavy.
        GiantStair x = told("stair 1;step 0 30;pilgrim 15 10 9;pilgrim 15 10 9;saint 30 1 10;at 2 1;porter 14 10 5");
        due("up(4, ..)", x.up(4, -1, -1), UNKNOWN);
        due("up(-1, ..)", x.up(-1, -1, -1), UNKNOWN);
        due("up(0, 4, -1)", x.up(0, 4, -1), UNKNOWN);
        due("up(0, -2, -1)", x.up(0, -2, -1), UNKNOWN);
        due("up(0, -1, 4)", x.up(0, -1, 4), UNKNOWN);
        due("up(0, -1, -2)", x.up(0, -1, -2), UNKNOWN);
        due("up(0, 0, -1): himself", x.up(0, 0, -1), UNKNOWN);
        due("up(0, -1, 0): himself", x.up(0, -1, 0), UNKNOWN);
        due("up(0, 1, 1): not at two LEVELS", x.up(0, 1, 1), NOT);
        due("up(0, -1, -1): too low", x.up(0, -1, -1), NOT);
        due("up(0, 1, -1): too weak", x.up(0, 1, -1), NOT);
        due("up(0, 3, -1): together 29 high", x.up(0, 3, -1), NOT);
        due("up(0, 2, -1): at the next", x.up(0, 2, -1), NOT);
        due("up(0, -1, 1): not at the next", x.up(0, -1, 1), NOT);
        due("up(2, 0, -1): a SAINT", x.up(2, 0, -1), NOT);
        due("count(2)", x.count(2), 0);
        due("up(0, -1, 2): half of 30", x.up(0, -1, 2), 1);
        due("helped(2, 0)", x.helped(2, 0), 1);
        due("up(0, ..): at the TOP", x.up(0, -1, -1), NOT);
        due("up(1, 3, 0): 15 + 14 + 7, 10 + 9", x.up(1, 3, 0), 2);
        due("helped(3, 1)", x.helped(3, 1), 1);
        due("helped(0, 1)", x.helped(0, 1), 1);
        due("up(3, -1, 2): 14 + 15", x.up(3, -1, 2), NOT);
        GiantStair y = told("stair 1;step 0 30;pilgrim 15 10 9;saint 29 1 10;at 1 1;saint 15 1 1;porter 15 1 5");
        due("up(0, -1, 1): half of 29, cut", y.up(0, -1, 1), NOT);
        due("up(0, 2, 1): with both", y.up(0, 2, 1), 1);
        y = told("stair 1;step 0 30;pilgrim 15 10 9;porter 15 1 5;pilgrim 15 1 9;load 2 9");
        due("up(0, 1, -1): a PORTER's HAND is twice", y.up(0, 1, -1), 1);
        due("up(2, 1, -1): a LOAD is BURDEN", y.up(2, 1, -1), 2);
        tell(y, "load 2 10");
        due("up(2, 1, -1)", y.up(2, 1, -1), NOT);
        GiantStair tall = told("stair 1;pilgrim 20 50 0;saint 30 1 99;load 0 49;proud 19 1 99;pilgrim 19 1 9;saint 30 1 99;at 4 1");
        due("up(0, 1, -1): who can go ALONE goes only so", tall.up(0, 1, -1), NOT);
        due("up(0, -1, 4)", tall.up(0, -1, 4), NOT);
        due("up(0, -1, -1)", tall.up(0, -1, -1), 1);
        due("up(2, 1, -1): PROUD", tall.up(2, 1, -1), NOT);
        due("up(2, -1, -1): PROUD, too low", tall.up(2, -1, -1), NOT);
        due("up(3, 2, -1): a PROUD one helps", tall.up(3, 2, -1), 2);
        GiantStair roped = told("stair 2;step 0 60;step 1 60;rope 0;pilgrim 30 20 20;pilgrim 30 20 19;porter 30 20 19;porter 30 20 20;saint 30 9 99");
        due("up(0, 4, -1): by the ROPE, only ALONE", roped.up(0, 4, -1), NOT);
        due("up(0, -1, -1): by the ROPE", roped.up(0, -1, -1), 1);
        due("up(1, -1, -1): too weak for the ROPE", roped.up(1, -1, -1), NOT);
        due("up(2, -1, -1): a PORTER's STRENGTH once", roped.up(2, -1, -1), NOT);
        due("up(3, -1, -1)", roped.up(3, -1, -1), 2);
        due("up(1, 4, -1): with a ROPE helped, too", roped.up(1, 4, -1), 3);
        due("up(0, -1, -1): there is none", roped.up(0, -1, -1), NOT);
        tell(roped, "load 0 1");
        due("up(0, -1, -1): with a LOAD", roped.up(0, -1, -1), NOT);
    }

    private static void downs() {
        GiantStair x = told("stair 2;step 0 25;step 1 26;pilgrim 25 12 9;pilgrim 25 12 9;at 0 2;at 1 2;"
            + "porter 20 9 6;at 2 1;saint 30 9 99;at 3 2");
        due("down(4, -1)", x.down(4, -1), UNKNOWN);
        due("down(-1, -1)", x.down(-1, -1), UNKNOWN);
        due("down(0, 4)", x.down(0, 4), UNKNOWN);
        due("down(0, -2)", x.down(0, -2), UNKNOWN);
        due("down(0, 0): himself", x.down(0, 0), UNKNOWN);
        due("down(0, -1): too low", x.down(0, -1), NOT);
        due("down(0, 1): not below", x.down(0, 1), NOT);
        due("down(3, -1): a SAINT", x.down(3, -1), NOT);
        due("down(0, 2): a PORTER's HAND", x.down(0, 2), 1);
        due("helped(2, 0)", x.helped(2, 0), 1);
        due("one(0, 4)", x.one(0, 4), 1);
        due("down(1, 0): too weak", x.down(1, 0), NOT);
        due("down(0, -1): high enough", x.down(0, -1), 2);
        due("down(0, -1): at 0", x.down(0, -1), NOT);
        due("down(2, 0): a HAND of 9 for 9", x.down(2, 0), 3);
        due("count(5)", x.count(5), 2);
        GiantStair y = told("stair 1;step 0 40;rope 0;pilgrim 9 50 0;proud 9 50 0;saint 9 9 99;at 0 1;at 1 1");
        due("down(0, 2): by the ROPE only ALONE", y.down(0, 2), NOT);
        due("down(0, -1): by the ROPE, however weak", y.down(0, -1), 1);
        due("down(1, -1): a PROUD one by the ROPE", y.down(1, -1), 2);
        due("up(0, -1, -1): not up so", y.up(0, -1, -1), NOT);
        GiantStair z = told("stair 1;step 0 40;proud 9 5 5;saint 9 9 99;at 0 1");
        due("down(0, 1): PROUD", z.down(0, 1), NOT);
        due("down(0, -1)", z.down(0, -1), NOT);
        GiantStair full = told("stair 1;step 0 20;pilgrim 20 50 0;saint 9 9 99;at 0 1");
        due("down(0, 1): high enough, only ALONE", full.down(0, 1), NOT);
        due("down(0, -1)", full.down(0, -1), 1);
    }

    private static void helping() {
        GiantStair x = told("stair 1;step 0 30;pilgrim 15 5 5;pilgrim 15 5 5;pilgrim 15 5 5");
        due("helped(0, 1)", x.helped(0, 1), 0);
        x.up(1, 0, -1);
        x.down(1, 0);
        x.up(1, 0, -1);
        due("helped(0, 1)", x.helped(0, 1), 3);
        due("helped(1, 0)", x.helped(1, 0), 0);
        due("helped(0, 2)", x.helped(0, 2), 0);
        due("helped(0, 0)", x.helped(0, 0), UNKNOWN);
        due("helped(3, 0)", x.helped(3, 0), UNKNOWN);
        due("helped(0, 3)", x.helped(0, 3), UNKNOWN);
        due("helped(-1, 0)", x.helped(-1, 0), UNKNOWN);
        due("helped(0, -1)", x.helped(0, -1), UNKNOWN);
    }

    private static void keeping() {
        GiantStair x = told("stair 1;step 0 30;pilgrim 15 5 5;pilgrim 15 5 5;pilgrim 15 5 5");
        due("keep(2)", x.keep(2), UNKNOWN);
        due("keep(-1)", x.keep(-1), UNKNOWN);
        due("back(2)", x.back(2), UNKNOWN);
        due("back(-1)", x.back(-1), UNKNOWN);
        due("back(0)", x.back(0), NOT);
        due("keep(0)", x.keep(0), 0);
        due("back(1)", x.back(1), NOT);
        x.up(1, 0, -1);
        due("keep(1)", x.keep(1), 1);
        x.up(0, 2, -1);
        x.row(0, 1);
        due("soonest()", x.soonest(), NONE);
        due("back(1)", x.back(1), 1);
        due("count(4): THE ROW is not kept", x.count(4), 1);
        due("one(0, 4)", x.one(0, 4), 0);
        due("one(1, 4)", x.one(1, 4), 1);
        due("helped(2, 0)", x.helped(2, 0), 0);
        due("helped(0, 1)", x.helped(0, 1), 1);
        due("count(3)", x.count(3), 2);
        due("soon(0) from there", x.soon(0), 1);
        due("back(0)", x.back(0), 0);
        due("count(5)", x.count(5), 0);
        due("count(3)", x.count(3), 0);
        due("soon(1) from there", x.soon(1), 1);
        due("back(1), once more", x.back(1), 1);
        x.down(1, 0);
        due("keep(1), over the earlier", x.keep(1), 2);
        due("back(1)", x.back(1), 2);
        due("one(1, 4)", x.one(1, 4), 0);
        tell(x, "rope 0");
        due("back(0) behind a text", x.back(0), NOT);
        due("back(1) behind a text", x.back(1), NOT);
        due("back(3)", x.back(3), UNKNOWN);
    }

    private static void helps(GiantStair x, int one, int lifter, int puller) {
        due("help(" + one + ", 0)", x.help(one, 0), lifter);
        due("help(" + one + ", 1)", x.help(one, 1), puller);
    }

    private static void helpForetold() {
        GiantStair x = told("stair 1;step 0 30;pilgrim 15 9 5;pilgrim 15 9 5;pilgrim 15 9 9;pilgrim 30 9 9;saint 30 1 4;at 4 1");
        helps(x, 0, 1, 4);
        helps(x, 1, 0, 4);
        helps(x, 2, 0, 4);
        helps(x, 3, NONE, NONE);
        helps(x, 4, NOT, NOT);
        due("help(0, 2)", x.help(0, 2), OUTSIDE);
        due("help(4, -1)", x.help(4, -1), OUTSIDE);
        due("help(5, 0)", x.help(5, 0), UNKNOWN);
        due("help(-1, 3)", x.help(-1, 3), UNKNOWN);
        due("up(3, -1, -1)", x.up(3, -1, -1), 1);
        helps(x, 3, NOT, NOT);
        // A PULLER alone comes ahead of every LIFTER.
        helps(x, 0, NONE, 3);
        tell(x, "nobody;pilgrim 15 9 5;pilgrim 15 9 9;pilgrim 15 9 9");
        helps(x, 0, 1, NONE);
        helps(x, 1, 2, NONE);
        tell(x, "nobody;proud 15 9 5;saint 30 9 99");
        helps(x, 0, NOT, NOT);
        due("count(5): nothing changes", x.count(5), 0);
    }

    private static void wayIs(GiantStair x, int[][] way) {
        for (int i = 0; i < way.length; i++) {
            due("way(" + i + ", 0)", x.way(i, 0), way[i][0]);
            due("way(" + i + ", 1)", x.way(i, 1), way[i][1]);
        }
        due("way behind its end", x.way(way.length, 0), NONE);
        due("way behind its end", x.way(way.length, 1), NONE);
        due("way(max, 0)", x.way(Integer.MAX_VALUE, 0), NONE);
        due("way(-1, 0)", x.way(-1, 0), OUTSIDE);
        due("way(-1, 2)", x.way(-1, 2), OUTSIDE);
        due("way(0, 2)", x.way(0, 2), OUTSIDE);
        due("way(0, -1)", x.way(0, -1), OUTSIDE);
    }

    private static void ways() {
        // The last one goes alone by his height, so the others go by him, whoever comes first.
        GiantStair x = told("stair 1;step 0 30;pilgrim 15 5 5;pilgrim 30 5 5");
        due("soonest()", x.soonest(), 2);
        wayIs(x, new int[][] {{0, 1}, {1, 1}});
        due("lasts()", x.lasts(), 3);
        tell(x, "nobody;pilgrim 15 5 5;pilgrim 15 5 5");
        due("soonest()", x.soonest(), NONE);
        due("lasts()", x.lasts(), NONE);
        wayIs(x, new int[][] {});
        tell(x, "nobody;saint 9 9 9;saint 9 9 9");
        due("soonest(): SAINTS alone", x.soonest(), 0);
        due("lasts(): none needed", x.lasts(), 0);
        wayIs(x, new int[][] {});
        tell(x, "nobody;pilgrim 20 5 5;at 0 1");
        due("soonest()", x.soonest(), 0);
        due("lasts()", x.lasts(), 0);
        tell(x, "stair 1;step 0 30;pilgrim 15 5 5;saint 30 9 9;at 0 1;at 1 1");
        due("lasts(): up, and not to come down", x.lasts(), 0);
        due("many(1)", x.many(1), 0);
        // One is up already, too weak a puller to draw the other; he must come down to lift him.
        tell(x, "stair 1;step 0 30;pilgrim 14 5 5;pilgrim 30 5 5;at 1 1;at 0 0");
        due("soonest()", x.soonest(), 3);
        wayIs(x, new int[][] {{1, 0}, {0, 1}, {1, 1}});
        due("lasts()", x.lasts(), 2);
        tell(x, "stair 2;pilgrim 20 1 1;proud 20 1 1;saint 1 1 1;at 0 1");
        due("soonest()", x.soonest(), 3);
        wayIs(x, new int[][] {{0, 1}, {1, 1}, {1, 1}});
        due("lasts()", x.lasts(), 3);
        due("up(1, -1, -1)", x.up(1, -1, -1), 1);
        due("soonest() from now", x.soonest(), 2);
        wayIs(x, new int[][] {{0, 1}, {1, 1}});
        due("down(0, -1)", x.down(0, -1), 2);
        due("soonest() from now", x.soonest(), 3);
        due("up(0, -1, -1)", x.up(0, -1, -1), 3);
        due("way(1, 0) from now", x.way(1, 0), 1);
        due("up(0, -1, -1)", x.up(0, -1, -1), 4);
        due("lasts() from now", x.lasts(), 2);
        due("roped(0)", x.roped(0), NONE);
        due("way(0, 0) behind roped", x.way(0, 0), 1);
        tell(x, "at 0 0;at 1 2");
        due("lasts() behind a text", x.lasts(), 1);
        x.keep(0);
        x.up(0, -1, -1);
        due("way(1, 0)", x.way(1, 0), NONE);
        x.back(0);
        due("way(1, 0) behind back", x.way(1, 0), 0);
    }

    private static void mosts() {
        GiantStair x = told("stair 1;step 0 30;pilgrim 15 5 5;pilgrim 15 5 5;pilgrim 15 5 5;saint 7 9 9;at 3 1");
        due("most(0)", x.most(0), 3);
        due("most(1): the least of several, a SAINT there", x.most(1), 11);
        due("most(2)", x.most(2), OUTSIDE);
        due("most(-1)", x.most(-1), OUTSIDE);
        tell(x, "at 3 0");
        due("most(0): a SAINT below", x.most(0), 2);
        due("most(1)", x.most(1), 3);
        tell(x, "proud 15 5 5");
        due("most(0): a PROUD one, who stays, lifts the last", x.most(0), 3);
        due("most(1)", x.most(1), 7);
        tell(x, "stair 1;pilgrim 20 1 1;pilgrim 20 1 1;at 0 1;at 1 1");
        due("most(0)", x.most(0), 2);
        due("down(0, -1)", x.down(0, -1), 1);
        due("most(0)", x.most(0), 2);
        due("most(1)", x.most(1), 3);
        tell(x, "nobody;proud 1 1 1");
        due("most(0)", x.most(0), 0);
        due("most(1)", x.most(1), 0);
    }

    private static void soons() {
        GiantStair x = told("stair 3;pilgrim 20 1 1;proud 19 1 1;saint 1 1 1;saint 1 1 1;pilgrim 30 50 1;at 3 3;at 4 3");
        due("soon(0)", x.soon(0), 3);
        due("soon(1)", x.soon(1), NONE);
        due("soon(2): a SAINT below", x.soon(2), NONE);
        due("soon(3): a SAINT at the TOP", x.soon(3), 0);
        due("soon(4)", x.soon(4), 0);
        due("soon(5)", x.soon(5), UNKNOWN);
        due("soon(-1)", x.soon(-1), UNKNOWN);
        x.up(0, -1, -1);
        due("soon(0)", x.soon(0), 2);
        // He is up only behind the other one's coming down.
        tell(x, "stair 1;step 0 30;pilgrim 14 5 5;pilgrim 30 5 5;at 1 1");
        due("soon(0)", x.soon(0), 2);
    }

    private static void manies() {
        GiantStair x = told("stair 2;pilgrim 20 1 1;pilgrim 20 1 1");
        int[] want = {1, 2, 3, 2, 1, 0};
        for (int n = 0; n < want.length; n++) due("many(" + n + ")", x.many(n), want[n]);
        due("many(max)", x.many(Integer.MAX_VALUE), 0);
        due("many(-1)", x.many(-1), OUTSIDE);
        x.up(0, -1, -1);
        due("many(1): UP and DOWN", x.many(1), 3);
        // Five who all go alone on four steps: every POSITION, 5 to the power of 5, is there.
        tell(x, "stair 4;proud 20 1 1;proud 20 1 1;proud 20 1 1;proud 20 1 1;proud 20 1 1");
        int sum = 0;
        for (int n = 0; n <= 20; n++) sum += x.many(n);
        due("all POSITIONS", sum, 3125);
        due("many(20)", x.many(20), 1);
        due("many(21)", x.many(21), 0);
        due("soonest()", x.soonest(), 20);
    }

    private static void ropesForetold() {
        GiantStair x = told("stair 2;step 0 15;step 1 30;pilgrim 15 5 5");
        due("soonest()", x.soonest(), NONE);
        due("roped(0)", x.roped(0), 1);
        due("roped(1)", x.roped(1), 2);
        due("soonest(): nothing changes", x.soonest(), NONE);
        due("step(1, 1): nothing changes", x.step(1, 1), 0);
        due("roped(2)", x.roped(2), OUTSIDE);
        due("roped(-1)", x.roped(-1), OUTSIDE);
        tell(x, "step 0 30");
        due("roped(0): two would be needed", x.roped(0), NONE);
        due("roped(1)", x.roped(1), NONE);
        tell(x, "rope 0");
        due("roped(0): beside one that is there", x.roped(0), 1);
        tell(x, "rope 1");
        due("roped(0): none without", x.roped(0), NONE);
        tell(x, "stair 2;pilgrim 20 5 5");
        due("roped(0): not fewer", x.roped(0), NONE);
        due("roped(1)", x.roped(1), NONE);
        // From above he must come down to lift; a rope at that step saves it.
        tell(x, "stair 1;step 0 30;pilgrim 14 5 5;pilgrim 30 5 5;at 1 1");
        due("soonest()", x.soonest(), 3);
        due("roped(0): fewer than now", x.roped(0), 0);
        due("roped(1)", x.roped(1), 1);
        tell(x, "stair 2;step 0 30;step 1 30;pilgrim 14 5 5;pilgrim 30 5 5;at 1 2");
        due("soonest()", x.soonest(), 6);
        due("roped(0): the step that saves most", x.roped(0), 0);
        due("roped(1)", x.roped(1), 4);
        // By either rope it takes 4: the least is told.
        tell(x, "stair 2;step 1 26;pilgrim 20 6 10;porter 14 5 9;at 0 2");
        due("soonest()", x.soonest(), NONE);
        due("roped(0): of several the least", x.roped(0), 0);
        due("roped(1)", x.roped(1), 4);
        tell(x, "rope 1");
        due("soonest() with the other", x.soonest(), 4);
        tell(x, "nobody");
        due("roped(0): nobody", x.roped(0), NONE);
    }

    private static void odds() {
        GiantStair x = told("stair 1;step 0 30;pilgrim 15 5 5;pilgrim 30 5 5");
        // Only the first one without the second cannot be up: 1 - p (1 - p).
        int[][] want = {{1, 1}, {91, 100}, {21, 25}, {79, 100}, {19, 25}, {3, 4}, {19, 25}, {79, 100}, {21, 25}, {91, 100}, {1, 1}};
        for (int p = 0; p <= 10; p++) {
            due("odds(" + p + ", 0)", x.odds(p, 0), want[p][0]);
            due("odds(" + p + ", 1)", x.odds(p, 1), want[p][1]);
        }
        due("odds(11, 0)", x.odds(11, 0), OUTSIDE);
        due("odds(-1, 0)", x.odds(-1, 0), OUTSIDE);
        due("odds(5, 2)", x.odds(5, 2), OUTSIDE);
        due("odds(5, -1)", x.odds(5, -1), OUTSIDE);
        due("soonest() behind odds", x.soonest(), 2);
        due("soon(1) behind odds", x.soon(1), 1);
        x.up(0, 1, -1);
        due("odds(5, 0): at his LEVEL as now", x.odds(5, 0), 1);
        due("odds(5, 1)", x.odds(5, 1), 1);
        tell(x, "nobody;proud 1 1 1");
        due("odds(10, 0): none", x.odds(10, 0), 0);
        due("odds(10, 1): in lowest terms", x.odds(10, 1), 1);
        tell(x, "nobody;saint 1 1 1");
        due("odds(3, 0): SAINTS need not", x.odds(3, 0), 1);
        due("odds(3, 1)", x.odds(3, 1), 1);
        // A saint who comes helps: the pilgrim stays away, or both come.
        tell(x, "nobody;pilgrim 15 5 5;saint 15 5 5");
        due("odds(3, 0)", x.odds(3, 0), 79);
        due("odds(3, 1)", x.odds(3, 1), 100);
        tell(x, "nobody;proud 1 1 1;proud 1 1 1;proud 1 1 1;proud 1 1 1;proud 1 1 1");
        due("odds(1, 0): all five stay away", x.odds(1, 0), 59049);
        due("odds(1, 1)", x.odds(1, 1), 100000);
    }

    private static void rows() {
        GiantStair x = told("stair 2;pilgrim 20 1 1;saint 1 1 1;at 1 1");
        due("row(2, 1)", x.row(2, 1), UNKNOWN);
        due("row(-1, 5)", x.row(-1, 5), UNKNOWN);
        due("row(0, 2)", x.row(0, 2), OUTSIDE);
        due("row(0, -1)", x.row(0, -1), OUTSIDE);
        for (int i = 1; i <= 12; i++) due("row(1, 0)", x.row(1, 0), i);
        due("row(0, 1)", x.row(0, 1), FULL);
        due("row(0, 2)", x.row(0, 2), OUTSIDE);
        due("row(9, 1)", x.row(9, 1), UNKNOWN);
        due("burn()", x.burn(), 12);
        due("burn()", x.burn(), 0);
        due("row(0, 1)", x.row(0, 1), 1);
        due("count(4)", x.count(4), 1);
        tell(x, "rope 0");
        due("count(4) behind a text", x.count(4), 0);
        due("burn()", x.burn(), 0);
    }

    private static void judging() {
        GiantStair x = told("stair 2;step 0 30;pilgrim 15 5 5;pilgrim 15 5 5;saint 9 9 9");
        due("judge()", x.judge(), NONE);
        x.row(0, 1);
        x.row(0, 0);
        x.row(0, 1);
        x.row(0, 1);
        due("judge(): 0 cannot go on", x.judge(), 3);
        due("count(2): nothing changes", x.count(2), 0);
        due("one(0, 4): nothing changes", x.one(0, 4), 0);
        x.burn();
        due("judge()", x.judge(), NONE);
        x.row(0, 1);
        x.row(1, 1);
        x.row(2, 1);
        due("judge(): nobody is there to lift enough", x.judge(), 2);
        due("up(0, 1, -1)", x.up(0, 1, -1), 1);
        due("judge() from now", x.judge(), 0);
        x.burn();
        x.row(1, 0);
        due("judge(): DOWN from 0", x.judge(), 0);
    }

    private static void counts() {
        GiantStair x = told("stair 1;step 0 30;pilgrim 15 5 5;pilgrim 15 5 5;saint 29 5 5;at 2 1");
        write(x, "nobody");
        x.row(0, 1);
        x.row(0, 1);
        due("up(0, 1, 2)", x.up(0, 1, 2), 1);
        int[] want = {1, 3, 1, 5, 2, 2, 6};
        for (int what = 0; what < want.length; what++) due("count(" + what + ")", x.count(what), want[what]);
        due("count(7)", x.count(7), OUTSIDE);
        due("count(-1)", x.count(-1), OUTSIDE);
        due("count(min)", x.count(Integer.MIN_VALUE), OUTSIDE);
    }

    public static void main(String[] args) {
        promise = "1 a new object"; newObject();
        promise = "2 write"; writing();
        promise = "3 erase"; erasing();
        promise = "4 fault"; faults();
        promise = "5 stair"; stairing();
        promise = "6 step"; steps();
        promise = "7 one"; ones();
        promise = "8 as"; taken();
        promise = "9 up"; ups();
        promise = "10 down"; downs();
        promise = "11 helped"; helping();
        promise = "12, 13 keep, back"; keeping();
        promise = "14 help"; helpForetold();
        promise = "15, 16, 17 soonest, way, lasts"; ways();
        promise = "18 most"; mosts();
        promise = "19 soon"; soons();
        promise = "20 many"; manies();
        promise = "21 roped"; ropesForetold();
        promise = "22 odds"; odds();
        promise = "23, 24 row, burn"; rows();
        promise = "25 judge"; judging();
        promise = "26 count"; counts();
        System.out.println(wrong == 0 ? "all promises hold" : wrong + " answers are not as due");
        if (wrong != 0) System.exit(1);
    }
}
