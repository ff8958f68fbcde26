import java.util.ArrayList;
import java.util.List;
import java.util.function.ToIntFunction;

/**
 * One test for each sentence of the document that names a bound, an edge or a refusal; the sentence is
 * the test's name. PromisesTest asks ordinary calls; here all values about an edge are tried.
 */
public final class EdgesTest {
    private static final int NONE = -1, UNKNOWN = -2, OUTSIDE = -3, NOT = -4, FULL = -5;
    private static final int MIN = Integer.MIN_VALUE, MAX = Integer.MAX_VALUE;
    private static final String[] KINDS = {"pilgrim", "porter", "proud", "saint"};
    private static int wrong;
    private static int sentences;
    private static String sentence;

    private static void test(String words, Runnable body) {
        sentence = words;
        sentences++;
        body.run();
    }

    private static void due(String call, int got, int want) {
        if (got != want) {
            wrong++;
            if (wrong <= 40) System.out.println("\"" + sentence + "\": " + call + " answered " + got + ", due is " + want);
        }
    }

    // ---- texts

    private static void write(GiantStair x, String text) {
        for (int from = 0; from < text.length(); from += 8) {
            int n = Math.min(8, text.length() - from);
            long bytes = 0;
            for (int i = 0; i < n; i++) bytes |= (long) text.charAt(from + i) << 8 * i;
            x.write(bytes, n);
        }
    }

    private static void tell(GiantStair x, String text) {
        write(x, text);
        due("stair() of " + text, x.stair(), text.split(";", -1).length);
    }

    private static GiantStair told(String... texts) {
        GiantStair x = new GiantStair();
        for (String text : texts) tell(x, text);
        return x;
    }

    private static GiantStair behind(String ahead) {
        return ahead.isEmpty() ? new GiantStair() : told(ahead);
    }

    private static void stands(String ahead, String text) {
        GiantStair x = behind(ahead);
        write(x, text);
        due("fault() of " + text, x.fault(), NONE);
        due("stair() of " + text, x.stair(), text.split(";", -1).length);
    }

    private static void falls(String ahead, String text, int place) {
        GiantStair x = behind(ahead);
        write(x, text);
        due("fault() of " + text, x.fault(), place);
        due("stair() of " + text, x.stair(), NOT);
    }

    /** Every number of one or two digits, written either way: it stands within the bounds alone. */
    private static void numberBounds(String ahead, String front, int least, int greatest, String back) {
        for (int number = 0; number <= 99; number++) {
            boolean within = least <= number && number <= greatest;
            String two = (number < 10 ? "0" : "") + number;
            for (String digits : number < 10 ? new String[] {"" + number, two} : new String[] {two}) {
                if (within) stands(ahead, front + digits + back);
                else falls(ahead, front + digits + back, front.length());
            }
        }
        falls(ahead, front + "100" + back, front.length());
        falls(ahead, front + "00" + least + back, front.length());
    }

    // ---- 1: the stair and the people

    private static void levels() {
        due("count(0) at first", new GiantStair().count(0), 2);
        numberBounds("", "stair ", 1, 4, "");
        for (int n = 1; n <= 4; n++) {
            GiantStair x = told("stair " + n + ";pilgrim 20 1 1");
            due("count(0)", x.count(0), n);
            for (int level = 0; level < n; level++) {
                due("not yet at the TOP", x.count(3), 0);
                due("up", x.up(0, NONE, NONE), level + 1);
            }
            due("at the TOP", x.count(3), 1);
            due("one(0, 4)", x.one(0, 4), n);
            due("up from the TOP", x.up(0, NONE, NONE), NOT);
        }
    }

    private static void steps() {
        for (int n = 1; n <= 4; n++) {
            GiantStair x = told("stair " + n);
            for (int step = 0; step < n; step++) due("step(" + step + ", 0)", x.step(step, 0), 20);
            due("step(n, 0)", x.step(n, 0), UNKNOWN);
        }
        // Each step alone stands in the way, of him who goes up it and of him who goes down it.
        for (int high = 0; high < 4; high++) {
            GiantStair x = told("stair 4;step " + high + " 21;pilgrim 20 1 1;pilgrim 20 1 1;at 1 4");
            int done = 0;
            for (int step = 0; step < high; step++) due("up to the high one", x.up(0, NONE, NONE), ++done);
            due("up the high one", x.up(0, NONE, NONE), NOT);
            for (int step = 3; step > high; step--) due("down to the high one", x.down(1, NONE), ++done);
            due("down the high one", x.down(1, NONE), NOT);
        }
    }

    private static void stepHeights() {
        GiantStair fresh = new GiantStair();
        due("step(0, 0) at first", fresh.step(0, 0), 20);
        due("step(1, 0) at first", fresh.step(1, 0), 20);
        numberBounds("", "step 0 ", 1, 60, "");
        for (int height : new int[] {1, 2, 19, 21, 59, 60}) {
            GiantStair x = told("stair 4;step 3 " + height);
            due("step(3, 0)", x.step(3, 0), height);
            due("step(2, 0)", x.step(2, 0), 20);
        }
    }

    private static void stepRopes() {
        GiantStair x = new GiantStair();
        due("step(0, 1) at first", x.step(0, 1), 0);
        due("step(1, 1) at first", x.step(1, 1), 0);
        for (int roped = 0; roped < 4; roped++) {
            tell(x, "stair 4;rope " + roped);
            for (int step = 0; step < 4; step++) due("step(" + step + ", 1)", x.step(step, 1), step == roped ? 1 : 0);
        }
        tell(x, "rope 3;rope 3");
        due("step(3, 1)", x.step(3, 1), 1);
    }

    private static String crowd(int people) {
        return "nobody" + ";saint 1 1 1".repeat(people);
    }

    private static void people() {
        due("count(1) at first", new GiantStair().count(1), 0);
        due("one(0, 0) at first", new GiantStair().one(0, 0), UNKNOWN);
        for (int many = 0; many <= 5; many++) {
            GiantStair x = told(crowd(many));
            due("count(1)", x.count(1), many);
            for (int one = 0; one < many; one++) due("one(" + one + ", 0)", x.one(one, 0), 3);
            due("one(" + many + ", 0)", x.one(many, 0), UNKNOWN);
        }
        GiantStair x = told("pilgrim 11 1 1;saint 12 1 1", "porter 13 1 1;proud 14 1 1", "saint 15 1 1");
        for (int one = 0; one < 5; one++) due("as they come: one(" + one + ", 1)", x.one(one, 1), 11 + one);
    }

    private static void kinds() {
        for (int kind = 0; kind < 4; kind++) {
            GiantStair x = told(KINDS[kind] + " 1 1 1");
            due("one(0, 0) of a " + KINDS[kind], x.one(0, 0), kind);
        }
    }

    private static void numbersOfPeople(String front, int least, int greatest, String back, int what) {
        for (String kind : KINDS) {
            numberBounds("", kind + front, least, greatest, back);
            for (int number : new int[] {least, least + 1, greatest - 1, greatest}) {
                due("one(0, " + what + ")", told(kind + front + number + back).one(0, what), number);
            }
        }
    }

    private static void heights() {
        numbersOfPeople(" ", 1, 30, " 2 3", 1);
    }

    private static void weights() {
        numbersOfPeople(" 4 ", 1, 50, " 3", 2);
    }

    private static void strengths() {
        numbersOfPeople(" 4 5 ", 0, 99, "", 3);
    }

    private static void loads() {
        for (String kind : KINDS) due("a LOAD at first", told(kind + " 1 7 1").one(0, 2), 7);
        numberBounds("", "saint 1 7 1;load 0 ", 0, 49, "");
        for (int load : new int[] {0, 1, 48, 49}) {
            due("with a LOAD of " + load, told("saint 1 7 1;load 0 " + load).one(0, 2), 7 + load);
        }
        due("the heaviest", told("saint 1 50 1;load 0 49").one(0, 2), 99);
    }

    private static void levelsOfPeople() {
        for (String kind : KINDS) due("a LEVEL at first", told(kind + " 1 1 1").one(0, 4), 0);
        for (int n = 1; n <= 4; n++) {
            numberBounds("", "stair " + n + ";saint 1 1 1;at 0 ", 0, n, "");
            for (int level = 0; level <= n; level++) {
                due("one(0, 4)", told("stair " + n + ";saint 1 1 1;at 0 " + level).one(0, 4), level);
            }
        }
        numberBounds("", "saint 1 1 1;at 0 ", 0, 2, "");
    }

    // ---- 1: THE TEXT

    private static void textOf200() {
        for (int ahead = 192; ahead <= 200; ahead++) {
            for (int n = 1; n <= 8; n++) {
                GiantStair x = new GiantStair();
                write(x, " ".repeat(ahead));
                boolean fits = ahead + n <= 200;
                due("write of " + n + " behind " + ahead, x.write(0x2020202020202020L, n), fits ? ahead + n : FULL);
                due("count(6)", x.count(6), fits ? ahead + n : ahead);
            }
        }
        stands("", " ".repeat(194) + "nobody");
        stands("", "nobody" + " ".repeat(194));
        falls("", " ".repeat(195) + "stair", 200);
        falls("", " ".repeat(194) + "stair5", 199);
    }

    private static void linesTo12() {
        falls("", "", 0);
        for (int lines = 1; lines <= 12; lines++) {
            String text = "rope 0;".repeat(lines - 1) + "rope 1";
            stands("", text);
            // Another ; asks for one more line, but behind the 12th it is itself the FAULT.
            falls("", text + ";", lines < 12 ? text.length() + 1 : text.length());
            falls("", text + "  ;  ", lines < 12 ? text.length() + 5 : text.length() + 2);
        }
        String twelve = "rope 0;".repeat(11) + "rope 1";
        falls("", twelve + ";rope 0", twelve.length());
        falls("", twelve + ";;", twelve.length());
        stands("", twelve + " ");
        falls("", twelve + " 1;", twelve.length() + 1);
        falls("", "rope 0;".repeat(11) + "rope 2;", 82);
        falls("", "rope 0;".repeat(11), 77);
        falls("", ";rope 0", 0);
        falls("", "rope 0;;rope 0", 7);
        falls("", "rope 0 rope 0", 7);
        falls("", "rope 0:rope 0", 6);
    }

    private static void wordsOfLines() {
        String people = "saint 1 1 1";
        String[] good = {"stair 3", "step 1 9", "rope 1", "pilgrim 9 8 7", "porter 9 8 7", "proud 9 8 7", "saint 9 8 7",
            "load 0 9", "at 0 1", "nobody"};
        for (String line : good) {
            stands(people, line);
            int word = line.replaceAll("[^a-z]", "").length();
            for (int i = 0; i < word; i++) {
                falls(people, line.substring(0, i) + "j" + line.substring(i + 1), 0);
                falls(people, line.substring(0, i) + line.substring(i + 1), 0);
                falls(people, line.substring(0, i) + "j" + line.substring(i), 0);
                if (i > 0) falls(people, line.substring(0, i) + " " + line.substring(i), 0);
            }
            falls(people, line.substring(0, word) + "j" + line.substring(word), 0);
            falls(people, line + ".", line.length());
            falls(people, line + " 1", line.length() + 1);
            falls(people, line + "a", line.length() * (line.equals("nobody") ? 0 : 1));
            tooFewNumbers(people, line);
        }
    }

    private static void tooFewNumbers(String ahead, String line) {
        for (int at = line.lastIndexOf(' '); at > 0; at = line.lastIndexOf(' ', at - 1)) {
            falls(ahead, line.substring(0, at), at);
            falls(ahead, line.substring(0, at) + ";nobody", at);
            falls(ahead, line.substring(0, at) + " nobody", at + 1);
        }
    }

    private static void earlierStays() {
        GiantStair x = told("stair 3;step 0 31;rope 1;porter 11 12 13;load 0 14;at 0 3");
        for (String other : new String[] {"step 2 9", "rope 2", "saint 1 2 3", "load 1 4", "at 1 1", "step 2 10;at 1 2"}) {
            tell(x, other);
            due("count(0) behind " + other, x.count(0), 3);
            due("step(0, 0) behind " + other, x.step(0, 0), 31);
            due("step(1, 0) behind " + other, x.step(1, 0), 20);
            due("step(0, 1) behind " + other, x.step(0, 1), 0);
            due("step(1, 1) behind " + other, x.step(1, 1), 1);
            int[] his = {1, 11, 26, 13, 3};
            for (int what = 0; what < 5; what++) due("one(0, " + what + ") behind " + other, x.one(0, what), his[what]);
        }
        due("count(1)", x.count(1), 2);
        due("step(2, 1)", x.step(2, 1), 1);
        due("step(2, 0)", x.step(2, 0), 10);
        due("one(1, 2)", x.one(1, 2), 6);
        tell(x, "load 0 1;load 0 2");
        due("a LOAD told again is not added", x.one(0, 2), 14);
        tell(x, "nobody");
        due("nobody leaves the stair: count(0)", x.count(0), 3);
        due("nobody leaves the stair: step(0, 0)", x.step(0, 0), 31);
        due("nobody leaves the stair: step(1, 1)", x.step(1, 1), 1);
    }

    private static void stairTold() {
        GiantStair x = told("stair 4;step 0 31;step 3 33;rope 0;rope 3;" + crowd(5));
        for (int n : new int[] {4, 1, 3, 2}) {
            tell(x, "stair " + n);
            due("count(0)", x.count(0), n);
            due("count(1)", x.count(1), 0);
            for (int step = 0; step < n; step++) {
                due("step(" + step + ", 0)", x.step(step, 0), 20);
                due("step(" + step + ", 1)", x.step(step, 1), 0);
            }
            tell(x, "stair 4;step 0 31;step 3 33;rope 0;rope 3;saint 1 1 1");
        }
        // What lay on a step of an earlier stair is not there again when the stair grows.
        tell(x, "stair 1");
        tell(x, "stair 4");
        due("step(3, 0)", x.step(3, 0), 20);
        due("step(3, 1)", x.step(3, 1), 0);
    }

    private static void sixth() {
        String five = "saint 1 1 1;".repeat(5);
        for (String kind : KINDS) {
            stands("", five.substring(12) + kind + " 1 1 1");
            falls("", five + kind + " 1 1 1", 60);
            falls("", five + "  " + kind + " 0 51 100", 62);
            falls("", five + kind, 60);
            falls(crowd(5), " " + kind + " 1 1 1", 1);
            stands(crowd(4), kind + " 1 1 1");
            falls(crowd(4), kind + " 1 1 1;" + kind + " 1 1 1", kind.length() + 7);
            stands(crowd(5), "nobody;" + kind + " 1 1 1");
            stands(crowd(5), "stair 1;" + kind + " 1 1 1");
            falls(crowd(5), kind + " 1 1 1;nobody", 0);
        }
        stands(crowd(5), "load 4 1;at 4 1;step 0 1;rope 1");
        due("five behind nobody", told(crowd(5), crowd(5)).count(1), 5);
    }

    private static void atTold() {
        GiantStair x = told("stair 4;saint 1 1 1;saint 1 1 1;at 1 4;at 1 3");
        due("one(1, 4): the last told", x.one(1, 4), 3);
        due("one(0, 4): not told", x.one(0, 4), 0);
        tell(x, "at 0 4;at 1 0");
        due("one(0, 4)", x.one(0, 4), 4);
        due("one(1, 4)", x.one(1, 4), 0);
        // Another one stands at 0, whatever was told of who bore the number ahead of him.
        tell(x, "nobody;saint 1 1 1");
        due("one(0, 4) of a new one", x.one(0, 4), 0);
    }

    private static void nobodyTold() {
        for (int many = 0; many <= 5; many++) {
            GiantStair x = told(crowd(many), "nobody");
            due("count(1)", x.count(1), 0);
            due("one(0, 0)", x.one(0, 0), UNKNOWN);
            due("soonest()", x.soonest(), 0);
            if (many > 0) tell(x, crowd(many) + ";at " + (many - 1) + " 2;at 0 2");
            tell(x, "nobody");
            due("count(3): of who was there", x.count(3), 0);
            due("most(1): of who was there", x.most(1), 0);
            due("many(0)", x.many(0), 1);
        }
        GiantStair x = told("porter 9 8 7;load 0 6;at 0 2", "nobody;saint 1 2 3");
        int[] his = {3, 1, 2, 3, 0};
        for (int what = 0; what < 5; what++) due("one(0, " + what + ") of a new one", x.one(0, what), his[what]);
        due("count(1)", told("saint 1 1 1;nobody;saint 1 1 1;saint 1 1 1").count(1), 2);
    }

    private static void suchAsThereAre() {
        for (int n = 1; n <= 4; n++) {
            numberBounds("stair " + n, "step ", 0, n - 1, " 9");
            numberBounds("stair " + n, "rope ", 0, n - 1, "");
            numberBounds("", "stair " + n + ";rope ", 0, n - 1, "");
            numberBounds("stair 4", "stair " + n + ";step ", 0, n - 1, " 9");
        }
        numberBounds("", "step ", 0, 1, " 9");
        numberBounds("", "rope ", 0, 1, "");
        for (int many = 0; many <= 5; many++) {
            numberBounds(crowd(many), "load ", 0, many - 1, " 9");
            numberBounds(crowd(many), "at ", 0, many - 1, " 1");
            numberBounds(crowd(5), crowd(many) + ";load ", 0, many - 1, " 9");
            numberBounds("", crowd(many) + ";at ", 0, many - 1, " 1");
        }
        // Behind the LINES ahead, not behind them all.
        falls("", "rope 3;stair 4", 5);
        falls("", "step 2 9;stair 4", 5);
        falls("", "at 0 1;saint 1 1 1", 3);
        falls("", "load 0 1;saint 1 1 1", 5);
        falls("saint 1 1 1", "stair 2;load 0 1", 13);
        falls("saint 1 1 1", "nobody;at 0 1", 10);
        stands("saint 1 1 1", "at 0 2;stair 1;saint 1 1 1;at 0 1");
        falls("saint 1 1 1", "at 0 2;stair 1;saint 1 1 1;at 0 2", 32);
    }

    private static void letters() {
        // A sign that is no letter ends the word, which then stands; a letter makes another word of it.
        for (int sign = 0; sign <= 255; sign++) {
            if (sign == ' ' || sign == ';') continue;
            boolean letter = sign >= 'a' && sign <= 'z';
            falls("", "nobody" + (char) sign, letter ? 0 : 6);
            falls("", (char) sign + "nobody", 0);
            falls("", "stair" + (char) sign + "9", letter ? 0 : 5);
        }
        for (int i = 0; i < 6; i++) {
            char[] signs = "nobody".toCharArray();
            signs[i] += 128;
            falls("", new String(signs), 0);
            signs[i] += 96;
            falls("", new String(signs), 0);
        }
        falls("", "NOBODY", 0);
        falls("", "Nobody", 0);
        falls("", "nobodY", 0);
    }

    private static void digits() {
        for (int sign = 0; sign <= 255; sign++) {
            if (sign == ' ') continue;
            String text = "stair 1" + (char) sign;
            // With one digit more it is another number; of what is no digit the number before stands.
            if (sign == ';') falls("", text, 8);
            else falls("", text, sign >= '0' && sign <= '9' ? 6 : 7);
            boolean good = sign >= '1' && sign <= '4';
            if (good) stands("", "stair " + (char) sign);
            else falls("", "stair " + (char) sign, 6);
            if (good) stands("", "stair 0" + (char) sign);
        }
        for (int more = 1; more <= 190; more++) {
            falls("", "stair " + "0".repeat(1 + more) + "1", 6);
            falls("", "stair 1" + "0".repeat(1 + more), 6);
        }
        // 4294967297 is 1, if it grows out of an int.
        falls("", "stair 4294967297", 6);
        falls("", "stair 18446744073709551617", 6);
        falls("", "stair -1", 6);
        falls("", "stair +1", 6);
    }

    private static void blanks() {
        for (int many = 0; many <= 3; many++) {
            String b = " ".repeat(many);
            stands("", b + "stair" + b + "4" + b + ";" + b + "step" + b + "3 " + b + "9" + b + ";" + b + "nobody" + b);
            stands("", b + "pilgrim" + b + "30 " + b + "50 " + b + "99" + b + ";" + b + "load" + b + "0 " + b + "49" + b);
            falls("", b, many);
            falls("", b + "stair" + b, 2 * many + 5);
            falls("", b + "stair" + b + "5", 2 * many + 5);
            falls("", b + "nobody" + b + "." + b, 2 * many + 6);
        }
        GiantStair x = told("stair4;step3 60;rope3;saint1 2 3;load0 9;at0 3");
        due("step(3, 0)", x.step(3, 0), 60);
        due("one(0, 2)", x.one(0, 2), 11);
        due("one(0, 4)", x.one(0, 4), 3);
        // Digits side by side are one TOKEN, as are letters.
        falls("", "step 160", 5);
        falls("", "stair 1 1", 8);
        falls("", "sta ir 1", 0);
        falls("", "rope 0nobody", 6);
        falls("", "nobodynobody", 0);
        for (int sign = 0; sign <= 255; sign++) {
            if (sign == ' ') continue;
            falls("", (char) sign + " nobody", 0);
            falls("", "stair " + (char) sign + " 2", sign >= '1' && sign <= '4' ? 8 : 6);
        }
    }

    private static void firstFault() {
        falls("", "stair 9;stair 9", 6);
        falls("", "stair 4;stair 9;x", 14);
        falls("", "step 9 99", 5);
        falls("", "step 1 99", 7);
        falls("", "step 001 9", 5);
        falls("", "pilgrim 31 51 x", 8);
        falls("", "pilgrim 30 51 x", 11);
        falls("", "pilgrim 30 50 x", 14);
        falls("", "pilgrim 30 50 1 x", 16);
        falls("", "nobody x;", 7);
        // At the end, if it comes too soon: the place is the length.
        String[] soon = {"", " ", "stair", "stair ", "step", "step 1", "step 1  ", "rope", "pilgrim", "pilgrim 1", "pilgrim 1 1",
            "porter 1 1 ", "proud 1 ", "saint", "nobody;", "nobody; ", "stair 1;stair"};
        for (String text : soon) falls("", text, text.length());
        for (String text : new String[] {"load", "at", "load 0", "at 0", "at 0 "}) falls("saint 1 1 1", text, text.length());
        // What a word begins does not stand in for it.
        for (String text : new String[] {"s", "st", "stai", "a", "nobod", "pilgri", "p"}) falls("saint 1 1 1", text, 0);
        falls("", "xnobody " + "x".repeat(192), 0);
    }

    private static void linesInOrder() {
        GiantStair x = told("stair 4;step 3 9;rope 3;stair 4;step 2 8;step 2 7");
        due("step(3, 0)", x.step(3, 0), 20);
        due("step(3, 1)", x.step(3, 1), 0);
        due("step(2, 0)", x.step(2, 0), 7);
        x = told("saint 1 1 1;load 0 5;nobody;proud 2 2 2;load 0 3;at 0 2;load 0 4;at 0 1");
        due("count(1)", x.count(1), 1);
        due("one(0, 0)", x.one(0, 0), 2);
        due("one(0, 2)", x.one(0, 2), 6);
        due("one(0, 4)", x.one(0, 4), 1);
        due("count(0)", told("stair 1;stair 3").count(0), 3);
        due("count(0)", told("stair 3;stair 1").count(0), 1);
    }

    /** All that an object of these tests was told and has done; four MOVES, two kept, a ROW, some help. */
    private static GiantStair busy() {
        GiantStair x = told("stair 2;step 0 30;step 1 24;pilgrim 15 10 9;porter 20 9 6;proud 12 5 5;saint 29 5 8;pilgrim 30 20 20;"
            + "load 0 2;at 2 1;at 3 1");
        due("keep(0)", x.keep(0), 0);
        due("up(4, ..)", x.up(4, NONE, NONE), 1);
        due("up(0, 1, 3)", x.up(0, 1, 3), 2);
        due("keep(1)", x.keep(1), 2);
        due("up(4, ..)", x.up(4, NONE, NONE), 3);
        due("down(4, ..)", x.down(4, NONE), 4);
        x.row(4, 1);
        x.row(4, 0);
        for (int i = 0; i < 10; i++) x.row(1, 1);
        return x;
    }

    private static void behindAText() {
        for (String text : new String[] {"rope 1", "step 0 30", "at 4 2", "load 1 1", "stair 2;saint 1 1 1", "nobody"}) {
            GiantStair x = busy();
            due("keep(1)", x.keep(1), 4);
            tell(x, text);
            due("count(2) behind " + text, x.count(2), 0);
            due("count(4) behind " + text, x.count(4), 0);
            due("count(5) behind " + text, x.count(5), 0);
            due("count(6) behind " + text, x.count(6), 0);
            due("judge() behind " + text, x.judge(), NONE);
            due("burn() behind " + text, x.burn(), 0);
            due("back(0) behind " + text, x.back(0), NOT);
            due("back(1) behind " + text, x.back(1), NOT);
            for (int one = 0; one < x.count(1); one++) {
                due("one(" + one + ", 5) behind " + text, x.one(one, 5), 0);
                due("one(" + one + ", 6) behind " + text, x.one(one, 6), 0);
            }
        }
        GiantStair x = busy();
        tell(x, "rope 1");
        int[] at = {0, 0, 1, 1, 0};
        for (int one = 0; one < 5; one++) due("one(" + one + ", 4): as told last", x.one(one, 4), at[one]);
        due("helped(1, 0)", x.helped(1, 0), 0);
        due("up(4, ..): the first", x.up(4, NONE, NONE), 1);
        tell(x, "at 1 2;step 0 30");
        due("one(1, 4): as told last", x.one(1, 4), 2);
        due("one(4, 4): as told last", x.one(4, 4), 0);
        due("keep(0)", x.keep(0), 0);
        tell(x, "at 1 1");
        due("back(0)", x.back(0), NOT);
    }

    // ---- 2: MOVES

    private static void burdens() {
        // One who is lifted by a HAND of 30 alone: he goes while WEIGHT and LOAD are 30 at most.
        for (int weight = 20; weight <= 31; weight++) {
            for (int load = 0; load <= 12; load++) {
                GiantStair x = told("pilgrim 10 " + weight + " 0;pilgrim 10 1 30;load 0 " + load);
                due("one(0, 2)", x.one(0, 2), weight + load);
                due("up by a HAND of 30", x.up(0, 1, NONE), weight + load <= 30 ? 1 : NOT);
            }
        }
        // A LOAD is no help, and one's own STRENGTH does not carry in another's hands.
        due("up, strong himself", told("pilgrim 10 31 99;pilgrim 10 1 30;load 1 49").up(0, 1, NONE), NOT);
    }

    private static void hands() {
        for (int kind = 0; kind < 4; kind++) {
            for (int strength = 0; strength <= 50; strength++) {
                int hand = kind == 1 ? 2 * strength : strength;
                String helper = KINDS[kind] + " 10 1 " + strength;
                for (int burden = Math.max(1, hand - 1); burden <= hand + 1 && burden <= 50; burden++) {
                    boolean can = hand >= burden;
                    GiantStair x = told("pilgrim 10 " + burden + " 0;" + helper);
                    due(helper + " lifts " + burden, x.up(0, 1, NONE), can ? 1 : NOT);
                    x = told("pilgrim 15 " + burden + " 0;" + helper + ";at 1 1");
                    due(helper + " pulls " + burden, x.up(0, NONE, 1), can ? 1 : NOT);
                    x = told("pilgrim 10 " + burden + " 0;" + helper + ";at 0 1");
                    due(helper + " catches " + burden, x.down(0, 1), can ? 1 : NOT);
                }
            }
        }
        GiantStair x = told("pilgrim 10 50 0;porter 10 1 50;porter 10 1 49;load 0 49;at 0 1");
        due("a PORTER's HAND of 98 for 99", x.down(0, 2), NOT);
        due("a PORTER's HAND of 100 for 99", x.down(0, 1), 1);
    }

    private static void notFromTheTop() {
        for (int n = 1; n <= 4; n++) {
            GiantStair x = told("stair " + n + ";pilgrim 30 1 99;pilgrim 30 1 99;porter 30 1 99;at 0 " + n + ";at 1 " + n);
            due("up(0, ALONE) from the TOP", x.up(0, NONE, NONE), NOT);
            due("up(0, 1, NONE) from the TOP", x.up(0, 1, NONE), NOT);
            due("up(0, NONE, 2) from the TOP", x.up(0, NONE, 2), NOT);
            due("up(0, 1, 2) from the TOP", x.up(0, 1, 2), NOT);
            due("as(0, 0) at the TOP", x.as(0, 0), 2);
            due("help(0, 0) at the TOP", x.help(0, 0), NOT);
            due("up(2, ALONE) from 0", x.up(2, NONE, NONE), 1);
        }
    }

    private static void notFromTheGround() {
        GiantStair x = told("stair 4;pilgrim 30 1 99;pilgrim 30 1 99;at 1 1");
        due("down(0, ALONE) from 0", x.down(0, NONE), NOT);
        due("down(0, 1) from 0", x.down(0, 1), NOT);
        due("as(0, 0) at 0", x.as(0, 0), 1);
        due("down(1, ALONE) from 1", x.down(1, NONE), 1);
        due("down(1, ALONE) from 0", x.down(1, NONE), NOT);
        due("down(1, 0) from 0", x.down(1, 0), NOT);
    }

    private static void aloneByHeight() {
        for (int kind = 0; kind < 4; kind++) {
            boolean goes = kind != 3;
            for (int step = 1; step <= 60; step++) {
                for (int height = Math.max(1, step - 1); height <= step + 1 && height <= 30; height++) {
                    int can = goes && height >= step ? 1 : NOT;
                    String his = "stair 1;step 0 " + step + ";" + KINDS[kind] + " " + height + " 50 0";
                    due("up by a height of " + height + " for " + step, told(his).up(0, NONE, NONE), can);
                    due("down by a height of " + height + " for " + step, told(his + ";at 0 1").down(0, NONE), can);
                }
            }
        }
    }

    private static void aloneByRope() {
        for (int kind = 0; kind < 4; kind++) {
            for (int burden = 1; burden <= 60; burden++) {
                for (int strength = burden / 2; strength <= burden + 1; strength++) {
                    int weight = Math.min(burden, 50);
                    String his = "stair 1;step 0 60;rope 0;" + KINDS[kind] + " 30 " + weight + " " + strength + ";load 0 " + (burden - weight);
                    due("up by the rope: " + his, told(his).up(0, NONE, NONE), kind != 3 && strength >= burden ? 1 : NOT);
                }
            }
            String weak = "stair 1;step 0 60;rope 0;" + KINDS[kind] + " 1 50 0;load 0 49;at 0 1";
            due("down by the rope, however weak", told(weak).down(0, NONE), kind == 3 ? NOT : 1);
        }
        // A rope at another step is none here, above or below.
        for (int rope = 0; rope < 3; rope++) {
            GiantStair x = told("stair 3;step 0 40;step 1 40;step 2 40;rope " + rope + ";pilgrim 9 9 9;pilgrim 9 9 9;at 0 1;at 1 2");
            due("up at step 1, the rope at " + rope, x.up(0, NONE, NONE), rope == 1 ? 1 : NOT);
            x = told("stair 3;step 0 40;step 1 40;step 2 40;rope " + rope + ";pilgrim 9 9 9;pilgrim 9 9 9;at 0 1;at 1 2");
            due("down at step 1, the rope at " + rope, x.down(1, NONE), rope == 1 ? 1 : NOT);
        }
    }

    private static void onlySo() {
        String helpers = ";saint 30 1 99;saint 30 1 99";
        for (String his : new String[] {"stair 1;step 0 30;pilgrim 30 50 0", "stair 1;step 0 60;rope 0;pilgrim 1 50 50",
            "stair 1;step 0 30;proud 30 50 0", "stair 1;step 0 60;rope 0;porter 1 50 50"}) {
            GiantStair x = told(his + helpers + ";at 2 1");
            due("up with a LIFTER", x.up(0, 1, NONE), NOT);
            due("up with a PULLER", x.up(0, NONE, 2), NOT);
            due("up with both", x.up(0, 1, 2), NOT);
            due("helped(1, 0)", x.helped(1, 0), 0);
            due("up ALONE", x.up(0, NONE, NONE), 1);
            due("down with a CATCHER", x.down(0, 1), NOT);
            due("down ALONE", x.down(0, NONE), 2);
            due("count(5)", x.count(5), 0);
        }
        // With a rope that he is too weak for, helpers serve UP as without; DOWN the rope serves any.
        GiantStair x = told("stair 1;step 0 40;rope 0;pilgrim 20 50 49" + helpers + ";at 2 1");
        due("up ALONE, too weak", x.up(0, NONE, NONE), NOT);
        due("up with a LIFTER", x.up(0, 1, NONE), 1);
        due("down with a CATCHER", x.down(0, 1), NOT);
        due("down ALONE", x.down(0, NONE), 2);
    }

    private static void whereHelpersStand() {
        for (int his = 0; his <= 4; his++) {
            for (int other = 0; other <= 4; other++) {
                String scene = "stair 4;step 0 30;step 1 30;step 2 30;step 3 30;pilgrim 20 5 5;saint 30 1 99;at 0 " + his + ";at 1 " + other;
                boolean below = his < 4;
                due("LIFTER " + his + " " + other, told(scene).up(0, 1, NONE), below && other == his ? 1 : NOT);
                due("PULLER " + his + " " + other, told(scene).up(0, NONE, 1), below && other == his + 1 ? 1 : NOT);
                due("CATCHER " + his + " " + other, told(scene).down(0, 1), his > 0 && other == his - 1 ? 1 : NOT);
                due("up ALONE", told(scene).up(0, NONE, NONE), NOT);
                due("down ALONE", told(scene).down(0, NONE), NOT);
            }
        }
        // Of two that are named each must stand where he is to, though one of them would do.
        for (int first = 0; first <= 2; first++) {
            for (int second = 0; second <= 2; second++) {
                GiantStair x = told("stair 2;step 0 30;pilgrim 20 5 5;saint 30 1 99;saint 30 1 99;at 1 " + first + ";at 2 " + second);
                due("both at " + first + " " + second, x.up(0, 1, 2), first == 0 && second == 1 ? 1 : NOT);
            }
        }
        GiantStair x = told("stair 2;step 0 30;pilgrim 20 5 5;saint 30 1 99");
        due("up(0, 1, 1): he is not at both", x.up(0, 1, 1), NOT);
        due("up(1, ..): a SAINT", x.up(1, 0, NONE), NOT);
    }

    private static void handsTogether() {
        for (int lift = 0; lift <= 6; lift++) {
            for (int pull = 0; pull <= 6; pull++) {
                for (int burden = 1; burden <= 14; burden++) {
                    GiantStair x = told("stair 1;pilgrim 10 " + burden + " 9;pilgrim 10 1 " + lift + ";pilgrim 10 1 " + pull + ";at 2 1");
                    due(lift + " and " + pull + " for " + burden, x.up(0, 1, 2), lift + pull >= burden ? 1 : NOT);
                }
            }
        }
        // A PORTER's is twice on either side.
        for (int burden = 13; burden <= 18; burden++) {
            due("PORTER lifts", told("pilgrim 10 " + burden + " 9;porter 10 1 5;pilgrim 10 1 4;at 2 1").up(0, 1, 2), burden <= 14 ? 1 : NOT);
            due("PORTER pulls", told("pilgrim 10 " + burden + " 9;pilgrim 10 1 4;porter 10 1 5;at 2 1").up(0, 1, 2), burden <= 14 ? 1 : NOT);
            due("PORTERS both", told("pilgrim 10 " + burden + " 9;porter 10 1 3;porter 10 1 5;at 2 1").up(0, 1, 2), burden <= 16 ? 1 : NOT);
        }
    }

    private static void heightsTogether() {
        for (int lifter = 9; lifter <= 12; lifter++) {
            for (int puller = 9; puller <= 12; puller++) {
                for (int step = 13; step <= 30; step++) {
                    String scene = "stair 1;step 0 " + step + ";pilgrim 11 5 5;pilgrim " + lifter + " 1 9;pilgrim " + puller + " 1 9;at 2 1";
                    due("lifted " + scene, told(scene).up(0, 1, NONE), 11 + lifter >= step ? 1 : NOT);
                    due("pulled " + scene, told(scene).up(0, NONE, 2), 11 + puller / 2 >= step ? 1 : NOT);
                    due("both " + scene, told(scene).up(0, 1, 2), 11 + lifter + puller / 2 >= step ? 1 : NOT);
                }
            }
        }
        // Half of 1 is nothing; 30, 30 and half of 30 are not enough for 60 less than 75.
        due("a PULLER of height 1", told("stair 1;step 0 12;pilgrim 11 5 5;saint 1 1 9;at 1 1").up(0, NONE, 1), NOT);
        due("a PULLER of height 2", told("stair 1;step 0 12;pilgrim 11 5 5;saint 2 1 9;at 1 1").up(0, NONE, 1), 1);
        due("the highest step", told("stair 1;step 0 60;pilgrim 30 5 5;saint 30 1 9").up(0, 1, NONE), 1);
        due("the highest step", told("stair 1;step 0 60;pilgrim 29 5 5;saint 30 1 9").up(0, 1, NONE), NOT);
    }

    private static void catchersHeight() {
        GiantStair x = told("stair 1;step 0 60;pilgrim 1 5 5;saint 1 1 5;at 0 1");
        due("a CATCHER's HEIGHT is not asked", x.down(0, 1), 1);
        due("down without", told("stair 1;step 0 60;pilgrim 1 5 5;saint 1 1 5;at 0 1").down(0, NONE), NOT);
    }

    private static void proudAlone() {
        String helpers = ";saint 30 1 99;saint 30 1 99;at 2 1";
        GiantStair x = told("stair 1;step 0 30;proud 29 5 5" + helpers);
        due("up(0, 1, NONE)", x.up(0, 1, NONE), NOT);
        due("up(0, NONE, 2)", x.up(0, NONE, 2), NOT);
        due("up(0, 1, 2)", x.up(0, 1, 2), NOT);
        due("up(0, ALONE), too low", x.up(0, NONE, NONE), NOT);
        due("help(0, 0)", x.help(0, 0), NOT);
        due("as(0, 0)", x.as(0, 0), 0);
        due("soonest()", x.soonest(), NONE);
        due("as a PILGRIM he would", told("stair 1;step 0 30;pilgrim 29 5 5" + helpers).up(0, 1, 2), 1);
        x = told("stair 1;step 0 30;proud 29 5 5" + helpers + ";at 0 1");
        due("down(0, 1)", x.down(0, 1), NOT);
        due("down(0, ALONE), too low", x.down(0, NONE), NOT);
        due("by his height", told("stair 1;step 0 30;proud 30 5 5").up(0, NONE, NONE), 1);
        due("by the rope", told("stair 1;step 0 30;rope 0;proud 1 5 5").up(0, NONE, NONE), 1);
        due("too weak for the rope", told("stair 1;step 0 30;rope 0;proud 1 6 5" + helpers).up(0, 1, 2), NOT);
        due("down by the rope", told("stair 1;step 0 30;rope 0;proud 1 50 0;at 0 1").down(0, NONE), 1);
    }

    private static void saintsStay() {
        for (int level = 0; level <= 2; level++) {
            GiantStair x = told("stair 2;step 0 1;step 1 1;rope 0;rope 1;saint 30 1 99;saint 30 1 99;saint 30 1 99;at 0 " + level);
            for (int a = NONE; a < 3; a++) {
                if (a == 0) continue;
                for (int b = NONE; b < 3; b++) if (b != 0) due("up(0, " + a + ", " + b + ")", x.up(0, a, b), NOT);
                due("down(0, " + a + ")", x.down(0, a), NOT);
            }
            due("as(0, 4)", x.as(0, 4), 0);
            due("as(0, 0)", x.as(0, 0), 0);
            due("help(0, 1)", x.help(0, 1), NOT);
            due("soon(0)", x.soon(0), level == 2 ? 0 : NONE);
            due("many(1)", x.many(1), 0);
        }
    }

    private static void allHelp() {
        for (String kind : KINDS) {
            GiantStair x = told("stair 2;step 0 30;step 1 30;pilgrim 20 5 5;" + kind + " 20 9 9");
            due("a " + kind + " lifts", x.up(0, 1, NONE), 1);
            due("a " + kind + " catches", x.down(0, 1), 2);
            tell(x, "at 1 1");
            due("a " + kind + " pulls", x.up(0, NONE, 1), 1);
        }
    }

    private static void helpedOnceMore() {
        GiantStair x = told("stair 1;step 0 30;pilgrim 15 10 9;porter 15 1 5;saint 16 1 5;at 2 1");
        for (int turn = 1; turn <= 20; turn++) {
            due("up(0, 1, 2)", x.up(0, 1, 2), 2 * turn - 1);
            due("helped(1, 0)", x.helped(1, 0), 2 * turn - 1);
            due("helped(2, 0)", x.helped(2, 0), turn);
            due("one(0, 6): each that helped", x.one(0, 6), 3 * turn - 1);
            due("down(0, 1)", x.down(0, 1), 2 * turn);
            due("helped(1, 0)", x.helped(1, 0), 2 * turn);
            due("one(1, 5)", x.one(1, 5), 2 * turn);
            due("one(2, 5)", x.one(2, 5), turn);
            due("count(5)", x.count(5), 3 * turn);
        }
        due("up(0, 1, 1), refused", x.up(0, 1, 1), NOT);
        due("up(0, 2, 1), refused", x.up(0, 2, 1), NOT);
        due("count(5) as before", x.count(5), 60);
        int[][] others = {{0, 1}, {0, 2}, {1, 2}, {2, 1}};
        for (int[] pair : others) due("helped(" + pair[0] + ", " + pair[1] + ")", x.helped(pair[0], pair[1]), 0);
        due("one(0, 5)", x.one(0, 5), 0);
        due("one(1, 6)", x.one(1, 6), 0);
        tell(x, "step 0 15");
        due("up ALONE", x.up(0, NONE, NONE), 1);
        due("down ALONE", x.down(0, NONE), 2);
        due("who goes ALONE owes nobody", x.count(5), 0);
    }

    private static void whoHelpedWhom() {
        for (int helper = 0; helper < 5; helper++) {
            for (int one = 0; one < 5; one++) {
                if (one == helper) continue;
                GiantStair x = told("stair 1;step 0 30" + ";pilgrim 15 5 5".repeat(5));
                due("up(" + one + ", " + helper + ", NONE)", x.up(one, helper, NONE), 1);
                for (int a = 0; a < 5; a++) {
                    for (int b = 0; b < 5; b++) {
                        int due = a == b ? UNKNOWN : a == helper && b == one ? 1 : 0;
                        due("helped(" + a + ", " + b + ")", x.helped(a, b), due);
                    }
                    due("one(" + a + ", 5)", x.one(a, 5), a == helper ? 1 : 0);
                    due("one(" + a + ", 6)", x.one(a, 6), a == one ? 1 : 0);
                }
                due("count(5)", x.count(5), 1);
            }
        }
    }

    private static void kindsOverOneAnother() {
        int[][] such = {{1, 1, 0, 0, 0}, {1, 1, 1, 0, 0}, {1, 1, 0, 1, 0}, {1, 0, 0, 0, 1}};
        for (int kind = 0; kind < 4; kind++) {
            GiantStair x = told(KINDS[kind] + " 20 1 1;" + KINDS[kind] + " 20 1 1;" + KINDS[kind] + " 20 1 1;at 1 1;at 2 2");
            for (int taken = 0; taken <= 4; taken++) {
                for (int one = 0; one < 3; one++) {
                    int can = kind == 3 ? 0 : new int[] {1, 3, 2}[one];
                    due(KINDS[kind] + " as " + taken, x.as(one, taken), such[kind][taken] == 1 ? can : NOT);
                }
            }
            for (int taken : new int[] {-1, 5, MIN, MAX}) due("as(0, " + taken + ")", x.as(0, taken), OUTSIDE);
        }
    }

    private static void byHisOwnKind() {
        // Taken as a PILGRIM a PROUD one is not helped, and a PORTER has no more STRENGTH at a rope.
        GiantStair x = told("stair 1;step 0 30;rope 0;proud 15 9 8;porter 15 9 8;pilgrim 15 9 8;saint 15 1 1");
        due("as(0, 1)", x.as(0, 1), 0);
        due("as(0, 0)", x.as(0, 0), 0);
        due("as(1, 2)", x.as(1, 2), 0);
        due("as(1, 1)", x.as(1, 1), 0);
        due("as(2, 1): lifted by a PORTER, as by nobody else", x.as(2, 1), 1);
        due("as(3, 0)", x.as(3, 0), 0);
        tell(x, "nobody;proud 15 9 9;porter 15 9 9;saint 30 1 99");
        due("as(0, 1) by the rope", x.as(0, 1), 1);
        due("as(1, 1) by the rope", x.as(1, 1), 1);
        due("as(2, 0)", x.as(2, 0), 0);
    }

    // ---- 3: foretold

    private static void helpIs(GiantStair x, int one, int lifter, int puller) {
        due("help(" + one + ", 0)", x.help(one, 0), lifter);
        due("help(" + one + ", 1)", x.help(one, 1), puller);
    }

    private static void firstHelp() {
        // By LIFTERS, NONE ahead of numbers; then by PULLERS, NONE ahead of numbers.
        String stair = "stair 1;step 0 30;";
        String[] who = {"saint 30 1 9", "saint 30 1 1"};
        for (int good = 0; good < 16; good++) {
            StringBuilder text = new StringBuilder(stair + "pilgrim 15 9 9");
            for (int k = 0; k < 4; k++) text.append(';').append(who[(good >> k & 1) == 1 ? 0 : 1]);
            GiantStair x = told(text + ";at 3 1;at 4 1");
            int lifter = NONE, puller = NONE;
            if ((good & 4) != 0) puller = 3;
            else if ((good & 8) != 0) puller = 4;
            else if ((good & 1) != 0) lifter = 1;
            else if ((good & 2) != 0) lifter = 2;
            boolean can = good != 0;
            helpIs(x, 0, can ? lifter : NOT, can ? puller : NOT);
        }
        // Weak ones only together: the first LIFTER with the first PULLER by whom it can be.
        GiantStair x = told(stair + "saint 9 1 4;saint 15 1 4;pilgrim 15 9 9;saint 9 1 4;saint 9 1 5;at 3 1;at 4 1");
        helpIs(x, 2, 1, 4);
        tell(x, "step 0 29;nobody;saint 9 1 4;saint 15 1 4;pilgrim 16 9 9;saint 9 1 5;saint 9 1 5;at 3 1;at 4 1");
        helpIs(x, 2, 0, 3);
        tell(x, "step 0 16");
        helpIs(x, 2, NONE, NONE);
        tell(x, "step 0 60");
        helpIs(x, 2, NOT, NOT);
    }

    private static void soonestOrNever() {
        due("soonest() of nobody", new GiantStair().soonest(), 0);
        due("soonest() of SAINTS below", told("saint 30 1 1;saint 30 1 1;at 1 1").soonest(), 0);
        due("soonest() of all up", told("pilgrim 1 1 1;proud 1 1 1;at 0 2;at 1 2").soonest(), 0);
        due("soonest() but for one", told("pilgrim 1 1 1;proud 1 1 1;at 0 2").soonest(), NONE);
        due("soonest() but for a SAINT", told("pilgrim 20 1 1;saint 1 1 1").soonest(), 2);
        for (int n = 1; n <= 4; n++) {
            for (int many = 1; many <= 5; many++) {
                due("soonest() of " + many, told("stair " + n + ";pilgrim 20 1 1".repeat(1) + ";proud 20 1 1".repeat(many - 1)).soonest(), n * many);
            }
        }
        due("soonest() of the last one who cannot", told("stair 1;proud 20 1 1;proud 19 1 1").soonest(), NONE);
        due("soonest() of one who can in part", told("stair 2;step 1 21;proud 20 1 1").soonest(), NONE);
    }

    private static void wayIs(GiantStair x, int... moves) {
        due("soonest()", x.soonest(), moves.length / 2);
        for (int i = 0; 2 * i < moves.length; i++) {
            due("way(" + i + ", 0)", x.way(i, 0), moves[2 * i]);
            due("way(" + i + ", 1)", x.way(i, 1), moves[2 * i + 1]);
        }
        for (int i : new int[] {moves.length / 2, moves.length / 2 + 1, 3125, MAX}) {
            due("way(" + i + ", 0)", x.way(i, 0), NONE);
            due("way(" + i + ", 1)", x.way(i, 1), NONE);
        }
    }

    private static void firstWay() {
        wayIs(told("stair 2;proud 20 1 1;proud 20 1 1"), 0, 1, 0, 1, 1, 1, 1, 1);
        wayIs(told("stair 2;proud 20 1 1;proud 20 1 1;at 0 1"), 0, 1, 1, 1, 1, 1);
        // One of 0 and 1 is to lift 2: 0 UP comes ahead of 0 DOWN, though both begin rows of 6.
        wayIs(told("stair 2;step 0 30;step 1 10;pilgrim 30 5 9;pilgrim 30 5 9;pilgrim 14 5 9;at 0 1;at 1 1"),
            0, 1, 1, 0, 2, 1, 1, 1, 1, 1, 2, 1);
        // Only 1 is strong enough to lift: 0 goes first all the same.
        wayIs(told("stair 1;step 0 30;pilgrim 30 5 1;pilgrim 30 5 9;pilgrim 14 5 9"), 0, 1, 2, 1, 1, 1);
        wayIs(told("stair 1;step 0 30;pilgrim 14 5 5;pilgrim 30 5 5;at 1 1"), 1, 0, 0, 1, 1, 1);
        wayIs(new GiantStair());
        wayIs(told("saint 20 1 1"));
        wayIs(told("pilgrim 20 1 1;at 0 2"));
        GiantStair never = told("pilgrim 19 1 1");
        for (int i : new int[] {0, 1, MAX}) due("way(" + i + ", 0) of none", never.way(i, 0), NONE);
        for (int i : new int[] {0, 1, MAX}) due("way(" + i + ", 1) of none", never.way(i, 1), NONE);
    }

    private static void lastsByBits() {
        due("lasts() of nobody", new GiantStair().lasts(), 0);
        due("lasts() of SAINTS", told("saint 20 1 1").lasts(), 0);
        due("lasts() of all up", told("pilgrim 20 1 1;at 0 2").lasts(), 0);
        due("lasts() of none", told("pilgrim 19 1 1").lasts(), NONE);
        for (int many = 1; many <= 5; many++) {
            due("lasts() of " + many, told("nobody" + ";proud 20 1 1".repeat(many)).lasts(), (1 << many) - 1);
        }
        for (int one = 0; one < 5; one++) {
            GiantStair x = told("nobody" + ";proud 20 1 1;at 0 2;proud 20 1 1;at 1 2;proud 20 1 1;at 2 2;proud 20 1 1;at 3 2;proud 20 1 1;at 4 2");
            tell(x, "at " + one + " 1");
            due("lasts() of one MOVE", x.lasts(), 1 << one);
            tell(x, "at " + one + " 0");
            due("lasts() of two by one", x.lasts(), 1 << one);
        }
        due("lasts(): who is up makes none", told("proud 20 1 1;proud 20 1 1;at 0 2").lasts(), 2);
        due("lasts(): SAINTS make none", told("saint 20 1 1;proud 20 1 1;saint 20 1 1;at 2 1").lasts(), 2);
        due("lasts(): the one who needs none", told("stair 1;step 0 30;pilgrim 15 5 9;pilgrim 30 5 9").lasts(), 3);
        due("lasts(): the one who lifts", told("stair 1;step 0 30;pilgrim 14 5 9;pilgrim 30 5 9").lasts(), 2);
        // One who stands there as well could only come by a longer row.
        due("lasts(): of shortest rows alone", told("stair 2;step 0 30;step 1 10;pilgrim 30 5 9;pilgrim 30 5 9;pilgrim 14 5 9;at 0 2;at 1 1").lasts(), 6);
    }

    private static void mostIs(GiantStair x, int many, int set) {
        due("most(0)", x.most(0), many);
        due("most(1)", x.most(1), set);
    }

    private static void mostAndTheLeast() {
        mostIs(new GiantStair(), 0, 0);
        mostIs(told("pilgrim 1 1 1;saint 1 1 1"), 0, 0);
        mostIs(told("pilgrim 1 1 1;saint 1 1 1;at 1 2"), 1, 2);
        mostIs(told("pilgrim 20 1 1;saint 1 1 1;at 1 2"), 2, 3);
        mostIs(told("stair 4" + ";proud 20 1 1".repeat(5)), 5, 31);
        // Any of three, but one stays to lift: of several the least.
        mostIs(told("stair 1;step 0 30;pilgrim 15 5 5;pilgrim 15 5 5;pilgrim 15 5 5"), 2, 3);
        mostIs(told("stair 1;step 0 30;saint 1 1 1;pilgrim 15 5 5;pilgrim 15 5 5;at 0 1"), 2, 3);
        // One only of two can be up; 1, who is so now, can come down for 0.
        mostIs(told("stair 1;step 0 30;pilgrim 15 5 5;pilgrim 15 5 5;at 1 1"), 1, 1);
        mostIs(told("stair 1;step 0 30;pilgrim 15 5 5;pilgrim 15 6 5;at 1 1"), 1, 2);
        GiantStair x = told("stair 1;step 0 20;pilgrim 20 5 5;pilgrim 20 5 5");
        x.up(1, NONE, NONE);
        mostIs(x, 2, 3);
        mostIs(told("stair 1;step 0 30;pilgrim 15 5 5;pilgrim 15 5 5"), 1, 1);
        // Who could be up by an earlier text can not for that.
        x = told("stair 1;proud 20 1 1;proud 20 1 1");
        mostIs(x, 2, 3);
        tell(x, "nobody;proud 20 1 1;proud 19 1 1");
        mostIs(x, 1, 1);
        tell(x, "nobody;proud 19 1 1;proud 19 1 1");
        mostIs(x, 0, 0);
        for (int what : new int[] {-1, 2, MIN, MAX}) due("most(" + what + ")", x.most(what), OUTSIDE);
    }

    private static void soonOfOne() {
        GiantStair x = told("stair 4;proud 20 1 1;proud 19 1 1;saint 30 1 99;saint 1 1 1;proud 20 1 1;at 3 4;at 4 3");
        int[] soon = {4, NONE, NONE, 0, 1};
        for (int one = 0; one < 5; one++) due("soon(" + one + ")", x.soon(one), soon[one]);
        x.up(4, NONE, NONE);
        due("soon(4)", x.soon(4), 0);
        x.down(4, NONE);
        x.down(4, NONE);
        due("soon(4)", x.soon(4), 2);
        // The others' MOVES count: the tall one must come down to lift him.
        due("soon(0)", told("stair 1;step 0 30;pilgrim 14 5 5;pilgrim 30 5 5;at 1 1").soon(0), 2);
        due("soon(0) where not all can be up", told("stair 1;step 0 30;pilgrim 15 5 5;pilgrim 15 5 5").soon(0), 1);
        for (int one : new int[] {-1, 5, MIN, MAX}) due("soon(" + one + ")", x.soon(one), UNKNOWN);
    }

    private static void manyNoFewer() {
        due("many(0) of nobody", new GiantStair().many(0), 1);
        due("many(1) of nobody", new GiantStair().many(1), 0);
        GiantStair x = told("stair 2;proud 20 1 1;at 0 1");
        int[] one = {1, 2, 0, 0};
        for (int n = 0; n < one.length; n++) due("many(" + n + ")", x.many(n), one[n]);
        x = told("stair 4;proud 20 1 1;proud 20 1 1");
        int[] two = {1, 2, 3, 4, 5, 4, 3, 2, 1, 0};
        for (int n = 0; n < two.length; n++) due("many(" + n + ")", x.many(n), two[n]);
        due("many(max)", x.many(MAX), 0);
        for (int n : new int[] {-1, -2, MIN}) due("many(" + n + ")", x.many(n), OUTSIDE);
        due("many(0)", told("stair 4" + ";proud 20 1 1".repeat(5)).many(0), 1);
        due("many(20)", told("stair 4" + ";proud 20 1 1".repeat(5)).many(20), 1);
        due("many(10)", told("stair 4" + ";proud 20 1 1".repeat(5)).many(10), 381);
    }

    private static void ropedIs(GiantStair x, int step, int soonest) {
        due("roped(0)", x.roped(0), step);
        due("roped(1)", x.roped(1), soonest);
    }

    private static void ropedFewerThanNow() {
        ropedIs(new GiantStair(), NONE, NONE);
        ropedIs(told("pilgrim 20 1 1"), NONE, NONE);
        ropedIs(told("pilgrim 1 1 1;at 0 2"), NONE, NONE);
        ropedIs(told("stair 1;pilgrim 19 1 1"), 0, 1);
        ropedIs(told("stair 1;pilgrim 19 2 1"), NONE, NONE);
        ropedIs(told("stair 1;rope 0;pilgrim 19 2 1"), NONE, NONE);
        for (int high = 0; high < 4; high++) {
            ropedIs(told("stair 4;step " + high + " 21;pilgrim 20 1 1"), high, 4);
        }
        ropedIs(told("step 0 21;step 1 21;pilgrim 20 1 1"), NONE, NONE);
        ropedIs(told("step 0 21;step 1 21;rope 0;pilgrim 20 1 1"), 1, 2);
        // Fewer than now, by one step or by the other; of several the least.
        String two = "stair 2;step 0 30;step 1 30;pilgrim 14 5 5;pilgrim 30 5 5;at 1 ";
        ropedIs(told(two + "2"), 0, 4);
        ropedIs(told(two + "0"), NONE, NONE);
        ropedIs(told("stair 2;step 1 26;pilgrim 20 6 10;porter 14 5 9;at 0 2"), 0, 4);
        ropedIs(told("stair 1;step 0 30;pilgrim 14 5 5;pilgrim 30 5 5;at 1 1"), 0, 1);
        for (int what : new int[] {-1, 2, MIN, MAX}) due("roped(" + what + ")", new GiantStair().roped(what), OUTSIDE);
    }

    private static void oddsAre(GiantStair x, int p, int above, int below) {
        due("odds(" + p + ", 0)", x.odds(p, 0), above);
        due("odds(" + p + ", 1)", x.odds(p, 1), below);
    }

    private static int power(int base, int times) {
        int power = 1;
        for (int i = 0; i < times; i++) power *= base;
        return power;
    }

    private static void oddsOfTenths() {
        for (int p = 0; p <= 10; p++) {
            oddsAre(new GiantStair(), p, 1, 1);
            oddsAre(told("pilgrim 20 1 1;saint 1 1 1"), p, 1, 1);
            for (int many = 1; many <= 5; many++) {
                // Who comes cannot be up: so nobody may come.
                GiantStair x = told("nobody" + ";proud 19 1 1".repeat(many));
                int above = power(10 - p, many), below = power(10, many);
                int common = java.math.BigInteger.valueOf(above).gcd(java.math.BigInteger.valueOf(below)).intValue();
                oddsAre(x, p, above / common, below / common);
            }
        }
        oddsAre(told(crowd(5)), 3, 1, 1);
        GiantStair x = told("proud 19 1 1;at 0 2");
        oddsAre(x, 7, 1, 1);
        for (int p : new int[] {-1, 11, MIN, MAX}) {
            due("odds(" + p + ", 0)", x.odds(p, 0), OUTSIDE);
            due("odds(" + p + ", 1)", x.odds(p, 1), OUTSIDE);
        }
        for (int part : new int[] {-1, 2, MIN, MAX}) due("odds(5, " + part + ")", x.odds(5, part), OUTSIDE);
    }

    private static void whoComesHelps() {
        // A pilgrim needs the other one, of whatever kind: (1 - p) + p p of 7 tenths is 79 of 100.
        for (String kind : new String[] {"saint 20 9 9", "proud 30 9 9", "pilgrim 30 9 9", "porter 30 9 9"}) {
            oddsAre(told("stair 1;step 0 30;pilgrim 15 5 5;" + kind), 7, 79, 100);
        }
        GiantStair x = told("stair 1;step 0 30;pilgrim 15 5 5;pilgrim 15 5 5");
        oddsAre(x, 7, 9, 100);
        due("up(0, 1, NONE)", x.up(0, 1, NONE), 1);
        // At his LEVEL as now: 0 is up if he comes alone; 1 is not, nor are both.
        oddsAre(x, 7, 3, 10);
        due("soonest() behind odds", x.soonest(), NONE);
        due("one(0, 4) behind odds", x.one(0, 4), 1);
        // Numbers do not move up when others stay away: the last one alone can go.
        oddsAre(told("stair 1;proud 19 1 1;proud 19 1 1;proud 20 1 1"), 5, 1, 4);
        // So do KIND, WEIGHT, LOAD, STRENGTH and LEVEL of the one who comes go with him.
        String rope = "stair 1;step 0 60;rope 0;";
        oddsAre(told(rope + "proud 9 9 8;proud 9 9 9"), 5, 1, 2);
        oddsAre(told(rope + "proud 9 9 8;proud 9 8 8"), 5, 1, 2);
        oddsAre(told(rope + "proud 9 8 8;proud 9 8 8;load 0 1"), 5, 1, 2);
        oddsAre(told(rope + "proud 9 9 8;saint 9 9 8"), 5, 1, 2);
        oddsAre(told(rope + "proud 9 9 8;proud 9 9 8;at 1 1"), 5, 1, 2);
    }

    private static void lowestTerms() {
        oddsAre(told("proud 19 1 1"), 5, 1, 2);
        oddsAre(told("proud 19 1 1"), 0, 1, 1);
        oddsAre(told("proud 19 1 1"), 10, 0, 1);
        oddsAre(told("proud 19 1 1"), 8, 1, 5);
        oddsAre(told("proud 19 1 1;proud 19 1 1"), 8, 1, 25);
        oddsAre(told("nobody" + ";proud 19 1 1".repeat(5)), 9, 1, 100000);
        oddsAre(told("nobody" + ";proud 19 1 1".repeat(5)), 10, 0, 1);
    }

    // ---- rows

    private static void rowOf12() {
        for (int up = 0; up <= 1; up++) {
            GiantStair x = told("pilgrim 20 1 1;saint 1 1 1");
            for (int i = 1; i <= 12; i++) {
                due("row(0, " + up + ")", x.row(0, up), i);
                due("count(4)", x.count(4), i);
            }
            due("row, the 13th", x.row(0, up), FULL);
            due("row, the 13th", x.row(1, 1 - up), FULL);
            due("count(4)", x.count(4), 12);
            due("burn()", x.burn(), 12);
            due("burn()", x.burn(), 0);
            due("judge() of an empty one", x.judge(), NONE);
            due("row behind burn", x.row(1, up), 1);
            due("burn()", x.burn(), 1);
        }
    }

    private static void judgedFromNow() {
        GiantStair x = told("stair 4;proud 20 1 1;saint 20 1 1");
        for (int i = 0; i < 4; i++) x.row(0, 1);
        for (int i = 0; i < 4; i++) x.row(0, 0);
        for (int i = 0; i < 4; i++) x.row(0, 1);
        due("judge(): all can be", x.judge(), NONE);
        x.up(0, NONE, NONE);
        due("judge() from 1: the fourth leads above the TOP", x.judge(), 3);
        x.down(0, NONE);
        due("judge() from 0 again", x.judge(), NONE);
        x.burn();
        x.row(0, 0);
        due("judge(): DOWN from 0", x.judge(), 0);
        x.burn();
        x.row(1, 1);
        due("judge(): a SAINT", x.judge(), 0);
        x.burn();
        for (int i = 0; i < 11; i++) x.row(0, i % 2 == 0 ? 1 : 0);
        x.row(1, 0);
        due("judge(): the last of 12", x.judge(), 11);
        due("count(2): none of them has been made", x.count(2), 2);
        due("one(0, 4)", x.one(0, 4), 0);
        // With any HELP: of those who are there by then.
        GiantStair y = told("stair 2;step 0 30;step 1 10;pilgrim 15 5 5;pilgrim 15 5 5;saint 30 1 9;at 2 1");
        y.row(1, 1);
        y.row(1, 0);
        due("judge(): nobody catches, but 0 does", y.judge(), NONE);
        y.burn();
        y.row(0, 1);
        y.row(0, 1);
        y.row(1, 1);
        y.row(1, 0);
        due("judge(): nobody is left to catch", y.judge(), 3);
        due("count(5): nobody has helped", y.count(5), 0);
    }

    // ---- refusals

    /** Whatever can be asked of an object, in one text; at most some 300 calls. */
    private static String seen(GiantStair x) {
        StringBuilder b = new StringBuilder();
        for (int what = 0; what <= 6; what++) b.append(x.count(what)).append(' ');
        for (int step = 0; step < 4; step++) b.append(x.step(step, 0)).append(' ').append(x.step(step, 1)).append(' ');
        for (int one = 0; one < 5; one++) {
            for (int what = 0; what <= 6; what++) b.append(x.one(one, what)).append(' ');
            b.append(x.as(one, 0)).append(' ').append(x.help(one, 0)).append(x.help(one, 1)).append(x.soon(one));
        }
        b.append(helpSeen(x)).append(x.fault()).append(' ').append(x.judge()).append(' ');
        b.append(x.soonest()).append(' ').append(x.lasts()).append(' ').append(x.most(1)).append(' ');
        b.append(x.roped(0)).append(x.roped(1)).append(' ').append(x.odds(3, 0)).append('/').append(x.odds(3, 1));
        for (int i = 0; i < 10; i++) b.append(' ').append(x.way(i, 0)).append(x.way(i, 1)).append(x.many(i));
        for (int k = 0; k < 2; k++) {
            b.append('\n').append(x.back(k)).append(' ').append(helpSeen(x));
            for (int one = 0; one < 5; one++) b.append(x.one(one, 4));
        }
        return b.append('\n').append(x.burn()).append(' ').append(x.erase()).toString();
    }

    private static String helpSeen(GiantStair x) {
        StringBuilder b = new StringBuilder();
        for (int one = 0; one < 5; one++) {
            for (int other = 0; other < 5; other++) if (other != one) b.append(x.helped(one, other)).append(' ');
        }
        return b.toString();
    }

    /** A busy one whose ROW is full, whose TEXT has room for four bytes and a FAULT at its end. */
    private static GiantStair full() {
        GiantStair x = busy();
        write(x, "stair 4" + " ".repeat(186) + "; .");
        due("count(6)", x.count(6), 196);
        return x;
    }

    private static final List<String> refusedNames = new ArrayList<>();
    private static final List<ToIntFunction<GiantStair>> refusedCalls = new ArrayList<>();
    private static final List<Integer> refusedAnswers = new ArrayList<>();

    private static void refuses(String name, int answer, ToIntFunction<GiantStair> call) {
        refusedNames.add(name);
        refusedCalls.add(call);
        refusedAnswers.add(answer);
    }

    /** Of two objects made alike one refuses a call; then all that can be asked of them is the same. */
    private static void allRefuse() {
        String untouched = seen(full());
        for (int i = 0; i < refusedCalls.size(); i++) {
            GiantStair x = full();
            due(refusedNames.get(i), refusedCalls.get(i).applyAsInt(x), refusedAnswers.get(i));
            due("what is seen behind " + refusedNames.get(i), seen(x).equals(untouched) ? 1 : 0, 1);
        }
        refusedNames.clear();
        refusedCalls.clear();
        refusedAnswers.clear();
    }

    private static void refusedTelling() {
        for (int n : new int[] {0, 9, 10, 16, -1, -8, MIN, MAX}) refuses("write(.., " + n + ")", OUTSIDE, x -> x.write(-1, n));
        for (int n = 5; n <= 8; n++) {
            int bytes = n;
            refuses("write(.., " + n + ")", FULL, x -> x.write(0x2020202020202020L, bytes));
        }
        refuses("stair()", NOT, x -> x.stair());
        for (int step : new int[] {-1, 2, 3, 4, MIN, MAX}) {
            for (int what : new int[] {0, 1, 2, -1}) refuses("step(" + step + ", " + what + ")", UNKNOWN, x -> x.step(step, what));
        }
        for (int what : new int[] {-1, 2, MIN, MAX}) refuses("step(1, " + what + ")", OUTSIDE, x -> x.step(1, what));
        for (int one : new int[] {-1, -2, 5, MIN, MAX}) {
            for (int what : new int[] {0, 4, -1, 7}) refuses("one(" + one + ", " + what + ")", UNKNOWN, x -> x.one(one, what));
            for (int kind : new int[] {0, 2, -1, 5}) refuses("as(" + one + ", " + kind + ")", UNKNOWN, x -> x.as(one, kind));
        }
        for (int what : new int[] {-1, 7, MIN, MAX}) refuses("one(4, " + what + ")", OUTSIDE, x -> x.one(4, what));
        for (int kind : new int[] {-1, 5, MIN, MAX}) refuses("as(3, " + kind + ")", OUTSIDE, x -> x.as(3, kind));
        refuses("as(0, 2)", NOT, x -> x.as(0, 2));
        refuses("as(3, 1)", NOT, x -> x.as(3, 1));
        allRefuse();
    }

    private static void refusedMoves() {
        for (int one : new int[] {-1, -2, 5, MIN, MAX}) {
            refuses("up(" + one + ", NONE, NONE)", UNKNOWN, x -> x.up(one, NONE, NONE));
            refuses("up(" + one + ", 0, 1)", UNKNOWN, x -> x.up(one, 0, 1));
            refuses("down(" + one + ", NONE)", UNKNOWN, x -> x.down(one, NONE));
            refuses("down(" + one + ", 1)", UNKNOWN, x -> x.down(one, 1));
            refuses("helped(" + one + ", 0)", UNKNOWN, x -> x.helped(one, 0));
            refuses("helped(0, " + one + ")", UNKNOWN, x -> x.helped(0, one));
            if (one == NONE) continue;
            refuses("up(1, " + one + ", NONE)", UNKNOWN, x -> x.up(1, one, NONE));
            refuses("up(1, NONE, " + one + ")", UNKNOWN, x -> x.up(1, NONE, one));
            refuses("up(1, " + one + ", 0)", UNKNOWN, x -> x.up(1, one, 0));
            refuses("up(4, 1, " + one + "): ahead of NOT", UNKNOWN, x -> x.up(4, 1, one));
            refuses("down(0, " + one + ")", UNKNOWN, x -> x.down(0, one));
            refuses("down(3, " + one + "): ahead of NOT", UNKNOWN, x -> x.down(3, one));
        }
        for (int one = 0; one < 5; one++) {
            int himself = one;
            refuses("up: one and himself", UNKNOWN, x -> x.up(himself, himself, NONE));
            refuses("up: one and himself", UNKNOWN, x -> x.up(himself, NONE, himself));
            refuses("up: one and himself", UNKNOWN, x -> x.up(himself, himself, himself));
            refuses("down: one and himself", UNKNOWN, x -> x.down(himself, himself));
            refuses("helped: one and himself", UNKNOWN, x -> x.helped(himself, himself));
        }
        refuses("up(1, NONE, NONE)", NOT, x -> x.up(1, NONE, NONE));
        refuses("up(1, 0, NONE): not at his LEVEL", NOT, x -> x.up(1, 0, NONE));
        refuses("up(3, NONE, NONE)", NOT, x -> x.up(3, NONE, NONE));
        refuses("up(4, 1, 2): ALONE only", NOT, x -> x.up(4, 1, 2));
        refuses("down(4, 1): ALONE only", NOT, x -> x.down(4, 1));
        refuses("down(0, NONE)", NOT, x -> x.down(0, NONE));
        refuses("down(3, 1)", NOT, x -> x.down(3, 1));
        for (int k : new int[] {-1, 2, MIN, MAX}) {
            refuses("keep(" + k + ")", UNKNOWN, x -> x.keep(k));
            refuses("back(" + k + ")", UNKNOWN, x -> x.back(k));
        }
        allRefuse();
    }

    private static void refusedForetelling() {
        for (int one : new int[] {-1, -2, 5, MIN, MAX}) {
            for (int what : new int[] {0, 1, 2, -1}) refuses("help(" + one + ", " + what + ")", UNKNOWN, x -> x.help(one, what));
            refuses("soon(" + one + ")", UNKNOWN, x -> x.soon(one));
        }
        for (int what : new int[] {-1, 2, MIN, MAX}) {
            refuses("help(4, " + what + ")", OUTSIDE, x -> x.help(4, what));
            refuses("help(3, " + what + "): ahead of NOT", OUTSIDE, x -> x.help(3, what));
            refuses("way(0, " + what + ")", OUTSIDE, x -> x.way(0, what));
            refuses("way(max, " + what + ")", OUTSIDE, x -> x.way(MAX, what));
            refuses("most(" + what + ")", OUTSIDE, x -> x.most(what));
            refuses("roped(" + what + ")", OUTSIDE, x -> x.roped(what));
            refuses("odds(5, " + what + ")", OUTSIDE, x -> x.odds(5, what));
            refuses("odds(11, " + what + ")", OUTSIDE, x -> x.odds(11, what));
        }
        for (int what : new int[] {0, 1}) refuses("help(3, " + what + ")", NOT, x -> x.help(3, what));
        for (int n : new int[] {-1, -2, MIN}) {
            refuses("way(" + n + ", 0)", OUTSIDE, x -> x.way(n, 0));
            refuses("way(" + n + ", 1)", OUTSIDE, x -> x.way(n, 1));
            refuses("many(" + n + ")", OUTSIDE, x -> x.many(n));
        }
        for (int p : new int[] {-1, 11, MIN, MAX}) refuses("odds(" + p + ", 1)", OUTSIDE, x -> x.odds(p, 1));
        allRefuse();
    }

    private static void refusedRows() {
        for (int one : new int[] {-1, -2, 5, MIN, MAX}) {
            for (int up : new int[] {0, 1, 2, -1}) refuses("row(" + one + ", " + up + ")", UNKNOWN, x -> x.row(one, up));
        }
        for (int up : new int[] {-1, 2, MIN, MAX}) refuses("row(3, " + up + "): ahead of FULL", OUTSIDE, x -> x.row(3, up));
        for (int up : new int[] {0, 1}) refuses("row(0, " + up + ")", FULL, x -> x.row(0, up));
        for (int what : new int[] {-1, 7, MIN, MAX}) refuses("count(" + what + ")", OUTSIDE, x -> x.count(what));
        allRefuse();
    }

    private static List<ToIntFunction<GiantStair>> foretellings() {
        List<ToIntFunction<GiantStair>> all = new ArrayList<>();
        for (int what = 0; what < 2; what++) {
            int w = what;
            all.add(x -> x.help(0, w));
            all.add(x -> x.way(0, w));
            all.add(x -> x.most(w));
            all.add(x -> x.soon(w));
            all.add(x -> x.many(w + 1));
            all.add(x -> x.roped(w));
            all.add(x -> x.odds(5, w));
        }
        all.add(x -> x.soonest());
        all.add(x -> x.lasts());
        all.add(x -> x.judge());
        all.add(x -> x.fault());
        return all;
    }

    /** Each is asked as the first behind each other one and a change, beside an object that was told to stand so. */
    private static void fromNow(String first, String other, ToIntFunction<GiantStair> move) {
        List<ToIntFunction<GiantStair>> all = foretellings();
        for (int ahead = 0; ahead < all.size(); ahead++) {
            for (int asked = 0; asked < all.size(); asked++) {
                String name = asked + " of what is foretold, behind " + ahead;
                int atFirst = all.get(asked).applyAsInt(told(first));
                int then = all.get(asked).applyAsInt(told(first + ";" + other));
                GiantStair x = told(first);
                x.keep(0);
                all.get(ahead).applyAsInt(x);
                due(name, all.get(asked).applyAsInt(x), atFirst);
                all.get(ahead).applyAsInt(x);
                due("the MOVE", move.applyAsInt(x), 1);
                due(name + " and a MOVE", all.get(asked).applyAsInt(x), then);
                all.get(ahead).applyAsInt(x);
                due("back(0)", x.back(0), 0);
                due(name + " and back", all.get(asked).applyAsInt(x), atFirst);
                all.get(ahead).applyAsInt(x);
                tell(x, other);
                due(name + " and a text", all.get(asked).applyAsInt(x), then);
            }
        }
    }

    private static void fromNowAndNoEarlier() {
        fromNow("stair 1;step 0 30;pilgrim 14 5 5;pilgrim 30 5 5", "at 1 1", x -> x.up(1, NONE, NONE));
        fromNow("stair 1;step 0 30;pilgrim 15 5 5;pilgrim 15 5 5", "at 1 1", x -> x.up(1, 0, NONE));
        fromNow("stair 1;step 0 30;rope 0;pilgrim 9 9 1;pilgrim 9 9 1;at 1 1", "at 1 0", x -> x.down(1, NONE));
    }

    private static void onlyForetold() {
        String untouched = seen(full());
        for (int turn = 0; turn < 2; turn++) {
            GiantStair x = full();
            for (int one = 0; one < 5; one++) {
                x.help(one, turn);
                x.soon(one);
                x.as(one, 0);
            }
            x.soonest(); x.way(0, turn); x.lasts(); x.most(turn); x.many(3); x.roped(turn); x.odds(4, turn); x.judge(); x.fault();
            due("what is seen behind what was foretold", seen(x).equals(untouched) ? 1 : 0, 1);
        }
    }

    // ---- promise by promise, where the terms do not say it

    private static void newObject() {
        GiantStair x = new GiantStair();
        int[] count = {2, 0, 0, 0, 0, 0, 0};
        for (int what = 0; what < 7; what++) due("count(" + what + ")", x.count(what), count[what]);
        due("keep(0)", x.keep(0), 0);
        due("back(0)", x.back(0), 0);
        due("back(1)", x.back(1), NOT);
        due("burn()", x.burn(), 0);
        due("erase()", x.erase(), 0);
        due("row(0, 0)", x.row(0, 0), UNKNOWN);
        due("helped(0, 1)", x.helped(0, 1), UNKNOWN);
        due("down(0, NONE)", x.down(0, NONE), UNKNOWN);
    }

    private static void bytesOfALong() {
        String text = "saint 9 8 7;load0 6;at 0 1;stair4";
        // Any n, with other bytes above it that do not count, a sign bit among them.
        for (int n = 1; n <= 8; n++) {
            for (long above : new long[] {0, -1, 0x6161616161616161L}) {
                GiantStair x = new GiantStair();
                for (int from = 0; from < text.length(); from += n) {
                    int many = Math.min(n, text.length() - from);
                    long bytes = above;
                    for (int i = 0; i < many; i++) bytes = bytes & ~(255L << 8 * i) | (long) text.charAt(from + i) << 8 * i;
                    due("write of " + n, x.write(bytes, many), from + many);
                }
                due("fault()", x.fault(), NONE);
                due("stair()", x.stair(), 4);
                due("count(0)", x.count(0), 4);
            }
        }
        // Byte 7 is bytes >> 56 & 255, though the long is below 0: no letter, and no blank.
        GiantStair x = new GiantStair();
        write(x, "nobody ");
        due("write(..)", x.write(Long.MIN_VALUE | 0x20202020202020L, 8), 15);
        due("fault()", x.fault(), 14);
        x.erase();
        write(x, "rope 1 ");
        due("write(-1, 1)", x.write(-1, 1), 8);
        due("fault()", x.fault(), 7);
    }

    private static void erasedText() {
        for (int length : new int[] {0, 1, 8, 9, 199, 200}) {
            GiantStair x = busy();
            write(x, " ".repeat(length));
            due("erase()", x.erase(), length);
            due("erase()", x.erase(), 0);
            due("count(6)", x.count(6), 0);
            due("fault()", x.fault(), 0);
            due("count(4): only THE TEXT", x.count(4), 12);
            due("count(2): only THE TEXT", x.count(2), 4);
            for (int i = 1; i <= 25; i++) due("write as at first", x.write(0x2020202020202020L, 8), 8 * i);
            due("write above 200", x.write(32, 1), FULL);
        }
    }

    private static void stairEmptiesTheText() {
        for (int lines = 1; lines <= 12; lines++) {
            GiantStair x = new GiantStair();
            write(x, "rope 0;".repeat(lines - 1) + "rope 1");
            due("fault() changes nothing", x.fault(), NONE);
            due("step(1, 1) ahead of stair()", x.step(1, 1), 0);
            due("stair()", x.stair(), lines);
            due("count(6)", x.count(6), 0);
            due("stair() of an empty text", x.stair(), NOT);
            due("step(1, 1)", x.step(1, 1), 1);
            for (int i = 1; i <= 25; i++) x.write(0x2020202020202020L, 8);
            due("count(6)", x.count(6), 200);
        }
        GiantStair x = new GiantStair();
        write(x, "stair 4;saint 1 1 1;step 4 1");
        due("stair() with a FAULT", x.stair(), NOT);
        due("count(6): THE TEXT stays", x.count(6), 28);
        due("fault(): it stays", x.fault(), 25);
        due("count(0): none of its LINES is done", x.count(0), 2);
        due("count(1)", x.count(1), 0);
        noneOfItsLines();
    }

    /** What a text with a FAULT would have told is not there for later texts, nor is it told twice. */
    private static void noneOfItsLines() {
        GiantStair x = told("saint 9 5 1;proud 20 1 1");
        write(x, "nobody;saint 30 50 99;at 0 1;load 0 9;step 0 9;rope 1;x");
        due("fault()", x.fault(), 54);
        due("stair()", x.stair(), NOT);
        x.erase();
        tell(x, "load 0 1");
        int[] his = {3, 9, 6, 1, 0};
        for (int what = 0; what < 5; what++) due("one(0, " + what + ")", x.one(0, what), his[what]);
        due("count(1)", x.count(1), 2);
        due("step(0, 0)", x.step(0, 0), 20);
        due("step(1, 1)", x.step(1, 1), 0);
        write(x, "saint 1 1 1;saint 1 1 1;load 3 1;rope 1");
        for (int turn = 0; turn < 3; turn++) {
            due("fault(), asked again", x.fault(), NONE);
            due("odds(5, 1)", x.odds(5, 1), 1);
            due("fault() behind odds", x.fault(), NONE);
            due("roped(0)", x.roped(0), NONE);
            due("fault() behind roped", x.fault(), NONE);
        }
        due("stair()", x.stair(), 4);
        due("count(1)", x.count(1), 4);
        due("step(0, 1)", x.step(0, 1), 0);
    }

    private static void keptTwo() {
        GiantStair x = told("stair 4;step 0 30;step 1 30;pilgrim 15 5 5;porter 30 5 5");
        due("back(0)", x.back(0), NOT);
        due("back(1)", x.back(1), NOT);
        due("keep(0)", x.keep(0), 0);
        due("back(1): 0 alone is kept", x.back(1), NOT);
        due("up(0, 1, NONE)", x.up(0, 1, NONE), 1);
        due("keep(1)", x.keep(1), 1);
        due("up(1, NONE, NONE)", x.up(1, NONE, NONE), 2);
        due("back(0)", x.back(0), 0);
        int[] atFirst = {0, 0, 0, 0};
        int[] then = {1, 0, 1, 1};
        keptIs(x, atFirst);
        due("back(1)", x.back(1), 1);
        keptIs(x, then);
        due("up(1, NONE, NONE): one more than was kept", x.up(1, NONE, NONE), 2);
        due("back(1): what was kept stays so", x.back(1), 1);
        keptIs(x, then);
        due("back(0)", x.back(0), 0);
        keptIs(x, atFirst);
        due("keep(1): in place of the earlier", x.keep(1), 0);
        due("up(0, 1, NONE)", x.up(0, 1, NONE), 1);
        due("back(1)", x.back(1), 0);
        keptIs(x, atFirst);
        // Neither THE TEXT nor THE ROW is kept.
        x.row(0, 1);
        write(x, "nobody");
        due("back(0)", x.back(0), 0);
        due("count(4)", x.count(4), 1);
        due("count(6)", x.count(6), 6);
        write(x, ";");
        due("stair()", x.stair(), NOT);
        due("back(0): a text refused leaves it", x.back(0), 0);
        x.erase();
        tell(x, "rope 0");
        due("back(0)", x.back(0), NOT);
        due("back(1)", x.back(1), NOT);
    }

    private static void keptIs(GiantStair x, int[] levelsAndHelp) {
        due("one(0, 4)", x.one(0, 4), levelsAndHelp[0]);
        due("one(1, 4)", x.one(1, 4), levelsAndHelp[1]);
        due("helped(1, 0)", x.helped(1, 0), levelsAndHelp[2]);
        due("count(2)", x.count(2), levelsAndHelp[3]);
    }

    /**
     * 9999 MOVES are more than the 512 calls for which the document binds an object; here alone one is
     * used for longer, as the sentence could not be seen at all otherwise.
     */
    private static void fullAbove9999() {
        GiantStair x = told("stair 1;pilgrim 20 1 1;pilgrim 20 1 9;pilgrim 10 1 1;pilgrim 10 1 1;at 3 1");
        for (int move = 1; move <= 9999; move++) {
            due("MOVE " + move, move % 2 == 1 ? x.up(0, NONE, NONE) : x.down(0, NONE), move);
        }
        due("down, above 9999", x.down(0, NONE), FULL);
        due("down with a CATCHER, above 9999", x.down(3, 1), FULL);
        due("up, above 9999", x.up(1, NONE, NONE), FULL);
        due("up with a LIFTER, above 9999", x.up(2, 1, NONE), FULL);
        due("NOT ahead of FULL", x.up(0, NONE, NONE), NOT);
        due("NOT ahead of FULL", x.down(1, NONE), NOT);
        due("UNKNOWN ahead of FULL", x.up(4, NONE, NONE), UNKNOWN);
        due("UNKNOWN ahead of FULL", x.down(0, 0), UNKNOWN);
        due("count(2): nothing changes", x.count(2), 9999);
        due("count(3): nothing changes", x.count(3), 9);
        due("count(5): nothing changes", x.count(5), 0);
        due("keep(0)", x.keep(0), 9999);
        due("back(0)", x.back(0), 9999);
        due("down, above 9999", x.down(0, NONE), FULL);
        tell(x, "rope 0");
        due("up, the first", x.up(0, NONE, NONE), 1);
    }

    /** The dearest calls, on the largest stair, with all who can be there: the last is answered as the first. */
    private static void usedFor512Calls() {
        GiantStair x = new GiantStair();
        String text = "stair 4" + ";pilgrim 15 5 9".repeat(5) + ";rope 0;rope 1;rope 2;rope 3";
        tell(x, text);
        int left = 512 - (text.length() + 7) / 8 - 1;
        for (int call = 0; call < left; call++) {
            switch (call % 4) {
                case 0: due("odds(5, 0)", x.odds(5, 0), 1); break;
                case 1: due("roped(0)", x.roped(0), NONE); break;
                case 2: due("soonest()", x.soonest(), 20); break;
                default: due("many(20)", x.many(20), 1); break;
            }
        }
    }

    private static void whoIsAtTheTop() {
        for (int set = 0; set < 32; set++) {
            StringBuilder text = new StringBuilder(crowd(5));
            for (int one = 0; one < 5; one++) if ((set >> one & 1) == 1) text.append(";at ").append(one).append(" 2");
            // All are SAINTS, who count there, too.
            due("count(3)", told(text.toString()).count(3), set);
        }
        GiantStair x = told("stair 2;pilgrim 20 1 1;saint 1 1 1;at 0 1;at 1 1");
        due("count(3): below the TOP", x.count(3), 0);
        due("up(0, NONE, NONE)", x.up(0, NONE, NONE), 1);
        due("count(3)", x.count(3), 1);
        due("down(0, NONE)", x.down(0, NONE), 2);
        due("count(3)", x.count(3), 0);
    }

    private static void counts() {
        GiantStair x = busy();
        write(x, "abc");
        int[] want = {2, 5, 4, 0, 12, 2, 3};
        for (int what = 0; what < 7; what++) due("count(" + what + ")", x.count(what), want[what]);
        for (int what : new int[] {-1, 7, MIN, MAX}) due("count(" + what + ")", x.count(what), OUTSIDE);
    }

    // ---- the sentences

    private static void termsOfTheStair() {
        test("LEVELS are 0 .. n (n 1 .. 4; 2 at first), n the TOP", EdgesTest::levels);
        test("a STEP i leads from LEVEL i to the next one", EdgesTest::steps);
        test("of a HEIGHT (1 .. 60; 20 at first)", EdgesTest::stepHeights);
        test("with a ROPE or without (none at first)", EdgesTest::stepRopes);
        test("PEOPLE are 0, 1 .. as they come, 5 at most (none at first)", EdgesTest::people);
        test("of a KIND, 0 PILGRIM, 1 PORTER, 2 PROUD, 3 SAINT", EdgesTest::kinds);
        test("of a HEIGHT (1 .. 30)", EdgesTest::heights);
        test("a WEIGHT (1 .. 50)", EdgesTest::weights);
        test("a STRENGTH (0 .. 99)", EdgesTest::strengths);
        test("with a LOAD (0 .. 49; 0 at first)", EdgesTest::loads);
        test("at a LEVEL (0 at first)", EdgesTest::levelsOfPeople);
    }

    private static void termsOfTheText() {
        test("THE TEXT is a row of bytes, 200 at most", EdgesTest::textOf200);
        test("LINES with ; (59) between, 1 to 12 (behind the 12th no ; can stand)", EdgesTest::linesTo12);
        test("each is one of: .. (As written here, without points", EdgesTest::wordsOfLines);
        test("what earlier texts told stays, where nothing else is told", EdgesTest::earlierStays);
        test("stair: LEVELS 0 .. N, HEIGHTS 20, no ROPES, no PEOPLE", EdgesTest::stairTold);
        test("pilgrim ..: one more, a sixth cannot stand there (at its word)", EdgesTest::sixth);
        test("at: LEVEL L", EdgesTest::atTold);
        test("nobody: no PEOPLE", EdgesTest::nobodyTold);
        test("STEPS, LEVELS, PEOPLE such as there are behind the LINES ahead", EdgesTest::suchAsThereAre);
        test("small letters a .. z", EdgesTest::letters);
        test("numbers of 1 or 2 digits", EdgesTest::digits);
        test("blanks (32) may stand ahead of, between, behind TOKENS, and need not where a TOKEN ends without", EdgesTest::blanks);
        test("A FAULT is at the first TOKEN that cannot stand there, or at the end, if it comes too soon", EdgesTest::firstFault);
        test("LINES are done in their order", EdgesTest::linesInOrder);
        test("Behind them all PEOPLE are at their LEVELS as told last, no MOVES have been, nobody has helped, "
            + "no ROW is told, nothing is kept", EdgesTest::behindAText);
    }

    private static void termsOfMoves() {
        test("BURDEN is WEIGHT and LOAD", EdgesTest::burdens);
        test("A HAND of one who helps is his STRENGTH, of a PORTER twice that", EdgesTest::hands);
        test("A MOVE UP of one from a LEVEL (not the TOP)", EdgesTest::notFromTheTop);
        test("A MOVE DOWN from a LEVEL (not 0)", EdgesTest::notFromTheGround);
        test("ALONE, if his HEIGHT is that of the STEP at least", EdgesTest::aloneByHeight);
        test("or it has a ROPE and his STRENGTH (a PORTER's, too, once) is his BURDEN at least", EdgesTest::aloneByRope);
        test("(and then only so)", EdgesTest::onlySo);
        test("a LIFTER (another one at his LEVEL), a PULLER (another one at the next), a CATCHER (another one at the LEVEL below)",
            EdgesTest::whereHelpersStand);
        test("their HANDS together are his BURDEN at least", EdgesTest::handsTogether);
        test("his HEIGHT, the LIFTER's and half of the PULLER's (cut) together are the STEP's at least", EdgesTest::heightsTogether);
        test("a CATCHER, whose HAND is his BURDEN at least", EdgesTest::catchersHeight);
        test("PROUD ones go ALONE only", EdgesTest::proudAlone);
        test("SAINTS go nowhere", EdgesTest::saintsStay);
        test("(all of them help)", EdgesTest::allHelp);
        test("Each that helps in a MOVE has HELPED that one once more", EdgesTest::helpedOnceMore);
        test("helped: how often one HELPED another one", EdgesTest::whoHelpedWhom);
        test("KINDS are over one another", EdgesTest::kindsOverOneAnother);
        test("what is told is by its own KIND, whatever it is taken as", EdgesTest::byHisOwnKind);
    }

    private static void termsOfForetelling() {
        test("HELP: by LIFTERS, then PULLERS, each NONE ahead of numbers; both NONE: ALONE; none", EdgesTest::firstHelp);
        test("SOONEST: till all but SAINTS are at the TOP; none: never", EdgesTest::soonestOrNever);
        test("WAY: the first such row (MOVE by MOVE, by PEOPLE's numbers, UP ahead of DOWN)", EdgesTest::firstWay);
        test("LASTS (0: no MOVE is needed); NONE: there is no such row", EdgesTest::lastsByBits);
        test("MOST: (SAINTS there, too), the set; of several the least", EdgesTest::mostAndTheLeast);
        test("SOON of one: the fewest MOVES till he is at the TOP", EdgesTest::soonOfOne);
        test("MANY: how many POSITIONS are n MOVES from now, and no fewer", EdgesTest::manyNoFewer);
        test("ROPED: (fewer than now, or not none); of several the least; none", EdgesTest::ropedFewerThanNow);
        test("ODDS: each comes by p tenths (0 .. 10), by himself", EdgesTest::oddsOfTenths);
        test("who comes being at his LEVEL as now", EdgesTest::whoComesHelps);
        test("Parts are told in lowest terms", EdgesTest::lowestTerms);
        test("FORETOLD from now", EdgesTest::fromNowAndNoEarlier);
        test("(nothing changes)", EdgesTest::onlyForetold);
        test("THE ROW, 12 MOVES at most", EdgesTest::rowOf12);
        test("JUDGED: the first that can not be, from now (from 0); NONE: all can be", EdgesTest::judgedFromNow);
    }

    private static void refusalsAndPromises() {
        test("Refused, and nothing changes, the first of these that fits: what is told", EdgesTest::refusedTelling);
        test("Refused, and nothing changes, the first of these that fits: moves", EdgesTest::refusedMoves);
        test("Refused, and nothing changes, the first of these that fits: foretold", EdgesTest::refusedForetelling);
        test("Refused, and nothing changes, the first of these that fits: rows", EdgesTest::refusedRows);
        test("Two STEPS, nobody", EdgesTest::newObject);
        test("n (1 .. 8) bytes more of THE TEXT, byte i being bytes >> 8 i & 255", EdgesTest::bytesOfALong);
        test("THE TEXT is empty: how many bytes it had", EdgesTest::erasedText);
        test("THE TEXT's LINES are done, and it is empty then; NOT: it has a FAULT", EdgesTest::stairEmptiesTheText);
        test("how many MOVES there were; FULL: above 9999", EdgesTest::fullAbove9999);
        test("An object is used for at most 512 calls", EdgesTest::usedFor512Calls);
        test("kept (k 0, 1); NOT: nothing was kept since the last text", EdgesTest::keptTwo);
        test("3 those at the TOP, by bits", EdgesTest::whoIsAtTheTop);
        test("0 the TOP, 1 PEOPLE, 2 MOVES, 4 THE ROW, 5 how often one HELPED, 6 bytes of THE TEXT", EdgesTest::counts);
    }

    public static void main(String[] args) {
        termsOfTheStair();
        termsOfTheText();
        termsOfMoves();
        termsOfForetelling();
        refusalsAndPromises();
        System.out.println(sentences + " sentences, " + (wrong == 0 ? "all hold" : wrong + " answers are not as due"));
        if (wrong != 0) System.exit(1);
    }
}
