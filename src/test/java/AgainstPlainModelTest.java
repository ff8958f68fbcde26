import java.math.BigInteger;
import java.util.ArrayDeque;
import java.util.ArrayList;
import java.util.Arrays;
import java.util.HashMap;
import java.util.HashSet;
import java.util.List;
import java.util.Map;
import java.util.Set;
import java.util.regex.Matcher;
import java.util.regex.Pattern;

/** Long runs of chosen calls, the same in every run of the test, answered by the class and by a slow model. */
public final class AgainstPlainModelTest {
    static final int NONE = -1, UNKNOWN = -2, OUTSIDE = -3, NOT = -4, FULL = -5;

    // ---- the model: the document's words, with the Java library and without thrift

    static final class Person {
        String kind;
        int height, weight, strength, load, toldLevel;
        Person copy() {
            Person p = new Person();
            p.kind = kind; p.height = height; p.weight = weight;
            p.strength = strength; p.load = load; p.toldLevel = toldLevel;
            return p;
        }
        int burden() { return weight + load; }
        int hand() { return kind.equals("porter") ? strength * 2 : strength; }
    }

    static final class Scene {
        int top = 2;
        Map<Integer, Integer> heights = new HashMap<>();
        Set<Integer> ropes = new HashSet<>();
        List<Person> people = new ArrayList<>();
        int heightOf(int step) { return heights.getOrDefault(step, 20); }
        Scene copy() {
            Scene s = new Scene();
            s.top = top;
            s.heights.putAll(heights);
            s.ropes.addAll(ropes);
            for (Person p : people) s.people.add(p.copy());
            return s;
        }

        boolean mayRise(List<Integer> levels, int one, int lifter, int puller) {
            Person p = people.get(one);
            int level = levels.get(one);
            if (level == top || p.kind.equals("saint")) return false;
            boolean byHeight = p.height >= heightOf(level);
            boolean byRope = ropes.contains(level) && p.strength >= p.burden();
            if (byHeight || byRope) return lifter == NONE && puller == NONE;
            if (p.kind.equals("proud")) return false;
            if (lifter == NONE && puller == NONE) return false;
            int hands = 0, reach = p.height;
            if (lifter != NONE) {
                if (lifter == one || !levels.get(lifter).equals(level)) return false;
                hands += people.get(lifter).hand();
                reach += people.get(lifter).height;
            }
            if (puller != NONE) {
                if (puller == one || levels.get(puller) != level + 1) return false;
                hands += people.get(puller).hand();
                reach += people.get(puller).height / 2;
            }
            return hands >= p.burden() && reach >= heightOf(level);
        }

        boolean maySink(List<Integer> levels, int one, int catcher) {
            Person p = people.get(one);
            int level = levels.get(one);
            if (level == 0 || p.kind.equals("saint")) return false;
            if (p.height >= heightOf(level - 1) || ropes.contains(level - 1)) return catcher == NONE;
            if (p.kind.equals("proud") || catcher == NONE || catcher == one) return false;
            return levels.get(catcher) == level - 1 && people.get(catcher).hand() >= p.burden();
        }

        int[] help(List<Integer> levels, int one) {
            for (int lifter = NONE; lifter < people.size(); lifter++)
                for (int puller = NONE; puller < people.size(); puller++)
                    if (mayRise(levels, one, lifter, puller)) return new int[] {lifter, puller};
            return null;
        }

        boolean sinks(List<Integer> levels, int one) {
            for (int catcher = NONE; catcher < people.size(); catcher++)
                if (maySink(levels, one, catcher)) return true;
            return false;
        }

        /** The position behind the move, or null. */
        List<Integer> moved(List<Integer> levels, int one, int up) {
            if (up == 1 ? help(levels, one) == null : !sinks(levels, one)) return null;
            List<Integer> next = new ArrayList<>(levels);
            next.set(one, next.get(one) + (up == 1 ? 1 : -1));
            return next;
        }

        Map<List<Integer>, Integer> distances(List<Integer> from) {
            Map<List<Integer>, Integer> far = new HashMap<>();
            ArrayDeque<List<Integer>> open = new ArrayDeque<>();
            far.put(from, 0);
            open.add(from);
            while (!open.isEmpty()) {
                List<Integer> here = open.poll();
                for (int one = 0; one < people.size(); one++)
                    for (int up = 0; up < 2; up++) {
                        List<Integer> next = moved(here, one, up);
                        if (next != null && !far.containsKey(next)) {
                            far.put(next, far.get(here) + 1);
                            open.add(next);
                        }
                    }
            }
            return far;
        }

        boolean allUp(List<Integer> levels) {
            for (int one = 0; one < people.size(); one++)
                if (!people.get(one).kind.equals("saint") && levels.get(one) != top) return false;
            return true;
        }

        int soonest(List<Integer> from) {
            int best = NONE;
            for (Map.Entry<List<Integer>, Integer> e : distances(from).entrySet())
                if (allUp(e.getKey()) && (best == NONE || e.getValue() < best)) best = e.getValue();
            return best;
        }

        /** All shortest rows' first moves are found by asking how soon it is from where they lead. */
        List<int[]> way(List<Integer> from) {
            Map<List<Integer>, Integer> far = distances(from);
            int soonest = soonest(from);
            if (soonest == NONE) return null;
            // Backwards from the goal: which positions lie on some shortest row.
            Set<List<Integer>> on = new HashSet<>();
            for (List<Integer> p : far.keySet()) if (allUp(p) && far.get(p) == soonest) on.add(p);
            for (int d = soonest - 1; d >= 0; d--) {
                Set<List<Integer>> more = new HashSet<>();
                for (List<Integer> p : far.keySet())
                    if (far.get(p) == d)
                        for (int one = 0; one < people.size(); one++)
                            for (int up = 0; up < 2; up++) {
                                List<Integer> next = moved(p, one, up);
                                if (next != null && on.contains(next) && far.get(next) == d + 1) more.add(p);
                            }
                on.addAll(more);
            }
            List<int[]> row = new ArrayList<>();
            List<Integer> here = from;
            while (row.size() < soonest) {
                List<Integer> then = null;
                for (int one = 0; one < people.size() && then == null; one++)
                    for (int up = 1; up >= 0 && then == null; up--) {
                        List<Integer> next = moved(here, one, up);
                        if (next != null && on.contains(next) && far.get(next) == row.size() + 1) {
                            then = next;
                            row.add(new int[] {one, up});
                        }
                    }
                here = then;
            }
            return row;
        }

        int lasts(List<Integer> from) {
            Map<List<Integer>, Integer> far = distances(from);
            int soonest = soonest(from);
            if (soonest <= 0) return soonest;
            int set = 0;
            for (List<Integer> p : far.keySet())
                if (far.get(p) == soonest - 1)
                    for (int one = 0; one < people.size(); one++)
                        for (int up = 0; up < 2; up++) {
                            List<Integer> next = moved(p, one, up);
                            if (next != null && allUp(next)) set |= 1 << one;
                        }
            return set;
        }

        int most(List<Integer> from) {
            int best = 0;
            for (List<Integer> p : distances(from).keySet()) {
                int set = topSet(p);
                int c = Integer.bitCount(set), b = Integer.bitCount(best);
                if (c > b || c == b && set < best) best = set;
            }
            return best;
        }

        int topSet(List<Integer> levels) {
            int set = 0;
            for (int one = 0; one < people.size(); one++) if (levels.get(one) == top) set |= 1 << one;
            return set;
        }
    }

    static final Pattern TOKEN = Pattern.compile("[a-z]+|[0-9]+|[^ ]", Pattern.DOTALL);

    static final class Model {
        Scene told = new Scene();
        StringBuilder text = new StringBuilder();
        List<Integer> levels = new ArrayList<>();
        int moves;
        Map<List<Integer>, Integer> helped = new HashMap<>();
        Object[][] kept = new Object[2][];
        List<int[]> row = new ArrayList<>();

        // reading
        List<String> words;
        List<Integer> places;
        int next, lines;
        static final class Fault extends RuntimeException {
            private static final long serialVersionUID = 1L;
            final int place;
            Fault(int place) { super("" + place, null, false, false); this.place = place; }
        }
        String token() { return next < words.size() ? words.get(next) : ""; }
        Fault here() { return new Fault(next < words.size() ? places.get(next) : text.length()); }
        int number(int least, int greatest) {
            if (!token().matches("[0-9]{1,2}")) throw here();
            int n = Integer.parseInt(token());
            if (n < least || n > greatest) throw here();
            next++;
            return n;
        }
        Scene readAll() {
            words = new ArrayList<>();
            places = new ArrayList<>();
            Matcher m = TOKEN.matcher(text);
            while (m.find()) { words.add(m.group()); places.add(m.start()); }
            next = 0;
            lines = 0;
            Scene s = told.copy();
            while (true) {
                line(s);
                lines++;
                if (next == words.size()) return s;
                if (!token().equals(";") || lines == 12) throw here();
                next++;
            }
        }
        void line(Scene s) {
            String word = token();
            List<String> kinds = Arrays.asList("pilgrim", "porter", "proud", "saint");
            if (!kinds.contains(word) && !Arrays.asList("stair", "step", "rope", "load", "at", "nobody").contains(word)) throw here();
            if (kinds.contains(word) && s.people.size() == 5) throw here();
            next++;
            if (kinds.contains(word)) {
                Person p = new Person();
                p.kind = word;
                p.height = number(1, 30);
                p.weight = number(1, 50);
                p.strength = number(0, 99);
                s.people.add(p);
            } else if (word.equals("stair")) {
                s.top = number(1, 4);
                s.heights.clear();
                s.ropes.clear();
                s.people.clear();
            } else if (word.equals("step")) {
                int i = number(0, s.top - 1);
                s.heights.put(i, number(1, 60));
            } else if (word.equals("rope")) {
                s.ropes.add(number(0, s.top - 1));
            } else if (word.equals("load")) {
                int p = number(0, s.people.size() - 1);
                s.people.get(p).load = number(0, 49);
            } else if (word.equals("at")) {
                int p = number(0, s.people.size() - 1);
                s.people.get(p).toldLevel = number(0, s.top);
            } else {
                s.people.clear();
            }
        }

        boolean known(int one) { return one >= 0 && one < told.people.size(); }
        boolean askable(int one, int helper) { return helper == NONE || known(helper) && helper != one; }

        int write(long bytes, int n) {
            if (n < 1 || n > 8) return OUTSIDE;
            if (text.length() + n > 200) return FULL;
            for (int i = 0; i < n; i++) { text.append((char) (bytes & 255)); bytes >>>= 8; }
            return text.length();
        }
        int erase() { int n = text.length(); text.setLength(0); return n; }
        int fault() {
            try { readAll(); return NONE; } catch (Fault f) { return f.place; }
        }
        int stair() {
            try { told = readAll(); } catch (Fault f) { return NOT; }
            text.setLength(0);
            levels = new ArrayList<>();
            for (Person p : told.people) levels.add(p.toldLevel);
            moves = 0;
            helped.clear();
            kept = new Object[2][];
            row.clear();
            return lines;
        }
        int step(int step, int what) {
            if (step < 0 || step >= told.top) return UNKNOWN;
            if (what != 0 && what != 1) return OUTSIDE;
            return what == 0 ? told.heightOf(step) : told.ropes.contains(step) ? 1 : 0;
        }
        int one(int one, int what) {
            if (!known(one)) return UNKNOWN;
            if (what < 0 || what > 6) return OUTSIDE;
            Person p = told.people.get(one);
            int gave = 0, got = 0;
            for (Map.Entry<List<Integer>, Integer> e : helped.entrySet()) {
                if (e.getKey().get(0) == one) gave += e.getValue();
                if (e.getKey().get(1) == one) got += e.getValue();
            }
            return new int[] {Arrays.asList("pilgrim", "porter", "proud", "saint").indexOf(p.kind), p.height,
                p.burden(), p.strength, levels.get(one), gave, got}[what];
        }
        int as(int one, int kind) {
            if (!known(one)) return UNKNOWN;
            if (kind < 0 || kind > 4) return OUTSIDE;
            String k = told.people.get(one).kind;
            boolean such = kind == 0 || kind == 1 && !k.equals("saint") || kind == 2 && k.equals("porter")
                || kind == 3 && k.equals("proud") || kind == 4 && k.equals("saint");
            if (!such) return NOT;
            return (told.moved(levels, one, 1) != null ? 1 : 0) + (told.moved(levels, one, 0) != null ? 2 : 0);
        }
        void owe(int helper, int one) { if (helper != NONE) helped.merge(Arrays.asList(helper, one), 1, Integer::sum); }
        int up(int one, int lifter, int puller) {
            if (!known(one) || !askable(one, lifter) || !askable(one, puller)) return UNKNOWN;
            if (!told.mayRise(levels, one, lifter, puller)) return NOT;
            owe(lifter, one);
            owe(puller, one);
            levels.set(one, levels.get(one) + 1);
            return ++moves;
        }
        int down(int one, int catcher) {
            if (!known(one) || !askable(one, catcher)) return UNKNOWN;
            if (!told.maySink(levels, one, catcher)) return NOT;
            owe(catcher, one);
            levels.set(one, levels.get(one) - 1);
            return ++moves;
        }
        int helped(int one, int other) {
            if (!known(one) || !known(other) || one == other) return UNKNOWN;
            return helped.getOrDefault(Arrays.asList(one, other), 0);
        }
        int keep(int k) {
            if (k != 0 && k != 1) return UNKNOWN;
            kept[k] = new Object[] {new ArrayList<>(levels), moves, new HashMap<>(helped)};
            return moves;
        }
        @SuppressWarnings("unchecked")
        int back(int k) {
            if (k != 0 && k != 1) return UNKNOWN;
            if (kept[k] == null) return NOT;
            levels = new ArrayList<>((List<Integer>) kept[k][0]);
            moves = (Integer) kept[k][1];
            helped = new HashMap<>((Map<List<Integer>, Integer>) kept[k][2]);
            return moves;
        }
        int help(int one, int what) {
            if (!known(one)) return UNKNOWN;
            if (what != 0 && what != 1) return OUTSIDE;
            int[] h = told.help(levels, one);
            return h == null ? NOT : h[what];
        }
        int soonest() { return told.soonest(levels); }
        int way(int i, int what) {
            if (i < 0 || what != 0 && what != 1) return OUTSIDE;
            List<int[]> w = told.way(levels);
            return w == null || i >= w.size() ? NONE : w.get(i)[what];
        }
        int lasts() { return told.lasts(levels); }
        int most(int what) {
            if (what != 0 && what != 1) return OUTSIDE;
            int set = told.most(levels);
            return what == 0 ? Integer.bitCount(set) : set;
        }
        int soon(int one) {
            if (!known(one)) return UNKNOWN;
            int best = NONE;
            for (Map.Entry<List<Integer>, Integer> e : told.distances(levels).entrySet())
                if (e.getKey().get(one) == told.top && (best == NONE || e.getValue() < best)) best = e.getValue();
            return best;
        }
        int many(int n) {
            if (n < 0) return OUTSIDE;
            int sum = 0;
            for (int d : told.distances(levels).values()) if (d == n) sum++;
            return sum;
        }
        int roped(int what) {
            if (what != 0 && what != 1) return OUTSIDE;
            int now = soonest(), step = NONE, least = Integer.MAX_VALUE;
            for (int s = told.top - 1; s >= 0; s--) {
                if (told.ropes.contains(s)) continue;
                Scene t = told.copy();
                t.ropes.add(s);
                int then = t.soonest(levels);
                if (then != NONE && (now == NONE || then < now) && then <= least) { step = s; least = then; }
            }
            return step == NONE ? NONE : what == 0 ? step : least;
        }
        int odds(int p, int part) {
            if (p < 0 || p > 10 || part != 0 && part != 1) return OUTSIDE;
            int m = told.people.size();
            BigInteger above = BigInteger.ZERO, below = BigInteger.TEN.pow(m);
            for (int who = 0; who < 1 << m; who++) {
                Scene s = told.copy();
                List<Integer> at = new ArrayList<>();
                s.people.clear();
                BigInteger chance = BigInteger.ONE;
                for (int one = 0; one < m; one++) {
                    boolean comes = (who >> one & 1) == 1;
                    chance = chance.multiply(BigInteger.valueOf(comes ? p : 10 - p));
                    if (comes) { s.people.add(told.people.get(one)); at.add(levels.get(one)); }
                }
                if (s.soonest(at) != NONE) above = above.add(chance);
            }
            BigInteger g = above.gcd(below);
            return (part == 0 ? above : below).divide(g).intValueExact();
        }
        int row(int one, int up) {
            if (!known(one)) return UNKNOWN;
            if (up != 0 && up != 1) return OUTSIDE;
            if (row.size() == 12) return FULL;
            row.add(new int[] {one, up});
            return row.size();
        }
        int burn() { int n = row.size(); row.clear(); return n; }
        int judge() {
            List<Integer> at = levels;
            for (int i = 0; i < row.size(); i++) {
                at = told.moved(at, row.get(i)[0], row.get(i)[1]);
                if (at == null) return i;
            }
            return NONE;
        }
        int count(int what) {
            if (what < 0 || what > 6) return OUTSIDE;
            int all = 0;
            for (int h : helped.values()) all += h;
            return new int[] {told.top, told.people.size(), moves, told.topSet(levels), row.size(), all, text.length()}[what];
        }
    }

    // ---- the runs

    static long seed;
    static int pick(int bound) {
        seed = seed * 6364136223846793005L + 1442695040888963407L;
        return (int) ((seed >>> 33) % bound);
    }
    static int between(int least, int greatest) { return least + pick(greatest - least + 1); }
    static boolean onceIn(int n) { return pick(n) == 0; }

    static int run, calls, wrong;
    static Map<String, Integer> seen = new HashMap<>();

    static void same(String call, int got, int due) {
        calls++;
        if (call.startsWith("soonest") || call.startsWith("lasts")) seen.merge(call + " " + Math.min(due, 20), 1, Integer::sum);
        seen.merge(call.substring(0, call.indexOf('(')) + (due < 0 ? " " + due : " +"), 1, Integer::sum);
        if (got != due) {
            wrong++;
            if (wrong < 30) System.out.println("run " + run + ": " + call + " answered " + got + ", the model " + due);
        }
    }

    static String blanks() { return onceIn(12) ? " ".repeat(between(1, 2)) : ""; }
    static String numberText(int n) {
        if (onceIn(150)) return "0" + n;
        if (onceIn(150)) return "" + between(0, 120);
        return n < 10 && onceIn(15) ? "0" + n : "" + n;
    }

    static int guessTop, guessPeople;

    /** Most of the time a line that can stand. */
    static String line(int hardness) {
        StringBuilder b = new StringBuilder(blanks());
        int sort = guessPeople < 2 || guessPeople < 5 && onceIn(2) ? between(3, 8) : pick(12);
        String word;
        int[] numbers;
        switch (sort) {
            case 0: word = "at"; numbers = new int[] {pick(guessPeople), between(0, guessTop)}; break;
            case 1: word = "load"; numbers = new int[] {pick(guessPeople), between(0, hardness + 4)}; break;
            case 2: word = "rope"; numbers = new int[] {pick(guessTop)}; break;
            case 9: case 10: word = "step"; numbers = new int[] {pick(guessTop), between(15, 30 + hardness)}; break;
            case 11:
                if (onceIn(20)) { word = "nobody"; numbers = new int[0]; guessPeople = 0; break; }
                if (onceIn(20)) { word = "stair"; guessTop = between(1, 4); numbers = new int[] {guessTop}; guessPeople = 0; break; }
                word = "step"; numbers = new int[] {pick(guessTop), between(1, 60)}; break;
            default:
                if (guessPeople >= 5 && !onceIn(30)) { word = "step"; numbers = new int[] {pick(guessTop), between(10, 45)}; break; }
                word = new String[] {"pilgrim", "pilgrim", "porter", "pilgrim", "porter", "proud", "saint"}[pick(onceIn(3) ? 7 : 5)];
                numbers = new int[] {between(10, 28), between(5, 12 + hardness), between(3, 25 - hardness / 2)};
                guessPeople++;
        }
        b.append(word);
        for (int k = 0; k < numbers.length; k++) {
            b.append(k == 0 && onceIn(5) ? "" : " ").append(blanks()).append(numberText(numbers[k]));
        }
        if (onceIn(150)) b.append(" 1");
        return b.append(blanks()).toString();
    }

    static String text() {
        StringBuilder b = new StringBuilder();
        int hardness = between(0, 20);
        if (onceIn(2) || guessPeople == 0) { guessTop = between(1, 4); guessPeople = 0; b.append("stair ").append(guessTop).append(';'); }
        int lines = onceIn(6) ? between(1, 14) : between(3, 11);
        for (int i = 0; i < lines; i++) {
            if (i > 0) b.append(onceIn(200) ? "," : ";");
            b.append(line(hardness));
        }
        if (onceIn(10)) {
            int at = pick(b.length());
            int sort = pick(4);
            if (sort == 0) b.deleteCharAt(at);
            else if (sort == 1) b.setLength(at);
            else if (sort == 2) b.insert(at, (char) pick(256));
            else b.setCharAt(at, (char) pick(256));
        }
        return b.toString();
    }

    static void writeBoth(GiantStair x, Model m, String text) {
        int from = 0;
        while (from < text.length()) {
            int n = Math.min(between(1, 8), text.length() - from);
            long bytes = 0;
            for (int i = 0; i < 8; i++) {
                long sign = i < n ? text.charAt(from + i) : pick(256);
                bytes |= (sign & 255) << 8 * i;
            }
            same("write(" + bytes + ", " + n + ")", x.write(bytes, n), m.write(bytes, n));
            from += n;
        }
    }

    static int someone() { return onceIn(25) ? between(-3, 6) : pick(Math.max(1, guessPeople)); }
    static int helper() { return onceIn(2) ? -1 : someone(); }
    static int what(int last) { return onceIn(25) ? between(-2, last + 2) : between(0, last); }

    static void foretell(GiantStair x, Model m) {
        same("soonest()", x.soonest(), m.soonest());
        same("lasts()", x.lasts(), m.lasts());
        int w = what(1);
        same("most(" + w + ")", x.most(w), m.most(w));
        w = what(1);
        same("roped(" + w + ")", x.roped(w), m.roped(w));
        int p = onceIn(20) ? between(-2, 12) : between(0, 10);
        w = what(1);
        same("odds(" + p + ", " + w + ")", x.odds(p, w), m.odds(p, w));
        for (int k = 0; k < 3; k++) {
            int i = onceIn(20) ? between(-2, 40) : between(0, 9);
            w = what(1);
            same("way(" + i + ", " + w + ")", x.way(i, w), m.way(i, w));
        }
        int one = someone();
        same("soon(" + one + ")", x.soon(one), m.soon(one));
        int n = onceIn(30) ? between(-2, 3000) : between(0, 12);
        same("many(" + n + ")", x.many(n), m.many(n));
    }

    static void oneCall(GiantStair x, Model m) {
        int one = someone(), a = helper(), b = helper(), w;
        switch (pick(16)) {
            case 0: case 1: case 2: {
                // The help that is foretold, most of the time: else few would come up.
                if (onceIn(2) && x.help(one, 0) >= -1) { a = x.help(one, 0); b = x.help(one, 1); }
                same("up(" + one + ", " + a + ", " + b + ")", x.up(one, a, b), m.up(one, a, b));
                break;
            }
            case 3: same("down(" + one + ", " + a + ")", x.down(one, a), m.down(one, a)); break;
            case 4: a = someone(); same("helped(" + one + ", " + a + ")", x.helped(one, a), m.helped(one, a)); break;
            case 5: w = what(1); same("keep(" + w + ")", x.keep(w), m.keep(w)); break;
            case 6: w = what(1); same("back(" + w + ")", x.back(w), m.back(w)); break;
            case 7: case 8: w = what(1); same("help(" + one + ", " + w + ")", x.help(one, w), m.help(one, w)); break;
            case 9: w = what(6); same("one(" + one + ", " + w + ")", x.one(one, w), m.one(one, w)); break;
            case 10: w = what(4); same("as(" + one + ", " + w + ")", x.as(one, w), m.as(one, w)); break;
            case 11: a = between(-1, 4); w = what(1); same("step(" + a + ", " + w + ")", x.step(a, w), m.step(a, w)); break;
            case 12: case 13: {
                w = what(1);
                if (onceIn(4)) w = 0; else if (!onceIn(10)) w = 1;
                same("row(" + one + ", " + w + ")", x.row(one, w), m.row(one, w));
                break;
            }
            case 14:
                same("judge()", x.judge(), m.judge());
                if (onceIn(4)) same("burn()", x.burn(), m.burn());
                break;
            default: w = what(6); same("count(" + w + ")", x.count(w), m.count(w)); break;
        }
    }

    static void oneRun(int number) {
        run = number;
        seed = number * 7919L + 17;
        GiantStair x = new GiantStair();
        Model m = new Model();
        guessTop = 2;
        guessPeople = 0;
        int before = calls;
        while (calls - before < 380) {
            writeBoth(x, m, text());
            same("fault()", x.fault(), m.fault());
            int lines = m.stair();
            same("stair()", x.stair(), lines);
            if (lines < 0) {
                if (!onceIn(6)) same("erase()", x.erase(), m.erase());
                continue;
            }
            guessTop = m.told.top;
            guessPeople = m.told.people.size();
            int turns = between(2, 5);
            for (int t = 0; t < turns; t++) {
                foretell(x, m);
                int more = between(3, 12);
                for (int k = 0; k < more; k++) oneCall(x, m);
            }
        }
    }

    public static void main(String[] args) {
        int runs = args.length > 0 ? Integer.parseInt(args[0]) : 50;
        for (int number = 1; number <= runs; number++) oneRun(number);
        if (args.length > 1) System.out.println(new java.util.TreeMap<>(seen));
        System.out.println(calls + " calls, " + wrong + " not as the model");
        if (wrong != 0) System.exit(1);
    }
}
