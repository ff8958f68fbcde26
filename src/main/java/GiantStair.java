import java.util.Arrays;

/** A stair of steps as high as men, up which one comes only by another's hands. */
public final class GiantStair {
    public static final int NONE = -1, UNKNOWN = -2, OUTSIDE = -3, NOT = -4, FULL = -5;

    private static final int MAX_TOP = 4;
    private static final int MAX_PEOPLE = 5;
    private static final int MAX_MOVES = 9999;
    private static final int MAX_ROW = 12;
    private static final int PLACES_TO_KEEP = 2;

    private static final int PILGRIM = 0;
    private static final int PORTER = 1;
    private static final int PROUD = 2;
    private static final int SAINT = 3;

    private final Told told = new Told();
    // A second one, for texts that may yet have a fault and for what only would be.
    private final Told draft = new Told();
    private final Text text = new Text();
    private final Journey journey = new Journey();
    private final Journey[] kept = new Journey[PLACES_TO_KEEP];
    private final Search search = new Search();
    // Whether the search still holds what can be from now.
    private boolean foreseen;
    private final int[] rowOne = new int[MAX_ROW];
    private final int[] rowUp = new int[MAX_ROW];
    private int rowLength;
    private final int[] judged = new int[MAX_PEOPLE];

    public GiantStair() {
        for (int k = 0; k < PLACES_TO_KEEP; k++) {
            kept[k] = new Journey();
        }
    }

    // ---- what is told

    public int write(long bytes, int n) {
        if (n < 1 || n > 8) {
            return OUTSIDE;
        }
        if (text.length + n > Text.MAX_LENGTH) {
            return FULL;
        }
        for (int i = 0; i < n; i++) {
            text.append((int) (bytes >> 8 * i & 255));
        }
        return text.length;
    }

    public int erase() {
        return text.empty();
    }

    public int fault() {
        draft.copy(told);
        return text.read(draft);
    }

    public int stair() {
        draft.copy(told);
        if (text.read(draft) != NONE) {
            return NOT;
        }
        told.copy(draft);
        text.empty();
        beginAnew();
        return text.lines;
    }

    public int step(int step, int what) {
        if (step < 0 || step >= told.top || step >= MAX_TOP) {
            return UNKNOWN;
        }
        switch (what) {
            case 0: return told.stepHeight[step];
            case 1: return told.rope[step] ? 1 : 0;
            default: return OUTSIDE;
        }
    }

    public int one(int one, int what) {
        if (!told.isOne(one)) {
            return UNKNOWN;
        }
        switch (what) {
            case 0: return told.kind[one];
            case 1: return told.height[one];
            case 2: return told.burden[one];
            case 3: return told.strength[one];
            case 4: return journey.level[one];
            case 5: return journey.helpGiven(one);
            case 6: return journey.helpTaken(one);
            default: return OUTSIDE;
        }
    }

    public int as(int one, int kind) {
        if (!told.isOne(one)) {
            return UNKNOWN;
        }
        if (kind < 0 || kind > 4) {
            return OUTSIDE;
        }
        if (!told.isSuch(one, kind)) {
            return NOT;
        }
        int ways = told.canRise(one, journey.level) ? 1 : 0;
        return told.canSink(one, journey.level) ? ways + 2 : ways;
    }

    // ---- moves

    public int up(int one, int lifter, int puller) {
        if (!told.isOne(one) || !mayBeAsked(one, lifter) || !mayBeAsked(one, puller)) {
            return UNKNOWN;
        }
        if (!told.risesBy(one, lifter, puller, journey.level)) {
            return NOT;
        }
        if (journey.moves >= MAX_MOVES) {
            return FULL;
        }
        journey.addHelp(lifter, one);
        journey.addHelp(puller, one);
        return go(one, 1);
    }

    public int down(int one, int catcher) {
        if (!told.isOne(one) || !mayBeAsked(one, catcher)) {
            return UNKNOWN;
        }
        if (!told.sinksBy(one, catcher, journey.level)) {
            return NOT;
        }
        if (journey.moves >= MAX_MOVES) {
            return FULL;
        }
        journey.addHelp(catcher, one);
        return go(one, -1);
    }

    public int helped(int one, int other) {
        if (!told.isOne(one) || !told.isOne(other) || one == other) {
            return UNKNOWN;
        }
        return journey.helpBetween(one, other);
    }

    public int keep(int k) {
        if (k < 0 || k >= PLACES_TO_KEEP || kept[k] == null) {
            return UNKNOWN;
        }
        kept[k].copy(journey);
        kept[k].holds = true;
        return journey.moves;
    }

    public int back(int k) {
        if (k < 0 || k >= PLACES_TO_KEEP || kept[k] == null) {
            return UNKNOWN;
        }
        if (!kept[k].holds) {
            return NOT;
        }
        journey.copy(kept[k]);
        foreseen = false;
        return journey.moves;
    }

    // ---- foretold

    public int help(int one, int what) {
        if (!told.isOne(one)) {
            return UNKNOWN;
        }
        if (what < 0 || what > 1) {
            return OUTSIDE;
        }
        int pair = told.firstHelp(one, journey.level);
        if (pair == NONE) {
            return NOT;
        }
        return what == 0 ? Told.lifterOf(pair) : Told.pullerOf(pair);
    }

    public int soonest() {
        foresee();
        return search.fewest();
    }

    public int way(int i, int what) {
        if (i < 0 || what < 0 || what > 1) {
            return OUTSIDE;
        }
        foresee();
        if (i >= search.fewest()) {
            return NONE;
        }
        return what == 0 ? search.mover(i) : search.rises(i) ? 1 : 0;
    }

    public int lasts() {
        foresee();
        return search.lastMovers(told);
    }

    public int most(int what) {
        if (what < 0 || what > 1) {
            return OUTSIDE;
        }
        foresee();
        int set = search.fullestTop(told);
        return what == 0 ? Integer.bitCount(set) : set;
    }

    public int soon(int one) {
        if (!told.isOne(one)) {
            return UNKNOWN;
        }
        foresee();
        return search.fewestFor(one, told.top);
    }

    public int many(int n) {
        if (n < 0) {
            return OUTSIDE;
        }
        foresee();
        return search.positionsBehind(n);
    }

    public int roped(int what) {
        if (what < 0 || what > 1) {
            return OUTSIDE;
        }
        foresee();
        int least = search.fewest();
        int best = NONE;
        for (int step = 0; step < told.top && step < MAX_TOP; step++) {
            if (!told.rope[step]) {
                draft.copy(told);
                draft.rope[step] = true;
                foreseen = false;
                search.look(draft, journey.level);
                int then = search.fewest();
                if (then != NONE && (least == NONE || then < least)) {
                    least = then;
                    best = step;
                }
            }
        }
        if (best == NONE) {
            return NONE;
        }
        return what == 0 ? best : least;
    }

    public int odds(int p, int part) {
        if (p < 0 || p > 10 || part < 0 || part > 1) {
            return OUTSIDE;
        }
        int above = 0;
        int below = 1;
        for (int one = 0; one < told.people; one++) {
            below *= 10;
        }
        for (int who = 0; who < 1 << told.people; who++) {
            int chance = chanceOf(who, p);
            if (chance > 0 && canAllBeUp(who)) {
                above += chance;
            }
        }
        int common = commonDivisor(above, below);
        if (common <= 0) {
            return NONE;
        }
        return (part == 0 ? above : below) / common;
    }

    // ---- rows

    public int row(int one, int up) {
        if (!told.isOne(one)) {
            return UNKNOWN;
        }
        if (up < 0 || up > 1) {
            return OUTSIDE;
        }
        if (rowLength >= MAX_ROW) {
            return FULL;
        }
        rowOne[rowLength] = one;
        rowUp[rowLength] = up;
        rowLength++;
        return rowLength;
    }

    public int burn() {
        int had = rowLength;
        rowLength = 0;
        return had;
    }

    public int judge() {
        System.arraycopy(journey.level, 0, judged, 0, MAX_PEOPLE);
        for (int i = 0; i < rowLength && i < MAX_ROW; i++) {
            int one = rowOne[i];
            boolean rises = rowUp[i] == 1;
            boolean can = rises ? told.canRise(one, judged) : told.canSink(one, judged);
            if (!told.isOne(one) || !can) {
                return i;
            }
            judged[one] += rises ? 1 : -1;
        }
        return NONE;
    }

    public int count(int what) {
        switch (what) {
            case 0: return told.top;
            case 1: return told.people;
            case 2: return journey.moves;
            case 3: return told.setAtTop(journey.level);
            case 4: return rowLength;
            case 5: return journey.helpInAll();
            case 6: return text.length;
            default: return OUTSIDE;
        }
    }

    // ---- what the calls share

    private boolean mayBeAsked(int one, int helper) {
        return helper == NONE || told.isOne(helper) && helper != one;
    }

    private int go(int one, int by) {
        journey.level[one] += by;
        journey.moves++;
        foreseen = false;
        return journey.moves;
    }

    private void beginAnew() {
        journey.begin(told.start);
        for (int k = 0; k < PLACES_TO_KEEP; k++) {
            if (kept[k] != null) {
                kept[k].holds = false;
            }
        }
        rowLength = 0;
        foreseen = false;
    }

    private void foresee() {
        if (!foreseen) {
            search.look(told, journey.level);
            foreseen = true;
        }
    }

    /** How many of 10 to the power of PEOPLE are for those, and no others, to come. */
    private int chanceOf(int who, int p) {
        int chance = 1;
        for (int one = 0; one < told.people; one++) {
            chance *= (who >> one & 1) == 1 ? p : 10 - p;
        }
        return chance;
    }

    private boolean canAllBeUp(int who) {
        draft.copySome(told, who, journey.level);
        foreseen = false;
        search.look(draft, draft.start);
        return search.fewest() != NONE;
    }

    private static int commonDivisor(int a, int b) {
        int greater = a;
        int less = b;
        // Euclid's rows on numbers to 100000 have some 25 members at most.
        for (int turn = 0; turn < 100 && less != 0; turn++) {
            int rest = greater % less;
            greater = less;
            less = rest;
        }
        return greater;
    }

    /** What texts have told: the stair, who is there and where each begins; and who can go by it. */
    private static final class Told {
        private static final int STAIR = 0;
        private static final int STEP = 1;
        private static final int ROPE = 2;
        private static final int LOAD = 3;
        private static final int AT = 4;
        private static final int NOBODY = 5;
        // From here on the words are the KINDS in their order.
        private static final int FIRST_KIND = 6;
        private static final int WORDS = 10;

        // A LIFTER and a PULLER, each NONE or a number, in one int.
        private static final int HELPERS = MAX_PEOPLE + 1;

        // Which KIND is over each, as they are taken: ONE, PILGRIM, PORTER, PROUD, SAINT.
        private static final int[] OVER = {-1, 0, 1, 1, 0};

        int top;
        int people;
        final int[] stepHeight = new int[MAX_TOP];
        final boolean[] rope = new boolean[MAX_TOP];
        final int[] kind = new int[MAX_PEOPLE];
        final int[] height = new int[MAX_PEOPLE];
        final int[] weight = new int[MAX_PEOPLE];
        final int[] burden = new int[MAX_PEOPLE];
        final int[] strength = new int[MAX_PEOPLE];
        final int[] start = new int[MAX_PEOPLE];

        Told() {
            build(2);
        }

        private void build(int levels) {
            top = levels;
            people = 0;
            for (int step = 0; step < MAX_TOP; step++) {
                stepHeight[step] = 20;
                rope[step] = false;
            }
        }

        void copy(Told other) {
            copyStair(other);
            people = other.people;
            System.arraycopy(other.kind, 0, kind, 0, MAX_PEOPLE);
            System.arraycopy(other.height, 0, height, 0, MAX_PEOPLE);
            System.arraycopy(other.weight, 0, weight, 0, MAX_PEOPLE);
            System.arraycopy(other.burden, 0, burden, 0, MAX_PEOPLE);
            System.arraycopy(other.strength, 0, strength, 0, MAX_PEOPLE);
            System.arraycopy(other.start, 0, start, 0, MAX_PEOPLE);
        }

        private void copyStair(Told other) {
            top = other.top;
            for (int step = 0; step < MAX_TOP; step++) {
                stepHeight[step] = other.stepHeight[step];
                rope[step] = other.rope[step];
            }
        }

        /** Takes from the other one only those by bits, who then begin at their levels. */
        void copySome(Told other, int who, int[] level) {
            copyStair(other);
            people = 0;
            for (int one = 0; one < other.people && one < MAX_PEOPLE; one++) {
                if ((who >> one & 1) == 1 && people < MAX_PEOPLE) {
                    kind[people] = other.kind[one];
                    height[people] = other.height[one];
                    weight[people] = other.weight[one];
                    burden[people] = other.burden[one];
                    strength[people] = other.strength[one];
                    start[people] = level[one];
                    people++;
                }
            }
        }

        // -- telling

        boolean allows(int word) {
            return word >= 0 && (word < FIRST_KIND || people < MAX_PEOPLE);
        }

        static int numbersBehind(int word) {
            switch (word) {
                case STAIR: case ROPE: return 1;
                case STEP: case LOAD: case AT: return 2;
                case NOBODY: return 0;
                default: return 3;
            }
        }

        static int least(int word, int k) {
            switch (word) {
                case STAIR: return 1;
                case STEP: return k == 0 ? 0 : 1;
                case ROPE: case LOAD: case AT: return 0;
                default: return k < 2 ? 1 : 0;
            }
        }

        int greatest(int word, int k) {
            switch (word) {
                case STAIR: return MAX_TOP;
                case STEP: return k == 0 ? top - 1 : 60;
                case ROPE: return top - 1;
                case LOAD: return k == 0 ? people - 1 : 49;
                case AT: return k == 0 ? people - 1 : top;
                default: return k == 0 ? 30 : k == 1 ? 50 : 99;
            }
        }

        /** Does a line; its numbers are within their bounds. */
        void tell(int word, int first, int second, int third) {
            if (word == STAIR) {
                build(first);
            } else if (word == NOBODY) {
                people = 0;
            } else if (word == STEP && isStep(first)) {
                stepHeight[first] = second;
            } else if (word == ROPE && isStep(first)) {
                rope[first] = true;
            } else if (word == LOAD && isOne(first)) {
                burden[first] = weight[first] + second;
            } else if (word == AT && isOne(first)) {
                start[first] = second;
            } else if (word >= FIRST_KIND && people < MAX_PEOPLE) {
                kind[people] = word - FIRST_KIND;
                height[people] = first;
                weight[people] = second;
                burden[people] = second;
                strength[people] = third;
                start[people] = 0;
                people++;
            }
        }

        // -- who is who

        boolean isOne(int one) {
            return one >= 0 && one < people && one < MAX_PEOPLE;
        }

        private boolean isStep(int step) {
            return step >= 0 && step < top && step < MAX_TOP;
        }

        /** A KIND is taken as its own number and 1, ONE being ahead of them all. */
        boolean isSuch(int one, int taken) {
            if (!isOne(one)) {
                return false;
            }
            int such = kind[one] + 1;
            for (int up = 0; up < OVER.length && such >= 0 && such < OVER.length; up++) {
                if (such == taken) {
                    return true;
                }
                such = OVER[such];
            }
            return false;
        }

        boolean goes(int one) {
            return isOne(one) && kind[one] != SAINT;
        }

        private int hand(int one) {
            if (!isOne(one)) {
                return 0;
            }
            return kind[one] == PORTER ? 2 * strength[one] : strength[one];
        }

        private int tallness(int one) {
            return isOne(one) ? height[one] : 0;
        }

        int setAtTop(int[] level) {
            int set = 0;
            for (int one = 0; one < people && one < level.length; one++) {
                if (level[one] == top) {
                    set |= 1 << one;
                }
            }
            return set;
        }

        // -- moves

        boolean canRise(int one, int[] level) {
            return firstHelp(one, level) != NONE;
        }

        boolean canSink(int one, int[] level) {
            if (!goes(one) || !isStep(level[one] - 1)) {
                return false;
            }
            if (sinksAlone(one, level[one] - 1)) {
                return true;
            }
            for (int catcher = 0; catcher < people; catcher++) {
                if (catches(catcher, one, level)) {
                    return true;
                }
            }
            return false;
        }

        /** The first LIFTER and PULLER in one number, or NONE. */
        int firstHelp(int one, int[] level) {
            if (!goes(one) || !isStep(level[one])) {
                return NONE;
            }
            if (risesAlone(one, level[one])) {
                return pairOf(NONE, NONE);
            }
            for (int lifter = NONE; lifter < people; lifter++) {
                boolean lifts = standsFor(lifter, one, 0, level);
                for (int puller = NONE; lifts && puller < people; puller++) {
                    if (standsFor(puller, one, 1, level) && bringUp(one, lifter, puller, level[one])) {
                        return pairOf(lifter, puller);
                    }
                }
            }
            return NONE;
        }

        private static int pairOf(int lifter, int puller) {
            return (lifter + 1) * HELPERS + puller + 1;
        }

        static int lifterOf(int pair) {
            return pair / HELPERS - 1;
        }

        static int pullerOf(int pair) {
            return pair % HELPERS - 1;
        }

        boolean risesBy(int one, int lifter, int puller, int[] level) {
            if (!goes(one) || !isStep(level[one])) {
                return false;
            }
            if (risesAlone(one, level[one])) {
                return lifter == NONE && puller == NONE;
            }
            return standsFor(lifter, one, 0, level) && standsFor(puller, one, 1, level)
                && bringUp(one, lifter, puller, level[one]);
        }

        boolean sinksBy(int one, int catcher, int[] level) {
            if (!goes(one) || !isStep(level[one] - 1)) {
                return false;
            }
            if (sinksAlone(one, level[one] - 1)) {
                return catcher == NONE;
            }
            return catches(catcher, one, level);
        }

        private boolean risesAlone(int one, int step) {
            return height[one] >= stepHeight[step] || rope[step] && strength[one] >= burden[one];
        }

        private boolean sinksAlone(int one, int step) {
            return height[one] >= stepHeight[step] || rope[step];
        }

        /** Whether those two, who stand where they must, are strong and tall enough. */
        private boolean bringUp(int one, int lifter, int puller, int step) {
            return kind[one] != PROUD && hand(lifter) + hand(puller) >= burden[one]
                && height[one] + tallness(lifter) + tallness(puller) / 2 >= stepHeight[step];
        }

        private boolean catches(int catcher, int one, int[] level) {
            return kind[one] != PROUD && standsAt(catcher, one, -1, level)
                && hand(catcher) >= burden[one];
        }

        /** Whether that helper, if there is to be one, stands where he must. */
        private boolean standsFor(int helper, int one, int above, int[] level) {
            return helper == NONE || standsAt(helper, one, above, level);
        }

        private boolean standsAt(int helper, int one, int above, int[] level) {
            return isOne(helper) && helper != one && level[helper] == level[one] + above;
        }
    }

    /** THE TEXT, read line by line to its first FAULT. */
    private static final class Text {
        static final int MAX_LENGTH = 200;
        private static final int MAX_LINES = 12;
        private static final int MAX_NUMBERS = 3;
        private static final int BLANK = 32;
        private static final int BETWEEN_LINES = 59;

        private final int[] signs = new int[MAX_LENGTH];
        int length;
        int lines;
        private int place;
        private final int[] numbers = new int[MAX_NUMBERS];

        void append(int sign) {
            if (length < MAX_LENGTH) {
                signs[length] = sign;
                length++;
            }
        }

        int empty() {
            int had = length;
            length = 0;
            return had;
        }

        /** Does the lines on the draft: the place of the FAULT, or NONE. */
        int read(Told draft) {
            place = 0;
            lines = 0;
            for (int line = 1; line <= MAX_LINES; line++) {
                int fault = readLine(draft);
                if (fault != NONE) {
                    return fault;
                }
                lines = line;
                skipBlanks();
                if (place >= length) {
                    return NONE;
                }
                if (sign() != BETWEEN_LINES) {
                    return place;
                }
                if (line < MAX_LINES) {
                    place++;
                }
            }
            return place;
        }

        private int readLine(Told draft) {
            skipBlanks();
            int begin = place;
            int word = readWord();
            if (!draft.allows(word)) {
                return begin;
            }
            int due = Told.numbersBehind(word);
            for (int k = 0; k < due && k < MAX_NUMBERS; k++) {
                skipBlanks();
                begin = place;
                int number = readNumber();
                if (number < Told.least(word, k) || number > draft.greatest(word, k)) {
                    return begin;
                }
                numbers[k] = number;
            }
            draft.tell(word, numbers[0], numbers[1], numbers[2]);
            return NONE;
        }

        /** The byte at the place; blank at the end. */
        private int sign() {
            return place >= 0 && place < length && place < MAX_LENGTH ? signs[place] : BLANK;
        }

        private void skipBlanks() {
            while (place < length && sign() == BLANK) {
                place++;
            }
        }

        private int readWord() {
            int begin = place;
            while (place < length && sign() >= 'a' && sign() <= 'z') {
                place++;
            }
            for (int word = 0; word < Told.WORDS; word++) {
                if (spells(begin, spelling(word))) {
                    return word;
                }
            }
            return NONE;
        }

        /** The number; NONE, which is out of all bounds, if there is none of 1 or 2 digits. */
        private int readNumber() {
            int begin = place;
            int number = 0;
            while (place < length && sign() >= '0' && sign() <= '9') {
                // Of more digits it does not count; so it cannot grow out of an int.
                number = number % 10 * 10 + sign() - '0';
                place++;
            }
            int digits = place - begin;
            return digits == 1 || digits == 2 ? number : NONE;
        }

        private boolean spells(int begin, String word) {
            if (begin < 0 || place - begin != word.length() || place > MAX_LENGTH) {
                return false;
            }
            for (int i = 0; i < word.length() && begin + i < MAX_LENGTH; i++) {
                if (signs[begin + i] != word.charAt(i)) {
                    return false;
                }
            }
            return true;
        }

        private static String spelling(int word) {
            switch (word) {
                case Told.STAIR: return "stair";
                case Told.STEP: return "step";
                case Told.ROPE: return "rope";
                case Told.LOAD: return "load";
                case Told.AT: return "at";
                case Told.NOBODY: return "nobody";
                case Told.FIRST_KIND + PILGRIM: return "pilgrim";
                case Told.FIRST_KIND + PORTER: return "porter";
                case Told.FIRST_KIND + PROUD: return "proud";
                default: return "saint";
            }
        }
    }

    /** Where all are, how many moves there were, and who helped whom. */
    private static final class Journey {
        final int[] level = new int[MAX_PEOPLE];
        int moves;
        // How often one helped another: rows of those who helped.
        private final int[] helps = new int[MAX_PEOPLE * MAX_PEOPLE];
        // Whether this is one that was kept since the last text.
        boolean holds;

        void begin(int[] start) {
            System.arraycopy(start, 0, level, 0, MAX_PEOPLE);
            moves = 0;
            Arrays.fill(helps, 0);
        }

        void copy(Journey other) {
            System.arraycopy(other.level, 0, level, 0, MAX_PEOPLE);
            moves = other.moves;
            System.arraycopy(other.helps, 0, helps, 0, helps.length);
        }

        private static boolean isPair(int one, int other) {
            return one >= 0 && one < MAX_PEOPLE && other >= 0 && other < MAX_PEOPLE;
        }

        void addHelp(int helper, int one) {
            if (isPair(helper, one)) {
                helps[helper * MAX_PEOPLE + one]++;
            }
        }

        int helpBetween(int helper, int one) {
            return isPair(helper, one) ? helps[helper * MAX_PEOPLE + one] : 0;
        }

        int helpGiven(int helper) {
            int sum = 0;
            for (int one = 0; one < MAX_PEOPLE; one++) {
                sum += helpBetween(helper, one);
            }
            return sum;
        }

        int helpTaken(int one) {
            int sum = 0;
            for (int helper = 0; helper < MAX_PEOPLE; helper++) {
                sum += helpBetween(helper, one);
            }
            return sum;
        }

        int helpInAll() {
            int sum = 0;
            for (int helper = 0; helper < MAX_PEOPLE; helper++) {
                sum += helpGiven(helper);
            }
            return sum;
        }
    }

    /** All POSITIONS that can be, nearest first; of a POSITION the number is its levels to the base 5. */
    private static final class Search {
        private static final int POSITIONS = 3125;
        private static final int BASE = MAX_TOP + 1;
        private static final int[] PLACE_VALUE = {1, 5, 25, 125, 625};

        // By POSITION: how many moves it is away, or NONE, and the one ahead of it.
        private final int[] away = new int[POSITIONS];
        private final int[] ahead = new int[POSITIONS];
        // Those that can be, as they were found.
        private final int[] found = new int[POSITIONS];
        private int reached;
        private int goal;
        private final int[] level = new int[MAX_PEOPLE];

        Search() {
            Arrays.fill(away, NONE);
        }

        /**
         * Tries moves by people's numbers, UP ahead of DOWN: so of several shortest rows to a
         * POSITION the first is found first.
         */
        void look(Told told, int[] start) {
            begin(told, start);
            for (int i = 0; i < reached && i < POSITIONS; i++) {
                int position = found[i];
                int further = awayOf(position) + 1;
                unfold(position);
                for (int one = 0; one < told.people && one < MAX_PEOPLE; one++) {
                    int above = position + PLACE_VALUE[one];
                    if (isNew(above) && told.firstHelp(one, level) != NONE) {
                        reach(above, position, further);
                    }
                    int below = position - PLACE_VALUE[one];
                    if (isNew(below) && told.canSink(one, level)) {
                        reach(below, position, further);
                    }
                }
            }
        }

        private void begin(Told told, int[] start) {
            forget();
            goal = 0;
            int from = 0;
            for (int one = 0; one < told.people && one < MAX_PEOPLE; one++) {
                from += start[one] * PLACE_VALUE[one];
                goal += (told.goes(one) ? told.top : start[one]) * PLACE_VALUE[one];
            }
            reach(from, NONE, 0);
        }

        private void forget() {
            for (int i = 0; i < reached && i < POSITIONS; i++) {
                if (isPosition(found[i])) {
                    away[found[i]] = NONE;
                }
            }
            reached = 0;
        }

        private boolean isNew(int position) {
            return isPosition(position) && away[position] == NONE;
        }

        private void reach(int position, int from, int moves) {
            if (isNew(position) && reached < POSITIONS) {
                away[position] = moves;
                ahead[position] = from;
                found[reached] = position;
                reached++;
            }
        }

        private static boolean isPosition(int position) {
            return position >= 0 && position < POSITIONS;
        }

        private int awayOf(int position) {
            return isPosition(position) ? away[position] : NONE;
        }

        private int aheadOf(int position) {
            return isPosition(position) ? ahead[position] : NONE;
        }

        private void unfold(int position) {
            int rest = position;
            for (int one = 0; one < MAX_PEOPLE; one++) {
                level[one] = rest % BASE;
                rest /= BASE;
            }
        }

        int fewest() {
            return awayOf(goal);
        }

        /** The POSITION behind move i of the first shortest row. */
        private int positionBehind(int i) {
            int position = goal;
            for (int move = fewest() - 1; move > i; move--) {
                position = aheadOf(position);
            }
            return position;
        }

        int mover(int i) {
            int position = positionBehind(i);
            int change = Math.abs(position - aheadOf(position));
            for (int one = 0; one < MAX_PEOPLE; one++) {
                if (change == PLACE_VALUE[one]) {
                    return one;
                }
            }
            return NONE;
        }

        boolean rises(int i) {
            int position = positionBehind(i);
            return position > aheadOf(position);
        }

        /** By bits; as all end at the TOP, the last move is always one UP. */
        int lastMovers(Told told) {
            int fewest = fewest();
            if (fewest <= 0) {
                return fewest;
            }
            int set = 0;
            for (int one = 0; one < told.people && one < MAX_PEOPLE; one++) {
                int position = goal - PLACE_VALUE[one];
                if (told.goes(one) && awayOf(position) == fewest - 1) {
                    unfold(position);
                    if (told.canRise(one, level)) {
                        set |= 1 << one;
                    }
                }
            }
            return set;
        }

        int fullestTop(Told told) {
            int best = 0;
            for (int i = 0; i < reached && i < POSITIONS; i++) {
                unfold(found[i]);
                int set = told.setAtTop(level);
                int more = Integer.bitCount(set) - Integer.bitCount(best);
                if (more > 0 || more == 0 && set < best) {
                    best = set;
                }
            }
            return best;
        }

        int fewestFor(int one, int top) {
            if (one < 0 || one >= MAX_PEOPLE) {
                return NONE;
            }
            for (int i = 0; i < reached && i < POSITIONS; i++) {
                unfold(found[i]);
                if (level[one] == top) {
                    return awayOf(found[i]);
                }
            }
            return NONE;
        }

        int positionsBehind(int moves) {
            int sum = 0;
            for (int i = 0; i < reached && i < POSITIONS; i++) {
                if (awayOf(found[i]) == moves) {
                    sum++;
                }
            }
            return sum;
        }
    }
}
