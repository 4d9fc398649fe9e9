import java.util.Arrays;

/** Spellings that part one way: which words of a table of groups can be read in one way alone. */
public final class OneWaySpell {
    public static final int NONE = -1;

    private static final int OTHER_KIND = -2;
    private static final int TAPE_MOST = 600;
    private static final int FED_AT_ONCE = 20;
    private static final int TAPED_WORD_MOST = 40;
    private static final int BELOW_A = 96;
    private static final int MARK = 27;
    private static final int SIGN_BITS = 5;
    private static final int SIGN_MASK = 31;
    private static final int GROUP_MOST = 14;
    private static final int GROUP_LONGEST = 7;
    private static final int DRAWN_MOST = 5;

    private final byte[] tape;
    private int taped;
    private final Groups groups;
    private final Teller teller;
    private final Word theWord;
    private Tree tree;
    private Tails tailRounds;
    private Twins twins;
    private Reader reader;
    private Speller speller;
    private Census census;
    private Borders edges;
    private Cures cures;

    public OneWaySpell() {
        tape = new byte[TAPE_MOST];
        groups = new Groups();
        teller = new Teller();
        theWord = new Word();
    }

    // ---- the tape and the table

    public int feed(int a, int b, int c, int d, int e) {
        if (taped + FED_AT_ONCE > TAPE_MOST) {
            return NONE;
        }
        put(a);
        put(b);
        put(c);
        put(d);
        put(e);
        return taped;
    }

    public int end(int n) {
        if (n < 0 || n > taped) {
            return NONE;
        }
        taped = n;
        return n;
    }

    public int table() {
        teller.tell(tape, taped);
        taped = 0;
        if (teller.wrong != 0) {
            return NONE;
        }
        groups.takeTold(teller);
        theWord.clear();
        return groups.count;
    }

    public int fault(int what) {
        if (what == 0) {
            return teller.wrong;
        }
        return what == 1 ? teller.wrongAt : NONE;
    }

    public int group(int k, int what) {
        if (!groups.has(k)) {
            return NONE;
        }
        switch (what) {
            case 0:
                return groups.sound[k];
            case 1:
                return groups.length[k];
            case 2:
                return groups.isIn(k) ? 0 : 1;
            default:
                return what < 10 ? NONE : shown(groups.code[k], groups.length[k], what - 10);
        }
    }

    public int about(int what) {
        switch (what) {
            case 0:
                return groups.soundCount;
            case 1:
                return groups.count;
            case 2:
                return groups.in;
            case 3:
                return groups.unlikeLetters();
            case 4:
                return theWord.size;
            case 5:
                return groups.actCount;
            case 6:
                return taped;
            case 7:
                return groups.noneBeginsAnother() ? 1 : 0;
            case 8:
                return groups.noneEndsAnother() ? 1 : 0;
            default:
                return NONE;
        }
    }

    public int meets(int a, int b) {
        return groups.has(a) && groups.has(b) ? groups.overlap(a, b) : NONE;
    }

    // ---- whether it parts

    public int parts() {
        return freshTails().doubtRound == NONE ? 1 : 0;
    }

    public int tails(int round) {
        Tails t = freshTails();
        return round == NONE ? t.rounds : t.sizeOf(round);
    }

    public int tail(int round, int k, int i) {
        Tails t = freshTails();
        int at = t.indexOf(round, k);
        return at == NONE ? NONE : shown(t.code[at], t.length[at], i);
    }

    public int doubt() {
        return freshTails().doubtRound;
    }

    public int witness() {
        if (twins == null) {
            twins = new Twins();
        }
        if (!twins.find(freshTree())) {
            return NONE;
        }
        twins.copyTo(theWord);
        return theWord.size;
    }

    public int look() {
        return freshTails().lookAhead(groups);
    }

    public long share(int what) {
        if (what != 0 && what != 1) {
            return NONE;
        }
        int base = groups.unlikeLetters();
        long upper = 0;
        for (int k = 0; k < groups.count; k++) {
            if (groups.isIn(k)) {
                upper += power(base, GROUP_LONGEST - groups.length[k]);
            }
        }
        long lower = power(base, GROUP_LONGEST);
        long common = commonDivisor(lower, upper);
        if (common < 1) {
            return NONE;
        }
        return (what == 0 ? upper : lower) / common;
    }

    // ---- THE WORD

    public int word() {
        int n = taped;
        taped = 0;
        if (n > TAPED_WORD_MOST) {
            return NONE;
        }
        for (int i = 0; i < n; i++) {
            if (tape[i] <= BELOW_A || tape[i] > BELOW_A + MARK) {
                return NONE;
            }
        }
        theWord.clear();
        for (int i = 0; i < n; i++) {
            theWord.add(tape[i] - BELOW_A);
        }
        return n;
    }

    public int letter(int i) {
        return i >= 0 && i < theWord.size ? theWord.sign[i] + BELOW_A : NONE;
    }

    public long readings() {
        theWord.countWays(groups);
        return theWord.ways[0];
    }

    public int reading(int i, int k) {
        return theWord.groupOfReading(groups, i, k);
    }

    public int sounds() {
        return theWord.unlikeSoundRows(groups);
    }

    public int reads(int kind) {
        return Reader.isKind(kind) ? theReader().countTaken(theWord, groups, kind) : OTHER_KIND;
    }

    public int took(int kind, int k) {
        return Reader.isKind(kind) ? theReader().takenAt(theWord, groups, kind, k) : NONE;
    }

    public int fool(int kind) {
        if (!Reader.isKind(kind)) {
            return OTHER_KIND;
        }
        Reader r = theReader();
        if (!r.findFool(groups, kind)) {
            return NONE;
        }
        r.copyTo(theWord);
        return theWord.size;
    }

    public int goes() {
        return theWord.longestBeginning(groups);
    }

    public int spell(int a, int b, int c, int d) {
        if (speller == null) {
            speller = new Speller();
        }
        if (!speller.ask(groups, a, b, c, d) || !speller.search(groups)) {
            return NONE;
        }
        speller.copyTo(groups, theWord);
        return theWord.size;
    }

    public int drawn(int seed, int n) {
        int choices = Integer.bitCount(groups.in);
        if (choices < 1 || n < 1 || n > DRAWN_MOST) {
            return NONE;
        }
        theWord.clear();
        int s = seed;
        for (int i = 0; i < n; i++) {
            s = s * 1103515245 + 12345;
            int k = groups.inByNumber((s >>> 16) % choices);
            if (k != NONE) {
                theWord.addRow(groups.code[k], groups.length[k]);
            }
        }
        return theWord.size;
    }

    // ---- words of each length

    public long words(int n, int what) {
        if (n < 0 || n > Census.LONGEST || what < 0 || what > 2) {
            return NONE;
        }
        return freshCensus().amount(n, what);
    }

    public boolean nth(int n, long k) {
        if (n < 0 || n > Census.LONGEST || k < 0) {
            return false;
        }
        return freshCensus().bringTo(theWord, n, k);
    }

    public long place() {
        return theWord.size > Census.LONGEST ? NONE : freshCensus().rankOf(theWord);
    }

    // ---- BORDERS

    public int borders(int n) {
        return n < 1 || n > Borders.LONGEST ? NONE : freshBorders().sizeOf(n);
    }

    public int border(int n, int k, int i) {
        Borders b = freshBorders();
        int at = b.indexOf(n, k);
        return at == NONE ? NONE : shown(b.codeAt(at), n, i);
    }

    // ---- CURES

    public int cure(int way) {
        return theCures().fewest(groups, way);
    }

    public int mend(int way) {
        int mask = theCures().fewest(groups, way);
        if (mask <= 0) {
            return NONE;
        }
        groups.act(way, mask);
        return Integer.bitCount(mask);
    }

    public boolean out(int k, boolean is) {
        if (!groups.has(k) || groups.isIn(k) != is) {
            return false;
        }
        groups.act(Groups.LEFT_OUT, 1 << k);
        return true;
    }

    public boolean undo() {
        return groups.takeBackAct();
    }

    // ---- what is kept till the table changes

    private Tree freshTree() {
        if (tree == null) {
            tree = new Tree();
        }
        if (tree.stamp != groups.stamp) {
            tree.build(groups);
        }
        return tree;
    }

    private Tails freshTails() {
        if (tailRounds == null) {
            tailRounds = new Tails();
        }
        if (tailRounds.stamp != groups.stamp) {
            tailRounds.build(groups, false);
        }
        return tailRounds;
    }

    private Census freshCensus() {
        if (census == null) {
            census = new Census();
        }
        if (census.stamp != groups.stamp) {
            census.build(freshTree(), groups.stamp);
        }
        return census;
    }

    private Borders freshBorders() {
        if (edges == null) {
            edges = new Borders();
        }
        if (edges.stamp != groups.stamp) {
            edges.build(freshTree(), groups.stamp);
        }
        return edges;
    }

    private Reader theReader() {
        if (reader == null) {
            reader = new Reader();
        }
        return reader;
    }

    private Cures theCures() {
        if (cures == null) {
            cures = new Cures();
        }
        return cures;
    }

    private void put(int number) {
        for (int shift = 24; shift >= 0 && taped < TAPE_MOST; shift -= 8) {
            tape[taped] = (byte) (number >>> shift);
            taped++;
        }
    }

    // ---- numbers

    private static long power(long base, int exponent) {
        long p = 1;
        for (int i = 0; i < exponent; i++) {
            p *= base;
        }
        return p;
    }

    private static long commonDivisor(long a, long b) {
        // a hundred steps are more than any two longs need
        for (int i = 0; i < 100 && b != 0; i++) {
            long r = a % b;
            a = b;
            b = r;
        }
        return a;
    }

    /** LANGUAGE.md lets Arrays.fill go over numbers alone. */
    private static void lower(boolean[] flags, int count) {
        for (int i = 0; i < count && i < flags.length; i++) {
            flags[i] = false;
        }
    }

    // ---- rows of up to 7 letters in one long: 5 bits a letter (1 .. 27), the last one lowest.
    // No letter is 0, so unlike rows have unlike numbers, whatever their lengths.

    private static boolean begins(long a, int an, long b, int bn) {
        return an <= bn && b >>> SIGN_BITS * (bn - an) == a;
    }

    private static boolean ends(long a, int an, long b, int bn) {
        return an <= bn && lastOf(b, an) == a;
    }

    private static long lastOf(long a, int n) {
        return a & (1L << SIGN_BITS * n) - 1;
    }

    private static int signOf(long a, int n, int i) {
        return i < 0 || i >= n ? 0 : (int) (a >>> SIGN_BITS * (n - 1 - i)) & SIGN_MASK;
    }

    private static int shown(long a, int n, int i) {
        return i < 0 || i >= n ? NONE : signOf(a, n, i) + BELOW_A;
    }

    /** Beginning at the left, so that numbers compare as rows do in a dictionary. */
    private static long flushLeft(long a, int n) {
        return a << SIGN_BITS * (GROUP_LONGEST - n);
    }

    private static int commonLetters(long a, int an, long b, int bn) {
        int most = Math.min(an, bn);
        int n = 0;
        while (n < most && signOf(a, an, n) == signOf(b, bn, n)) {
            n++;
        }
        return n;
    }

    /** The groups of the table, which are in, and the acts that can be undone. */
    private static final class Groups {
        // ways of a cure; the third one, 0, marks behind
        private static final int MARK_AHEAD = 1;
        private static final int LEFT_OUT = 2;
        private static final int ACTS_KEPT = 12;

        private final long[] code = new long[GROUP_MOST];
        private final int[] length = new int[GROUP_MOST];
        private final int[] sound = new int[GROUP_MOST];
        private int count;
        private int soundCount;
        private int in;
        /** Rises with each change, so that others see that what they keep is old. */
        private int stamp;
        private final int[] actWay = new int[ACTS_KEPT];
        private final int[] actMask = new int[ACTS_KEPT];
        private int actCount;

        private boolean has(int k) {
            return k >= 0 && k < count;
        }

        private boolean isIn(int k) {
            return has(k) && (in >>> k & 1) == 1;
        }

        private void takeTold(Teller told) {
            count = told.groupCount;
            soundCount = told.nameCount;
            System.arraycopy(told.code, 0, code, 0, count);
            System.arraycopy(told.length, 0, length, 0, count);
            System.arraycopy(told.sound, 0, sound, 0, count);
            in = (1 << count) - 1;
            actCount = 0;
            stamp++;
        }

        private void copyFrom(Groups other) {
            count = other.count;
            System.arraycopy(other.code, 0, code, 0, count);
            System.arraycopy(other.length, 0, length, 0, count);
            in = other.in;
            stamp++;
        }

        private void act(int way, int mask) {
            if (actCount >= ACTS_KEPT) {
                System.arraycopy(actWay, 1, actWay, 0, ACTS_KEPT - 1);
                System.arraycopy(actMask, 1, actMask, 0, ACTS_KEPT - 1);
                actCount = ACTS_KEPT - 1;
            }
            actWay[actCount] = way;
            actMask[actCount] = mask;
            actCount++;
            change(way, mask);
        }

        private boolean takeBackAct() {
            if (actCount < 1) {
                return false;
            }
            actCount--;
            int way = actWay[actCount];
            int mask = actMask[actCount];
            if (way == LEFT_OUT) {
                change(way, mask);
            } else {
                unmark(way, mask);
            }
            return true;
        }

        private void change(int way, int mask) {
            stamp++;
            if (way == LEFT_OUT) {
                in ^= mask;
                return;
            }
            for (int k = 0; k < count; k++) {
                if ((mask >>> k & 1) == 1 && length[k] < GROUP_LONGEST) {
                    code[k] = way == MARK_AHEAD
                            ? (long) MARK << SIGN_BITS * length[k] | code[k]
                            : code[k] << SIGN_BITS | MARK;
                    length[k]++;
                }
            }
        }

        private void unmark(int way, int mask) {
            stamp++;
            for (int k = 0; k < count; k++) {
                if ((mask >>> k & 1) == 1 && length[k] > 1) {
                    length[k]--;
                    code[k] = way == MARK_AHEAD ? lastOf(code[k], length[k]) : code[k] >>> SIGN_BITS;
                }
            }
        }

        private int unlikeLetters() {
            int seen = 0;
            for (int k = 0; k < count; k++) {
                for (int i = 0; i < length[k] && isIn(k); i++) {
                    seen |= 1 << signOf(code[k], length[k], i);
                }
            }
            return Math.max(2, Integer.bitCount(seen));
        }

        private boolean groupBegins(int a, int b) {
            return begins(code[a], length[a], code[b], length[b]);
        }

        private boolean noneBeginsAnother() {
            for (int a = 0; a < count; a++) {
                for (int b = 0; b < count; b++) {
                    if (a != b && isIn(a) && isIn(b) && groupBegins(a, b)) {
                        return false;
                    }
                }
            }
            return true;
        }

        private boolean noneEndsAnother() {
            for (int a = 0; a < count; a++) {
                for (int b = 0; b < count; b++) {
                    if (a != b && isIn(a) && isIn(b) && ends(code[a], length[a], code[b], length[b])) {
                        return false;
                    }
                }
            }
            return true;
        }

        private int overlap(int a, int b) {
            for (int n = Math.min(length[a], length[b]) - 1; n > 0; n--) {
                if (begins(lastOf(code[a], n), n, code[b], length[b])) {
                    return n;
                }
            }
            return 0;
        }

        /** The number of the i-th group that is in. */
        private int inByNumber(int i) {
            int left = i;
            for (int k = 0; k < count; k++) {
                if (isIn(k)) {
                    if (left == 0) {
                        return k;
                    }
                    left--;
                }
            }
            return NONE;
        }
    }

    /** Reads a text as a table, up to its first fault. */
    private static final class Teller {
        private static final int NAME_MOST = 10;
        private static final int ROW_LONGEST = 6;
        private static final int AT_LINE = 0;
        private static final int AT_NAME = 1;
        private static final int AT_EQUALS = 2;
        private static final int AT_GROUP = 3;
        private static final int AT_MORE = 4;
        private static final int NO_TOKEN = 1;
        private static final int OUT_OF_PLACE = 2;
        private static final int TOLD_ALREADY = 3;
        private static final int TOO_MANY = 4;
        /** The row s o u n d, which are the letters 19, 15, 21, 14 and 4. */
        private static final long SOUND = 19L << 20 | 15 << 15 | 21 << 10 | 14 << 5 | 4;

        private final long[] name = new long[NAME_MOST];
        private int nameCount;
        private final long[] code = new long[GROUP_MOST];
        private final int[] length = new int[GROUP_MOST];
        private final int[] sound = new int[GROUP_MOST];
        private int groupCount;
        private int state;
        private int wrong;
        private int wrongAt = NONE;

        private void tell(byte[] text, int size) {
            nameCount = 0;
            groupCount = 0;
            state = AT_LINE;
            wrong = 0;
            wrongAt = NONE;
            int at = 0;
            while (at < size && wrong == 0) {
                int stop = rowStop(text, at, size);
                if (stop > at) {
                    takeRow(rowCode(text, at, stop), stop - at);
                } else if (text[at] != ' ' && text[at] != '\n') {
                    takeSign(text[at]);
                }
                if (wrong != 0) {
                    wrongAt = at;
                }
                at = Math.max(stop, at + 1);
            }
            if (wrong == 0 && state != AT_LINE) {
                wrong = OUT_OF_PLACE;
                wrongAt = size;
            }
        }

        private static int rowStop(byte[] text, int at, int size) {
            int stop = at;
            while (stop < size && text[stop] >= 'a' && text[stop] <= 'z') {
                stop++;
            }
            return stop;
        }

        /** A long row is wrong wherever it stands, and is told by its length, so its code is free. */
        private static long rowCode(byte[] text, int at, int stop) {
            long row = 0;
            for (int i = at; i < stop; i++) {
                row = row << SIGN_BITS | text[i] - BELOW_A;
            }
            return row;
        }

        private void takeRow(long row, int n) {
            boolean isSound = n == 5 && row == SOUND;
            if (state == AT_LINE) {
                takeLine(isSound);
            } else if (n > ROW_LONGEST) {
                wrong = OUT_OF_PLACE;
            } else if (state == AT_NAME) {
                takeName(row, isSound);
            } else if (state == AT_GROUP) {
                takeGroup(row, n);
            } else {
                wrong = OUT_OF_PLACE;
            }
        }

        private void takeLine(boolean isSound) {
            if (!isSound) {
                wrong = OUT_OF_PLACE;
            } else if (nameCount >= NAME_MOST) {
                wrong = TOO_MANY;
            } else {
                state = AT_NAME;
            }
        }

        private void takeName(long row, boolean isSound) {
            if (isSound) {
                wrong = OUT_OF_PLACE;
                return;
            }
            for (int i = 0; i < nameCount; i++) {
                if (name[i] == row) {
                    wrong = TOLD_ALREADY;
                }
            }
            if (wrong == 0 && nameCount < NAME_MOST) {
                name[nameCount] = row;
                nameCount++;
                state = AT_EQUALS;
            }
        }

        private void takeGroup(long row, int n) {
            for (int i = 0; i < groupCount; i++) {
                if (code[i] == row) {
                    wrong = TOLD_ALREADY;
                    return;
                }
            }
            if (groupCount >= GROUP_MOST) {
                wrong = TOO_MANY;
                return;
            }
            code[groupCount] = row;
            length[groupCount] = n;
            sound[groupCount] = nameCount - 1;
            groupCount++;
            state = AT_MORE;
        }

        private void takeSign(int sign) {
            if (sign != '=' && sign != '|' && sign != ';') {
                wrong = NO_TOKEN;
            } else if (sign == '=' && state == AT_EQUALS) {
                state = AT_GROUP;
            } else if (sign == '|' && state == AT_MORE) {
                state = AT_GROUP;
            } else if (sign == ';' && state == AT_MORE) {
                state = AT_LINE;
            } else {
                wrong = OUT_OF_PLACE;
            }
        }
    }

    /** THE WORD and its readings. */
    private static final class Word {
        /** Far above a witness, which passes through each of some 400 pairs of nodes once at most. */
        private static final int MOST = 800;
        private static final long HIGHEST = -1L >>> 1;

        private final byte[] sign = new byte[MOST];
        private int size;
        /** How many readings what stands from a place on has. */
        private final long[] ways = new long[MOST + 1];
        private final boolean[] reached = new boolean[MOST + 1];
        /** How many readings are still to be passed by on the way to one. */
        private long toPass;

        private void clear() {
            size = 0;
        }

        private void add(int s) {
            if (size < MOST) {
                sign[size] = (byte) s;
                size++;
            }
        }

        private void addRow(long code, int n) {
            for (int i = 0; i < n; i++) {
                add(signOf(code, n, i));
            }
        }

        /** How many letters of a row stand from a place on. */
        private int standing(long code, int n, int at) {
            int i = 0;
            while (i < n && at + i < size && sign[at + i] == signOf(code, n, i)) {
                i++;
            }
            return i;
        }

        private boolean fits(Groups g, int k, int at) {
            return g.isIn(k) && standing(g.code[k], g.length[k], at) == g.length[k];
        }

        private void countWays(Groups g) {
            ways[size] = 1;
            for (int at = size - 1; at >= 0; at--) {
                long sum = 0;
                for (int k = 0; k < g.count; k++) {
                    if (fits(g, k, at)) {
                        sum = sumWithoutWrap(sum, ways[at + g.length[k]]);
                    }
                }
                ways[at] = sum;
            }
        }

        private static long sumWithoutWrap(long a, long b) {
            return a > HIGHEST - b ? HIGHEST : a + b;
        }

        private int groupOfReading(Groups g, int i, int k) {
            countWays(g);
            if (i < 0 || k < 0 || i >= ways[0]) {
                return NONE;
            }
            toPass = i;
            int at = 0;
            for (int step = 0; step <= k && at < size; step++) {
                int taken = groupToward(g, at);
                if (taken == NONE || step == k) {
                    return taken;
                }
                at += g.length[taken];
            }
            return NONE;
        }

        /** The group at a place in the reading that comes behind toPass others from there. */
        private int groupToward(Groups g, int at) {
            for (int k = 0; k < g.count; k++) {
                if (fits(g, k, at)) {
                    long through = ways[at + g.length[k]];
                    if (toPass < through) {
                        return k;
                    }
                    toPass -= through;
                }
            }
            return NONE;
        }

        private int unlikeSoundRows(Groups g) {
            countWays(g);
            if (ways[0] < 2) {
                return (int) ways[0];
            }
            int first = 0;
            int second = 0;
            long secondToPass = 1;
            for (int step = 0; step < size && first < size && second < size; step++) {
                toPass = 0;
                int a = groupToward(g, first);
                toPass = secondToPass;
                int b = groupToward(g, second);
                secondToPass = toPass;
                if (a == NONE || b == NONE || g.sound[a] != g.sound[b]) {
                    return 2;
                }
                first += g.length[a];
                second += g.length[b];
            }
            return first == second ? 1 : 2;
        }

        private int longestBeginning(Groups g) {
            lower(reached, size + 1);
            reached[0] = true;
            int best = 0;
            for (int at = 0; at < size; at++) {
                for (int k = 0; k < g.count && reached[at]; k++) {
                    if (g.isIn(k)) {
                        int n = standing(g.code[k], g.length[k], at);
                        best = Math.max(best, at + n);
                        if (n == g.length[k]) {
                            reached[at + n] = true;
                        }
                    }
                }
            }
            return best;
        }
    }

    /** The beginnings of the groups that are in, as a tree of letters; node 0 is the root. */
    private static final class Tree {
        private static final int NODE_MOST = GROUP_MOST * GROUP_LONGEST + 1;
        private static final int SIGNS = MARK + 1;
        private static final int DEPTHS = GROUP_LONGEST + 1;

        private final int[] child = new int[NODE_MOST * SIGNS];
        /** The node of the last d letters of a node, NONE if there is none. */
        private final int[] suffix = new int[NODE_MOST * DEPTHS];
        private final int[] depth = new int[NODE_MOST];
        private final boolean[] whole = new boolean[NODE_MOST];
        private final boolean[] inner = new boolean[NODE_MOST];
        private final int[] parent = new int[NODE_MOST];
        private final int[] lastSign = new int[NODE_MOST];
        /** All nodes but the root, by their last signs; where each sign's nodes begin. */
        private final int[] bySign = new int[NODE_MOST];
        private final int[] signStart = new int[SIGNS + 1];
        private int size;
        private int stamp = NONE;

        private void build(Groups g) {
            stamp = g.stamp;
            Arrays.fill(child, NONE);
            Arrays.fill(suffix, NONE);
            lower(whole, NODE_MOST);
            lower(inner, NODE_MOST);
            size = 1;
            suffix[0] = 0;
            for (int k = 0; k < g.count; k++) {
                if (g.isIn(k)) {
                    plant(g.code[k], g.length[k]);
                }
            }
            for (int w = 1; w < size; w++) {
                linkSuffixes(w);
            }
            listBySign();
        }

        private void plant(long code, int n) {
            int u = 0;
            for (int i = 0; i < n; i++) {
                int s = signOf(code, n, i);
                inner[u] = true;
                int w = child[u * SIGNS + s];
                if (w == NONE && size < NODE_MOST) {
                    w = size;
                    size++;
                    child[u * SIGNS + s] = w;
                    depth[w] = depth[u] + 1;
                    parent[w] = u;
                    lastSign[w] = s;
                }
                if (w == NONE) {
                    return;
                }
                u = w;
            }
            whole[u] = true;
        }

        /** A node's number is above its parent's, so the parent's suffixes stand when they are asked for. */
        private void linkSuffixes(int w) {
            suffix[w * DEPTHS] = 0;
            for (int d = 1; d <= depth[w] && d < DEPTHS; d++) {
                suffix[w * DEPTHS + d] = next(back(parent[w], d - 1), lastSign[w]);
            }
        }

        private void listBySign() {
            int n = 0;
            for (int s = 0; s < SIGNS; s++) {
                signStart[s] = n;
                for (int w = 1; w < size; w++) {
                    if (lastSign[w] == s) {
                        bySign[n] = w;
                        n++;
                    }
                }
            }
            signStart[SIGNS] = n;
        }

        private boolean isUsed(int s) {
            return s >= 1 && s < SIGNS && signStart[s] < signStart[s + 1];
        }

        private int next(int u, int s) {
            return u < 0 || u >= size || s < 1 || s >= SIGNS ? NONE : child[u * SIGNS + s];
        }

        private int back(int u, int d) {
            return u < 0 || u >= size || d < 0 || d >= DEPTHS ? NONE : suffix[u * DEPTHS + d];
        }
    }

    /** The tails that dangle, round by round, and how far one must look ahead. */
    private static final class Tails {
        private static final int MOST = GROUP_MOST * GROUP_LONGEST;

        private final long[] code = new long[MOST];
        private final int[] length = new int[MOST];
        /** The groups that a tail has come from. */
        private final int[] from = new int[MOST];
        private int size;
        /** Where a round's tails begin, and behind the last round where they stop. */
        private final int[] start = new int[MOST + 2];
        private int rounds;
        private int doubtRound = NONE;
        /** The groups that bring up doubt, whatever the others are. */
        private int clash;
        private int stamp = NONE;
        private final int[] deep = new int[MOST];
        private final int[] gain = new int[MOST * GROUP_MOST];
        private final int[] leadsTo = new int[MOST * GROUP_MOST];

        private void build(Groups g, boolean onlyToDoubt) {
            stamp = g.stamp;
            size = 0;
            rounds = 0;
            doubtRound = NONE;
            clash = 0;
            start[1] = 0;
            addFirstRound(g);
            for (int r = 1; r <= MOST && size > start[r]; r++) {
                rounds = r;
                start[r + 1] = size;
                sortAsInDictionary(start[r], size);
                if (doubtRound == NONE) {
                    seekDoubt(g, r);
                }
                if (onlyToDoubt && doubtRound != NONE) {
                    return;
                }
                addNextRound(g, start[r], start[r + 1]);
            }
        }

        private void addFirstRound(Groups g) {
            for (int a = 0; a < g.count; a++) {
                for (int b = 0; b < g.count; b++) {
                    if (a != b && g.isIn(a) && g.isIn(b) && g.groupBegins(a, b)) {
                        add(g.code[b], g.length[b] - g.length[a], 1 << a | 1 << b);
                    }
                }
            }
        }

        private void addNextRound(Groups g, int first, int stop) {
            for (int t = first; t < stop; t++) {
                for (int k = 0; k < g.count; k++) {
                    if (g.isIn(k)) {
                        int mask = from[t] | 1 << k;
                        if (begins(code[t], length[t], g.code[k], g.length[k])) {
                            add(g.code[k], g.length[k] - length[t], mask);
                        } else if (begins(g.code[k], g.length[k], code[t], length[t])) {
                            add(code[t], length[t] - g.length[k], mask);
                        }
                    }
                }
            }
        }

        /** The last n letters of a row are a tail, if they are any, and new. */
        private void add(long row, int n, int mask) {
            if (n < 1 || size >= MOST) {
                return;
            }
            long rest = lastOf(row, n);
            if (find(rest) != NONE) {
                return;
            }
            code[size] = rest;
            length[size] = n;
            from[size] = mask;
            size++;
        }

        private int find(long row) {
            for (int t = 0; t < size; t++) {
                if (code[t] == row) {
                    return t;
                }
            }
            return NONE;
        }

        private void sortAsInDictionary(int first, int stop) {
            for (int i = first + 1; i < stop; i++) {
                long c = code[i];
                int n = length[i];
                int f = from[i];
                int j = i - 1;
                while (j >= first && flushLeft(code[j], length[j]) > flushLeft(c, n)) {
                    code[j + 1] = code[j];
                    length[j + 1] = length[j];
                    from[j + 1] = from[j];
                    j--;
                }
                code[j + 1] = c;
                length[j + 1] = n;
                from[j + 1] = f;
            }
        }

        private void seekDoubt(Groups g, int round) {
            for (int t = start[round]; t < size; t++) {
                for (int k = 0; k < g.count; k++) {
                    if (g.isIn(k) && g.code[k] == code[t]) {
                        doubtRound = round;
                        clash = from[t] | 1 << k;
                        return;
                    }
                }
            }
        }

        private int sizeOf(int round) {
            return round < 1 || round > rounds ? 0 : start[round + 1] - start[round];
        }

        private int indexOf(int round, int k) {
            return k < 0 || k >= sizeOf(round) ? NONE : start[round] + k;
        }

        private int lookAhead(Groups g) {
            if (doubtRound != NONE) {
                return NONE;
            }
            prepareSteps(g);
            boolean moved = true;
            // what still moves behind so many passes goes round and round
            for (int pass = 0; pass < size + 2 && moved; pass++) {
                moved = deepen(g.count);
            }
            if (moved) {
                return NONE;
            }
            int best = 0;
            for (int a = 0; a < g.count; a++) {
                for (int b = 0; b < g.count; b++) {
                    if (a != b && g.isIn(a) && g.isIn(b)) {
                        best = Math.max(best, inCommon(g, a, b));
                    }
                }
            }
            return best;
        }

        private int inCommon(Groups g, int a, int b) {
            int n = commonLetters(g.code[a], g.length[a], g.code[b], g.length[b]);
            if (n < g.length[a]) {
                return n;
            }
            int t = find(lastOf(g.code[b], g.length[b] - n));
            return t == NONE ? n : n + deep[t];
        }

        private void prepareSteps(Groups g) {
            for (int t = 0; t < size; t++) {
                deep[t] = 0;
                for (int k = 0; k < g.count; k++) {
                    int at = t * GROUP_MOST + k;
                    gain[at] = 0;
                    leadsTo[at] = NONE;
                    if (g.isIn(k)) {
                        int n = commonLetters(code[t], length[t], g.code[k], g.length[k]);
                        gain[at] = n;
                        if (n == length[t]) {
                            leadsTo[at] = find(lastOf(g.code[k], g.length[k] - n));
                        } else if (n == g.length[k]) {
                            leadsTo[at] = find(lastOf(code[t], length[t] - n));
                        }
                    }
                }
            }
        }

        private boolean deepen(int groupCount) {
            boolean moved = false;
            for (int t = 0; t < size; t++) {
                for (int k = 0; k < groupCount; k++) {
                    int at = t * GROUP_MOST + k;
                    int to = leadsTo[at];
                    int d = to == NONE ? gain[at] : gain[at] + deep[to];
                    if (d > deep[t]) {
                        deep[t] = d;
                        moved = true;
                    }
                }
            }
            return moved;
        }
    }

    /**
     * Seeks the witness letter by letter. Two readings of one beginning stand at nodes of which one
     * is the end of the other: a state is the longer one's node and how many letters the other has.
     * As long as both are one, these are as many.
     */
    private static final class Twins {
        private static final int STATES = Tree.NODE_MOST * Tree.DEPTHS;

        private final boolean[] met = new boolean[STATES];
        private final int[] state = new int[STATES];
        private final int[] parent = new int[STATES];
        private final byte[] sign = new byte[STATES];
        /** States with one number have been reached by one beginning. */
        private final int[] beginning = new int[STATES];
        private int size;
        private int beginnings;
        private int last;
        private int lastSign;
        private final byte[] found = new byte[Word.MOST];

        private boolean find(Tree t) {
            lower(met, STATES);
            size = 0;
            beginnings = 0;
            push(0, 0, NONE, 0);
            int first = 0;
            while (first < size && first < STATES) {
                int stop = first + 1;
                while (stop < size && beginning[stop] == beginning[first]) {
                    stop++;
                }
                if (goOn(t, first, stop)) {
                    return true;
                }
                first = stop;
            }
            return false;
        }

        /** Beginnings come by length, and of one length as in a dictionary, so the first that closes twice is due. */
        private boolean goOn(Tree t, int first, int stop) {
            for (int s = 1; s <= MARK; s++) {
                beginnings++;
                for (int e = first; e < stop && t.isUsed(s); e++) {
                    if (step(t, e, s)) {
                        last = e;
                        lastSign = s;
                        return true;
                    }
                }
            }
            return false;
        }

        private boolean step(Tree t, int e, int s) {
            int u = state[e] / Tree.DEPTHS;
            int d = state[e] % Tree.DEPTHS;
            int w = t.next(u, s);
            int x = t.next(t.back(u, d), s);
            if (w == NONE || x == NONE) {
                return false;
            }
            if (w == x) {
                if (t.inner[w]) {
                    push(w, t.depth[w], e, s);
                }
                if (t.inner[w] && t.whole[w]) {
                    push(w, 0, e, s);
                }
                return false;
            }
            if (t.inner[w] && t.inner[x]) {
                push(w, t.depth[x], e, s);
            }
            if (t.inner[w] && t.whole[x]) {
                push(w, 0, e, s);
            }
            if (t.whole[w] && t.inner[x]) {
                push(x, 0, e, s);
            }
            return t.whole[w] && t.whole[x];
        }

        private void push(int u, int d, int from, int s) {
            int at = u * Tree.DEPTHS + d;
            if (at < 0 || at >= STATES || size >= STATES || met[at]) {
                return;
            }
            met[at] = true;
            state[size] = at;
            parent[size] = from;
            sign[size] = (byte) s;
            beginning[size] = beginnings;
            size++;
        }

        private void copyTo(Word word) {
            int n = found.length - 1;
            found[n] = (byte) lastSign;
            int e = last;
            // the first state stands for the empty beginning
            while (n > 0 && e > 0) {
                n--;
                found[n] = sign[e];
                e = parent[e];
            }
            word.clear();
            for (int i = n; i < found.length; i++) {
                word.add(found[i]);
            }
        }
    }

    /** Readers that never go back, and the shortest word that each gets wrong. */
    private static final class Reader {
        private static final int BY_LONGEST = 0;
        private static final int BY_SHORTEST = 1;
        private static final int BY_NUMBER = 2;
        private static final int FOOL_MOST = 2 * GROUP_LONGEST;

        private final byte[] best = new byte[FOOL_MOST];
        private int bestSize;
        private final byte[] trial = new byte[FOOL_MOST];
        private int trialSize;
        private final boolean[] covered = new boolean[GROUP_LONGEST + 1];

        private static boolean isKind(int kind) {
            return kind >= BY_LONGEST && kind <= BY_NUMBER;
        }

        private static boolean prefers(Groups g, int kind, int b, int a) {
            if (kind == BY_LONGEST) {
                return g.length[b] > g.length[a];
            }
            return kind == BY_SHORTEST ? g.length[b] < g.length[a] : b < a;
        }

        private static int choose(Word word, Groups g, int kind, int at) {
            int chosen = NONE;
            for (int k = 0; k < g.count; k++) {
                if (word.fits(g, k, at) && (chosen == NONE || prefers(g, kind, k, chosen))) {
                    chosen = k;
                }
            }
            return chosen;
        }

        private int countTaken(Word word, Groups g, int kind) {
            int at = 0;
            int n = 0;
            while (n < word.size && at < word.size) {
                int k = choose(word, g, kind, at);
                if (k == NONE) {
                    return NONE;
                }
                at += g.length[k];
                n++;
            }
            return n;
        }

        private int takenAt(Word word, Groups g, int kind, int wanted) {
            int at = 0;
            for (int n = 0; n <= wanted && at < word.size; n++) {
                int k = choose(word, g, kind, at);
                if (k == NONE || n == wanted) {
                    return k;
                }
                at += g.length[k];
            }
            return NONE;
        }

        /**
         * In the shortest word the reader goes wrong with its first group (else that could be left
         * out): the row begins with a, and b, which the reader likes better, fits there too.
         */
        private boolean findFool(Groups g, int kind) {
            bestSize = 0;
            for (int a = 0; a < g.count; a++) {
                for (int b = 0; b < g.count; b++) {
                    if (a != b && g.isIn(a) && g.isIn(b) && prefers(g, kind, b, a)) {
                        if (g.groupBegins(b, a)) {
                            startTrial(g, a);
                            keepBetter();
                        } else if (g.groupBegins(a, b)) {
                            coverRest(g, a, b);
                        }
                    }
                }
            }
            return bestSize > 0;
        }

        private void startTrial(Groups g, int k) {
            trialSize = g.length[k];
            for (int i = 0; i < trialSize; i++) {
                trial[i] = (byte) signOf(g.code[k], g.length[k], i);
            }
        }

        /** Rows that begin with a and reach b's end or beyond it, as letters of b go. */
        private void coverRest(Groups g, int a, int b) {
            int size = g.length[b];
            lower(covered, covered.length);
            covered[g.length[a]] = true;
            for (int at = g.length[a]; at < size; at++) {
                for (int k = 0; k < g.count && covered[at]; k++) {
                    if (g.isIn(k)) {
                        coverWith(g, b, k, at);
                    }
                }
            }
        }

        private void coverWith(Groups g, int b, int k, int at) {
            int size = g.length[b];
            int n = g.length[k];
            int inside = Math.min(n, size - at);
            long rest = lastOf(g.code[b], size - at);
            if (commonLetters(rest, size - at, g.code[k], n) < inside) {
                return;
            }
            if (at + n < size) {
                covered[at + n] = true;
                return;
            }
            startTrial(g, b);
            for (int i = inside; i < n && trialSize < FOOL_MOST; i++) {
                trial[trialSize] = (byte) signOf(g.code[k], n, i);
                trialSize++;
            }
            keepBetter();
        }

        private void keepBetter() {
            if (bestSize == 0 || trialSize < bestSize || trialSize == bestSize && trialIsEarlier()) {
                System.arraycopy(trial, 0, best, 0, trialSize);
                bestSize = trialSize;
            }
        }

        private boolean trialIsEarlier() {
            for (int i = 0; i < trialSize; i++) {
                if (trial[i] != best[i]) {
                    return trial[i] < best[i];
                }
            }
            return false;
        }

        private void copyTo(Word word) {
            word.clear();
            for (int i = 0; i < bestSize; i++) {
                word.add(best[i]);
            }
        }
    }

    /** Seeks the shortest word with just one reading for a row of sounds. */
    private static final class Speller {
        private static final int SOUND_MOST = 4;
        private static final int LETTER_MOST = SOUND_MOST * GROUP_LONGEST;

        private final int[] asked = new int[SOUND_MOST];
        private int askedCount;
        /** How many letters the sounds from one on need at least. */
        private final int[] atLeast = new int[SOUND_MOST + 1];
        private final int[] row = new int[SOUND_MOST];
        private final int[] best = new int[SOUND_MOST];
        private int bestSize;
        /** How many readings a beginning has: 0, 1, or 2 for more. */
        private final int[] ways = new int[LETTER_MOST + 1];

        private boolean ask(Groups g, int a, int b, int c, int d) {
            asked[0] = a;
            asked[1] = b;
            asked[2] = c;
            asked[3] = d;
            askedCount = 0;
            for (int i = 0; i < SOUND_MOST; i++) {
                if (asked[i] != NONE) {
                    if (i > askedCount || asked[i] < 0 || asked[i] >= g.soundCount) {
                        return false;
                    }
                    askedCount++;
                }
            }
            return askedCount > 0;
        }

        private boolean search(Groups g) {
            atLeast[askedCount] = 0;
            for (int i = askedCount - 1; i >= 0; i--) {
                int n = shortestOf(g, asked[i]);
                if (n == NONE) {
                    return false;
                }
                atLeast[i] = atLeast[i + 1] + n;
            }
            bestSize = LETTER_MOST + 1;
            ways[0] = 1;
            goOn(g, 0, 0, 0);
            return bestSize <= LETTER_MOST;
        }

        private static int shortestOf(Groups g, int sound) {
            int n = NONE;
            for (int k = 0; k < g.count; k++) {
                if (g.isIn(k) && g.sound[k] == sound && (n == NONE || g.length[k] < n)) {
                    n = g.length[k];
                }
            }
            return n;
        }

        /** Rows come in their order, so of words of one length the first one stays. */
        private void goOn(Groups g, int depth, int size, long behind) {
            if (depth >= askedCount || depth >= SOUND_MOST) {
                bestSize = size;
                System.arraycopy(row, 0, best, 0, askedCount);
                return;
            }
            for (int k = 0; k < g.count; k++) {
                int grown = size + g.length[k];
                if (g.isIn(k) && g.sound[k] == asked[depth] && grown + atLeast[depth + 1] < bestSize) {
                    long all = countNew(g, k, size, behind);
                    // two readings of a beginning stay two of the word
                    if (ways[grown] == 1) {
                        row[depth] = k;
                        goOn(g, depth + 1, grown, all);
                    }
                }
            }
        }

        /** Counts the readings up to each letter of one more group; answers the last seven letters. */
        private long countNew(Groups g, int added, int size, long behind) {
            int n = g.length[added];
            long seen = behind;
            for (int i = 0; i < n && size + i < LETTER_MOST; i++) {
                int at = size + i + 1;
                seen = lastOf(seen << SIGN_BITS | signOf(g.code[added], n, i), GROUP_LONGEST);
                int sum = 0;
                for (int k = 0; k < g.count; k++) {
                    if (g.isIn(k) && g.length[k] <= at && lastOf(seen, g.length[k]) == g.code[k]) {
                        sum += ways[at - g.length[k]];
                    }
                }
                ways[at] = Math.min(2, sum);
            }
            return seen;
        }

        private void copyTo(Groups g, Word word) {
            word.clear();
            for (int i = 0; i < askedCount; i++) {
                word.addRow(g.code[best[i]], g.length[best[i]]);
            }
        }
    }

    /**
     * Counts words by a machine that reads any word letter by letter and knows of each beginning of
     * a group that may be open how many readings (0, 1, 2 for more) stand ahead of it. Open ones
     * all are ends of the longest, so a state's key is that one's node and a number for each depth.
     */
    private static final class Census {
        private static final int LONGEST = 10;
        private static final int ROW = LONGEST + 1;
        private static final int DEPTH_MOST = GROUP_LONGEST - 1;
        private static final int KEY_BITS = 2 * GROUP_LONGEST;
        private static final int STATES_AT_FIRST = 64;
        /** Above 85 inner nodes times 3 to the 6 numbers of readings; some 500 are the most that have been seen. */
        private static final int STATES_MOST = 1 << 17;
        private static final int SPREAD = 0x9E3779B1;

        private int[] key = new int[STATES_AT_FIRST];
        /** How many letters lead to a state at least. */
        private int[] level = new int[STATES_AT_FIRST];
        /** How many words of m more letters a state lets be read; just once. */
        private long[] some = new long[STATES_AT_FIRST * ROW];
        private long[] once = new long[STATES_AT_FIRST * ROW];
        private int states;
        private int[] slot = new int[4 * STATES_AT_FIRST];
        private int[] firstEdge = new int[STATES_AT_FIRST + 1];
        private byte[] edgeSign = new byte[4 * STATES_AT_FIRST];
        private int[] edgeTo = new int[4 * STATES_AT_FIRST];
        private int edgeCount;
        private int stamp = NONE;

        private void build(Tree t, int newStamp) {
            stamp = newStamp;
            states = 0;
            edgeCount = 0;
            Arrays.fill(slot, 0);
            stateOf(1, 0);
            for (int s = 0; s < states && s < STATES_MOST; s++) {
                firstEdge[s] = edgeCount;
                for (int sign = 1; sign <= MARK && level[s] < LONGEST; sign++) {
                    int to = t.isUsed(sign) ? keyBehind(t, key[s], sign) : 0;
                    if (to != 0) {
                        addEdge(sign, stateOf(to, level[s] + 1));
                    }
                }
                firstEdge[s + 1] = edgeCount;
            }
            for (int m = 0; m <= LONGEST; m++) {
                for (int s = 0; s < states; s++) {
                    if (level[s] + m <= LONGEST) {
                        countFrom(s, m);
                    }
                }
            }
        }

        private static int keyBehind(Tree t, int from, int sign) {
            int u = from >>> KEY_BITS;
            int deepest = 0;
            int counts = 0;
            int closed = 0;
            for (int d = 0; d <= DEPTH_MOST; d++) {
                int n = from >>> 2 * d & 3;
                int w = n == 0 ? NONE : t.next(t.back(u, d), sign);
                if (w != NONE && t.whole[w]) {
                    closed = Math.min(2, closed + n);
                }
                if (w != NONE && t.inner[w] && d < DEPTH_MOST) {
                    counts |= n << 2 * (d + 1);
                    deepest = w;
                }
            }
            return deepest << KEY_BITS | counts | closed;
        }

        private int stateOf(int wanted, int newLevel) {
            int mask = slot.length - 1;
            int at = wanted * SPREAD >>> 8 & mask;
            for (int i = 0; i <= mask && slot[at] != 0; i++) {
                if (key[slot[at] - 1] == wanted) {
                    return slot[at] - 1;
                }
                at = at + 1 & mask;
            }
            if (states >= key.length) {
                growStates();
            }
            key[states] = wanted;
            level[states] = newLevel;
            states++;
            slot[at] = states;
            if (4 * states > 3 * slot.length) {
                growSlots();
            }
            return states - 1;
        }

        private void growStates() {
            int n = 2 * key.length;
            key = Arrays.copyOf(key, n);
            level = Arrays.copyOf(level, n);
            firstEdge = Arrays.copyOf(firstEdge, n + 1);
            // these are counted when all states are known
            some = new long[n * ROW];
            once = new long[n * ROW];
        }

        private void growSlots() {
            slot = new int[2 * slot.length];
            int mask = slot.length - 1;
            for (int s = 0; s < states; s++) {
                int at = key[s] * SPREAD >>> 8 & mask;
                for (int i = 0; i <= mask && slot[at] != 0; i++) {
                    at = at + 1 & mask;
                }
                slot[at] = s + 1;
            }
        }

        private void addEdge(int sign, int to) {
            if (edgeCount >= edgeTo.length) {
                edgeTo = Arrays.copyOf(edgeTo, 2 * edgeTo.length);
                edgeSign = Arrays.copyOf(edgeSign, 2 * edgeSign.length);
            }
            edgeSign[edgeCount] = (byte) sign;
            edgeTo[edgeCount] = to;
            edgeCount++;
        }

        private void countFrom(int s, int m) {
            int at = s * ROW + m;
            if (m == 0) {
                int closed = key[s] & 3;
                some[at] = closed > 0 ? 1 : 0;
                once[at] = closed == 1 ? 1 : 0;
                return;
            }
            some[at] = 0;
            once[at] = 0;
            for (int e = firstEdge[s]; e < firstEdge[s + 1]; e++) {
                some[at] += some[edgeTo[e] * ROW + m - 1];
                once[at] += once[edgeTo[e] * ROW + m - 1];
            }
        }

        private long amount(int n, int what) {
            if (n < 0 || n > LONGEST) {
                return NONE;
            }
            if (what == 0) {
                return some[n];
            }
            return what == 1 ? once[n] : some[n] - once[n];
        }

        private boolean bringTo(Word word, int n, long k) {
            if (n < 0 || n > LONGEST || k < 0 || k >= some[n]) {
                return false;
            }
            word.clear();
            int s = 0;
            long left = k;
            for (int m = n - 1; m >= 0; m--) {
                int e = firstEdge[s];
                while (e < firstEdge[s + 1] && left >= some[edgeTo[e] * ROW + m]) {
                    left -= some[edgeTo[e] * ROW + m];
                    e++;
                }
                if (e >= firstEdge[s + 1]) {
                    return false;
                }
                word.add(edgeSign[e]);
                s = edgeTo[e];
            }
            return true;
        }

        private long rankOf(Word word) {
            int s = 0;
            long rank = 0;
            for (int i = 0; i < word.size && i < LONGEST; i++) {
                int m = word.size - 1 - i;
                int e = firstEdge[s];
                while (e < firstEdge[s + 1] && edgeSign[e] < word.sign[i]) {
                    rank += some[edgeTo[e] * ROW + m];
                    e++;
                }
                if (e >= firstEdge[s + 1] || edgeSign[e] != word.sign[i]) {
                    return NONE;
                }
                s = edgeTo[e];
            }
            return some[s * ROW] > 0 ? rank : NONE;
        }
    }

    /**
     * Finds the least borders, from their last letters on. A row is passed node by node, from any
     * node where a reading may stand ahead of it; it is a border if no way through it ends inside a group.
     */
    private static final class Borders {
        private static final int LONGEST = 4;
        private static final int SIZE_SHIFT = LONGEST * SIGN_BITS;
        private static final int CODE_MASK = (1 << SIZE_SHIFT) - 1;

        private static final int HALF = 64;

        /** For rows of n letters at 2 * n: from which nodes a way ends anywhere; inside a group (bits of two longs). */
        private final long[] passes = new long[2 * (LONGEST + 1)];
        private final long[] endsInside = new long[2 * (LONGEST + 1)];
        /** Each a border's size above its letters, so that they come by size and as in a dictionary. */
        private int[] list = new int[64];
        private int size;
        private final int[] start = new int[LONGEST + 2];
        private int stamp = NONE;

        private void build(Tree t, int newStamp) {
            stamp = newStamp;
            size = 0;
            clear(0);
            for (int u = 0; u < t.size; u++) {
                if (u == 0 || t.inner[u]) {
                    put(passes, 0, u);
                }
                if (u != 0 && t.inner[u]) {
                    put(endsInside, 0, u);
                }
            }
            lengthen(t, 0, 0);
            sort();
            findStarts();
        }

        private void clear(int n) {
            passes[2 * n] = 0;
            passes[2 * n + 1] = 0;
            endsInside[2 * n] = 0;
            endsInside[2 * n + 1] = 0;
        }

        private static void put(long[] set, int n, int u) {
            set[2 * n + u / HALF] |= 1L << u % HALF;
        }

        private static boolean has(long[] set, int n, int u) {
            return (set[2 * n + u / HALF] >>> u % HALF & 1) == 1;
        }

        private static boolean isEmpty(long[] set, int n) {
            return (set[2 * n] | set[2 * n + 1]) == 0;
        }

        private void lengthen(Tree t, int n, int row) {
            if (n >= LONGEST) {
                return;
            }
            for (int s = 1; s <= MARK; s++) {
                putAhead(t, n, s);
                int longer = s << SIGN_BITS * n | row;
                if (!isEmpty(endsInside, n + 1)) {
                    lengthen(t, n + 1, longer);
                } else if (!isEmpty(passes, n + 1)) {
                    keep(n + 1 << SIZE_SHIFT | longer);
                }
            }
        }

        private void putAhead(Tree t, int n, int s) {
            clear(n + 1);
            for (int i = t.signStart[s]; i < t.signStart[s + 1]; i++) {
                int w = t.bySign[i];
                if (t.inner[w] && has(passes, n, w) || t.whole[w] && has(passes, n, 0)) {
                    put(passes, n + 1, t.parent[w]);
                }
                if (t.inner[w] && has(endsInside, n, w) || t.whole[w] && has(endsInside, n, 0)) {
                    put(endsInside, n + 1, t.parent[w]);
                }
            }
        }

        private void keep(int entry) {
            if (size >= list.length) {
                list = Arrays.copyOf(list, 2 * list.length);
            }
            list[size] = entry;
            size++;
        }

        private void sort() {
            for (int gap = size / 2; gap > 0; gap /= 2) {
                for (int i = gap; i < size; i++) {
                    int entry = list[i];
                    int j = i - gap;
                    while (j >= 0 && list[j] > entry) {
                        list[j + gap] = list[j];
                        j -= gap;
                    }
                    list[j + gap] = entry;
                }
            }
        }

        private void findStarts() {
            int at = 0;
            for (int n = 1; n <= LONGEST; n++) {
                start[n] = at;
                while (at < size && list[at] >>> SIZE_SHIFT == n) {
                    at++;
                }
            }
            start[LONGEST + 1] = at;
        }

        private int sizeOf(int n) {
            return n < 1 || n > LONGEST ? 0 : start[n + 1] - start[n];
        }

        private int indexOf(int n, int k) {
            return k < 0 || k >= sizeOf(n) ? NONE : start[n] + k;
        }

        private long codeAt(int at) {
            return at < 0 || at >= size ? 0 : list[at] & CODE_MASK;
        }
    }

    /** Seeks the fewest groups to be marked, or left out. */
    private static final class Cures {
        private static final int LENGTH_MOST = 6;
        private static final int WAYS = 3;
        private static final int LEARNT_MOST = 1024;

        private final Groups trial = new Groups();
        private final Tails tails = new Tails();
        private final int[] answer = new int[WAYS];
        private final int[] answerStamp = {NONE, NONE, NONE};
        private final int[] number = new int[GROUP_MOST];
        private int numbers;
        private int choosable;
        private final int[] chosen = new int[GROUP_MOST];
        /** Groups that clash, and which of them were chosen: as long as just these are, they clash. */
        private final int[] clash = new int[LEARNT_MOST];
        private final int[] clashChosen = new int[LEARNT_MOST];
        private int learnt;
        private boolean hopeless;

        private int fewest(Groups g, int way) {
            if (way < 0 || way >= WAYS) {
                return NONE;
            }
            if (answerStamp[way] == g.stamp) {
                return answer[way];
            }
            learnt = 0;
            hopeless = false;
            findChoosable(g);
            int found = NONE;
            for (int size = 0; size <= numbers && found == NONE && !hopeless; size++) {
                found = searchOfSize(g, way, size);
            }
            answer[way] = found;
            answerStamp[way] = g.stamp;
            return found;
        }

        private void findChoosable(Groups g) {
            numbers = 0;
            choosable = 0;
            for (int k = 0; k < g.count; k++) {
                if (g.isIn(k) && g.length[k] <= LENGTH_MOST) {
                    number[numbers] = k;
                    numbers++;
                    choosable |= 1 << k;
                }
            }
        }

        private int searchOfSize(Groups g, int way, int size) {
            for (int i = 0; i < size; i++) {
                chosen[i] = i;
            }
            boolean more = true;
            for (int i = 0; i < 1 << GROUP_MOST && more && !hopeless; i++) {
                int mask = chosenMask(size);
                if (!isRefuted(mask) && heals(g, way, mask)) {
                    return mask;
                }
                more = chooseNext(size);
            }
            return NONE;
        }

        private int chosenMask(int size) {
            int mask = 0;
            for (int i = 0; i < size; i++) {
                mask |= 1 << number[chosen[i]];
            }
            return mask;
        }

        private boolean chooseNext(int size) {
            int i = size - 1;
            while (i >= 0 && chosen[i] >= numbers - size + i) {
                i--;
            }
            if (i < 0) {
                return false;
            }
            chosen[i]++;
            for (int j = i + 1; j < size; j++) {
                chosen[j] = chosen[j - 1] + 1;
            }
            return true;
        }

        private boolean isRefuted(int mask) {
            for (int i = 0; i < learnt; i++) {
                if ((mask & clash[i]) == clashChosen[i]) {
                    return true;
                }
            }
            return false;
        }

        private boolean heals(Groups g, int way, int mask) {
            trial.copyFrom(g);
            trial.change(way, mask);
            tails.build(trial, true);
            if (tails.doubtRound == NONE) {
                return true;
            }
            int clashing = tails.clash & choosable;
            hopeless = clashing == 0;
            if (learnt < LEARNT_MOST) {
                clash[learnt] = clashing;
                clashChosen[learnt] = mask & clashing;
                learnt++;
            }
            return false;
        }
    }
}
