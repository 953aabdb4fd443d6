/** A river that is called otherwise under each of its bridges, as DOC.md promises. */
public final class BridgeNames {
    public static final int NONE = -1, BAD = -2, NO = -3, FULL = -4;

    private static final int PLACES = 6, KINDS = 6, NUMBERS = 16, PAIRS = 96, MONTHS = 12, ROWS = 4;
    private static final int MOST_BRIDGES = 8, MOST_NOTED = 8, MOST_UNDONE = 8, MOST_TAKEN = 6;
    private static final int MOST_BYTES = 150, BYTES = 128, IMAGES = 2;
    private static final int ALL_SAID = 65535, SEEDS = 1000000, MOST_BOATS = 60;
    private static final int MOST_RENAMED = 60, ODDS = 10, MOST_STAMMERED = 24;
    private static final int NOT_SO_MANY = -5, BAD_TEN = -10, BAD_HUNDRED = -100, FAULT = -10;

    private final River river = new River();
    private final River draft = new River();
    private final River[] images = {new River(), new River()};
    private final boolean[] kept = new boolean[IMAGES];
    private final Reader text = new Reader();
    private final Search search = new Search();
    private final Fraction fraction = new Fraction();
    private final int[] fitting = new int[PAIRS];
    private final long[] outcomes = new long[PAIRS];
    private int bads;
    private int nos;
    private int fulls;

    public BridgeNames() {
    }

    // ---- a river

    public int river(int month) {
        if (!isBelow(month, MONTHS)) {
            return refuseBad(BAD);
        }
        int were = river.bridges;
        river.restart(month);
        return were;
    }

    public int bridge(int a, int b, int kind, int n) {
        if (!isBelow(a, PLACES) || !isBelow(b, PLACES) || a == b || !isRule(kind, n)) {
            return refuseBad(BAD);
        }
        if (river.bridges >= MOST_BRIDGES) {
            return refuseFull();
        }
        return river.build(a, b, kind, n);
    }

    public int rule(int bridge, int kind, int n) {
        if (!isBridge(bridge) || !isRule(kind, n)) {
            return refuseBad(BAD);
        }
        return river.retell(bridge, kind, n);
    }

    public int month(int n) {
        if (n < 1 || n >= MONTHS) {
            return refuseBad(BAD);
        }
        river.letPass(n);
        return river.monthNow;
    }

    public int undo() {
        if (river.undoable <= 0) {
            return refuseNo();
        }
        river.takeBack();
        return river.monthNow;
    }

    public int say(int row, int s) {
        if (!isRow(row) || !isBelow(s, NUMBERS)) {
            return refuseBad(BAD);
        }
        long name = river.rows[row];
        if (Name.length(name) >= Name.MOST) {
            return refuseFull();
        }
        river.rows[row] = Name.longer(name, s);
        return Name.length(river.rows[row]);
    }

    public int hush(int row) {
        if (!isRow(row)) {
            return refuseBad(BAD);
        }
        int had = Name.length(river.rows[row]);
        river.rows[row] = Name.EMPTY;
        return had;
    }

    public int type(int c) {
        if (!isBelow(c, BYTES)) {
            return refuseBad(BAD);
        }
        if (text.length >= MOST_BYTES) {
            return refuseFull();
        }
        text.put(c);
        return text.length;
    }

    public int clear() {
        int had = text.length;
        text.length = 0;
        return had;
    }

    public int read() {
        int items = text.readInto(draft);
        if (items == NONE) {
            return FAULT - text.faultPlace();
        }
        river.copyOf(draft);
        return items;
    }

    public int of(int bridge, int what) {
        if (!isBridge(bridge)) {
            return refuseBad(BAD);
        }
        switch (what) {
            case 0: return river.froms[bridge];
            case 1: return river.tos[bridge];
            case 2: return river.kinds[bridge];
            case 3: return river.numbers[bridge];
            default: return refuseBad(BAD);
        }
    }

    public int at(int row, int i) {
        if (!isRow(row) || i < NONE) {
            return refuseBad(BAD_TEN);
        }
        return lengthOrSyllable(river.rows[row], i);
    }

    // ---- names

    public int called(int row, int a, int b, int i) {
        if (!isRow(row) || !isBridge(a) || !isBridge(b) || i < NONE) {
            return refuseBad(BAD_TEN);
        }
        long name = river.rows[row];
        for (int k = a; k <= b; k++) {
            name = river.behind(k, name);
        }
        return lengthOrSyllable(name, i);
    }

    public int nothing(int row, int a) {
        if (!isRow(row) || !isBridge(a)) {
            return refuseBad(BAD);
        }
        long name = river.rows[row];
        for (int k = a; k < river.bridges; k++) {
            name = river.behind(k, name);
            if (Name.length(name) == 0) {
                return k;
            }
        }
        return NONE;
    }

    public int boat(int row, int says, int a, int b, int what) {
        if (!isRow(row) || says < 0 || says > ALL_SAID || !isBridge(a) || !isBridge(b) || !isBelow(what, 2)) {
            return refuseBad(BAD_TEN);
        }
        long name = river.rows[row];
        int toll = 0;
        int stop = NONE;
        for (int k = a; k <= b && stop == NONE; k++) {
            name = river.behind(k, name);
            if (canSay(says, Name.sounds(name))) {
                toll += Name.length(name);
            } else {
                stop = k;
            }
        }
        return what == 0 ? stop : toll;
    }

    public int way(int row, int from, int to, int i) {
        if (!isRow(row) || !isBelow(from, PLACES) || !isBelow(to, PLACES) || i < NONE) {
            return refuseBad(BAD_TEN);
        }
        search.findWays(river, river.rows[row], from, to);
        if (search.found == 0) {
            return NONE;
        }
        if (i == NONE) {
            return search.bestToll;
        }
        return i < search.bestTaken ? search.best[i] : NOT_SO_MANY;
    }

    public int ways(int row, int from, int to, int what) {
        if (!isRow(row) || !isBelow(from, PLACES) || !isBelow(to, PLACES) || !isBelow(what, 2)) {
            return refuseBad(BAD);
        }
        search.findWays(river, river.rows[row], from, to);
        if (what == 0) {
            return search.found;
        }
        return search.found == 0 ? NONE : search.bestTaken;
    }

    public int curse(int row, int q, int from) {
        if (!isRow(row) || !isRow(q) || !isBelow(from, PLACES)) {
            return refuseBad(BAD);
        }
        return Search.fewestToCurse(river, river.rows[row], river.rows[q], from);
    }

    public int above(int bridge, int row, int what) {
        if (!isBridge(bridge) || !isRow(row) || !isBelow(what, 2)) {
            return refuseBad(BAD_TEN);
        }
        long below = river.rows[row];
        int many = 0;
        int least = NONE;
        // the codes grow just as the names are to be ordered
        for (int code = 0; code <= Name.LAST_CODE; code++) {
            if (Name.isCode(code) && river.behind(bridge, Name.ofCode(code)) == below) {
                many++;
                least = least == NONE ? code : least;
            }
        }
        return what == 0 ? many : least;
    }

    // ---- rules

    public int note(int bridge, int row, int q) {
        if (!isBridge(bridge) || !isRow(row) || !isRow(q)) {
            return refuseBad(BAD);
        }
        if (river.notes.size >= MOST_NOTED) {
            return refuseFull();
        }
        river.notes.put(bridge, river.monthNow, river.rows[row], river.rows[q]);
        return river.notes.size;
    }

    public int forget() {
        int were = river.notes.size;
        river.notes.size = 0;
        return were;
    }

    public int fits(int bridge, int what) {
        if (!isBridge(bridge) || !isBelow(what, 2)) {
            return refuseBad(BAD_TEN);
        }
        int many = collectFitting(bridge);
        if (what == 0) {
            return many;
        }
        return many == 0 ? NONE : fitting[0];
    }

    public int tries(int bridge) {
        if (!isBridge(bridge)) {
            return refuseBad(BAD);
        }
        int many = collectFitting(bridge);
        int best = NONE;
        int fewest = many + 1;
        for (int row = 0; row < ROWS && many > 0; row++) {
            int alike = mostAlike(river.rows[row], many);
            if (alike < fewest) {
                best = row;
                fewest = alike;
            }
        }
        return best;
    }

    public int renamed(int row, int bridge) {
        if (!isRow(row) || !isBridge(bridge)) {
            return refuseBad(BAD);
        }
        long first = river.rows[row];
        long name = first;
        for (int gone = 0; gone < MOST_RENAMED; gone++) {
            int month = (river.monthNow + gone) % MONTHS;
            name = Rules.applied(name, river.kinds[bridge], river.numbers[bridge], month);
            if (name == first) {
                return gone + 1;
            }
        }
        return NONE;
    }

    public int stammer(int row, int bridge, int c, int k) {
        if (!isRow(row) || !isBridge(bridge) || c < 0 || c > ODDS || k < 0 || k > MOST_STAMMERED) {
            return refuseBad(BAD);
        }
        int said = Name.length(river.behind(bridge, river.rows[row]));
        fraction.setChance(said, k - said, c, ODDS);
        return 1;
    }

    public int boats(int row, int seed, int n) {
        if (!isRow(row) || !isFleet(seed, n)) {
            return refuseBad(BAD);
        }
        return boatsSaying(river.allSounds(river.rows[row], 0, 0), seed, n);
    }

    public int flood(int row, int seed, int n, int a, int b) {
        if (!isRow(row) || !isFleet(seed, n) || !isBridge(a) || !isBridge(b)) {
            return refuseBad(BAD_HUNDRED);
        }
        int before = boatsSaying(river.allSounds(river.rows[row], 0, 0), seed, n);
        int after = boatsSaying(river.allSounds(river.rows[row], a, b), seed, n);
        return after - before;
    }

    // ---- what there is

    public long part(int what) {
        switch (what) {
            case 0: return fraction.above;
            case 1: return fraction.below;
            default: return refuseBad(BAD);
        }
    }

    public int image(int i) {
        if (!isBelow(i, IMAGES)) {
            return refuseBad(BAD);
        }
        images[i].copyOf(river);
        kept[i] = true;
        return 1;
    }

    public int from(int i) {
        if (!isBelow(i, IMAGES)) {
            return refuseBad(BAD);
        }
        if (!kept[i]) {
            return refuseNo();
        }
        river.copyOf(images[i]);
        return 1;
    }

    public int status(int what) {
        switch (what) {
            case 0: return bads;
            case 1: return nos;
            case 2: return fulls;
            default: return refuseBad(NONE);
        }
    }

    public int count(int what) {
        switch (what) {
            case 0: return river.bridges;
            case 1: return river.monthNow;
            case 2: return river.notes.size;
            case 3: return river.undoable;
            case 4: return text.length;
            default: return refuseBad(BAD);
        }
    }

    public long digest() {
        long h = 1009;
        for (int what = 0; what < 5; what++) {
            h = mixed(h, count(what));
        }
        for (int k = 0; k < river.bridges; k++) {
            h = mixed(h, river.froms[k]);
            h = mixed(h, river.tos[k]);
            h = mixed(h, river.kinds[k]);
            h = mixed(h, river.numbers[k]);
        }
        for (int row = 0; row < ROWS; row++) {
            h = mixedName(h, river.rows[row]);
        }
        for (int k = 0; k < river.notes.size; k++) {
            h = mixed(h, river.notes.bridgeOf[k]);
            h = mixed(h, river.notes.monthOf[k]);
            h = mixedName(h, river.notes.ahead[k]);
            h = mixedName(h, river.notes.behind[k]);
        }
        return mixed(mixed(h, fraction.above), fraction.below);
    }

    // ---- what the calls share

    private int refuseBad(int answer) {
        bads++;
        return answer;
    }

    private int refuseNo() {
        nos++;
        return NO;
    }

    private int refuseFull() {
        fulls++;
        return FULL;
    }

    private static boolean isBelow(int value, int limit) {
        return value >= 0 && value < limit;
    }

    private static boolean isRow(int row) {
        return isBelow(row, ROWS);
    }

    private static boolean isRule(int kind, int n) {
        return isBelow(kind, KINDS) && isBelow(n, NUMBERS);
    }

    private static boolean isFleet(int seed, int n) {
        return isBelow(seed, SEEDS) && n >= 0 && n <= MOST_BOATS;
    }

    private boolean isBridge(int bridge) {
        return isBelow(bridge, river.bridges);
    }

    private static int lengthOrSyllable(long name, int i) {
        if (i == NONE) {
            return Name.length(name);
        }
        return i < Name.length(name) ? Name.syllable(name, i) : NOT_SO_MANY;
    }

    private static boolean canSay(int says, int sounds) {
        return (sounds & ~says) == 0;
    }

    private static int boatsSaying(int sounds, int seed, int n) {
        long x = seed;
        int many = 0;
        for (int boat = 0; boat < n; boat++) {
            x = (x * 1103515245L + 12345L) % 2147483648L;
            int says = (int) (x / 32768L % 65536L);
            many += canSay(says, sounds) ? 1 : 0;
        }
        return many;
    }

    /** Puts the pairs that fit a bridge into their row, the least first: how many. */
    private int collectFitting(int bridge) {
        int many = 0;
        for (int pair = 0; pair < PAIRS; pair++) {
            if (river.notes.agreeWith(bridge, pair)) {
                fitting[many] = pair;
                many++;
            }
        }
        return many;
    }

    /** Of the pairs that were collected, how many at most make the same of a name. */
    private int mostAlike(long name, int many) {
        int most = 0;
        for (int i = 0; i < many; i++) {
            outcomes[i] = Rules.appliedPair(name, fitting[i], river.monthNow);
            int alike = 0;
            for (int k = 0; k <= i; k++) {
                alike += outcomes[k] == outcomes[i] ? 1 : 0;
            }
            most = Math.max(most, alike);
        }
        return most;
    }

    private static long mixed(long h, long v) {
        return 31 * h + v;
    }

    private static long mixedName(long h, long name) {
        int length = Name.length(name);
        long mix = mixed(h, length);
        for (int i = 0; i < length; i++) {
            mix = mixed(mix, Name.syllable(name, i));
        }
        return mix;
    }

    /**
     * A NAME is one long: how many syllables it has in the lowest four bits, the i-th one in the
     * i-th four bits above them, 0 behind the last. So names are alike just if their longs are,
     * and no call makes an object for a name.
     */
    private static final class Name {
        static final long EMPTY = 0;
        static final int MOST = 12;
        static final int LAST_CODE = 288;
        private static final int CODES = 17;
        private static final int WIDTH = 4;
        private static final long MASK = 15;

        private Name() {
        }

        static int length(long name) {
            return (int) (name & MASK);
        }

        static int syllable(long name, int i) {
            return (int) ((name >>> WIDTH * (i + 1)) & MASK);
        }

        /** With s behind it; a full name stays as it is. */
        static long longer(long name, int s) {
            int had = (int) (name & MASK);
            if (had >= MOST) {
                return name;
            }
            return (name | (long) s << WIDTH * (had + 1)) + 1;
        }

        /** Its first syllables alone, all if it has no more. */
        static long cut(long name, int left) {
            if (left >= (name & MASK)) {
                return name;
            }
            if (left <= 0) {
                return EMPTY;
            }
            long lowest = (1L << WIDTH * (left + 1)) - 1;
            return (name & lowest & ~MASK) + left;
        }

        /** With s ahead of it; of a full name the last syllable is lost. */
        static long led(long name, int s) {
            long rest = cut(name, MOST - 1);
            long moved = (rest & ~MASK) << WIDTH;
            return (moved | (long) s << WIDTH) + length(rest) + 1;
        }

        static long turned(long name) {
            long turned = EMPTY;
            for (int i = length(name) - 1; i >= 0; i--) {
                turned = longer(turned, syllable(name, i));
            }
            return turned;
        }

        static long raised(long name, int n) {
            long raised = EMPTY;
            int length = length(name);
            for (int i = 0; i < length; i++) {
                raised = longer(raised, (syllable(name, i) + n) % NUMBERS);
            }
            return raised;
        }

        /** A bit for each syllable that is in it. */
        static int sounds(long name) {
            int bits = 0;
            int length = length(name);
            for (int i = 0; i < length; i++) {
                bits |= 1 << syllable(name, i);
            }
            return bits;
        }

        static boolean holds(long name, long other) {
            int last = length(name) - length(other);
            for (int i = 0; i <= last; i++) {
                if (isAt(name, i, other)) {
                    return true;
                }
            }
            return false;
        }

        /** The name of no, one or two syllables that ABOVE tells by a number. */
        static long ofCode(int code) {
            if (code <= 0) {
                return EMPTY;
            }
            if (code <= NUMBERS) {
                return longer(EMPTY, code - 1);
            }
            return longer(longer(EMPTY, code / CODES - 1), code % CODES - 1);
        }

        /** Two syllables leave no number whose second part is 0. */
        static boolean isCode(int code) {
            return code == 0 || code % CODES != 0;
        }

        private static boolean isAt(long name, int place, long other) {
            long lowest = (1L << WIDTH * length(other)) - 1;
            return ((name >>> WIDTH * (place + 1)) & lowest) == other >>> WIDTH;
        }
    }

    /** What the kinds make of a name, each by way of the kind that it is under. */
    private static final class Rules {
        private Rules() {
        }

        static long applied(long name, int kind, int n, int month) {
            switch (kind) {
                case 1: return sweet(name, n);
                case 2: return drop(name, n);
                case 3: return turn(name);
                case 4: return twice(name, n);
                case 5: return feast(name, n, month);
                default: return plain(name);
            }
        }

        /** A kind and n told by one number, 16 times the kind and n. */
        static long appliedPair(long name, int pair, int month) {
            return applied(name, pair / NUMBERS, pair % NUMBERS, month);
        }

        private static long plain(long name) {
            return name;
        }

        private static long sweet(long name, int n) {
            return Name.longer(Name.cut(plain(name), Name.MOST - 1), n);
        }

        private static long drop(long name, int n) {
            long under = plain(name);
            return Name.cut(under, Name.length(under) - (n % 3 + 1));
        }

        private static long turn(long name) {
            return Name.turned(plain(name));
        }

        private static long twice(long name, int n) {
            long under = sweet(name, n);
            return Name.led(under, Name.syllable(under, 0));
        }

        private static long feast(long name, int n, int month) {
            boolean isFeast = month % 4 == 0;
            return isFeast ? drop(name, n) : Name.raised(name, n);
        }
    }

    /** All that an image keeps. */
    private static final class River {
        final int[] froms = new int[MOST_BRIDGES];
        final int[] tos = new int[MOST_BRIDGES];
        final int[] kinds = new int[MOST_BRIDGES];
        final int[] numbers = new int[MOST_BRIDGES];
        final long[] rows = new long[ROWS];
        final Notes notes = new Notes();
        int bridges;
        int monthNow;
        int undoable;
        // of what may be undone: the bridge and its rule, or NONE and the month
        private final int[] undoneBridges = new int[MOST_UNDONE];
        private final int[] undoneWere = new int[MOST_UNDONE];

        void restart(int month) {
            for (int row = 0; row < ROWS; row++) {
                rows[row] = Name.EMPTY;
            }
            notes.size = 0;
            bridges = 0;
            monthNow = month;
            undoable = 0;
        }

        void copyOf(River other) {
            System.arraycopy(other.froms, 0, froms, 0, MOST_BRIDGES);
            System.arraycopy(other.tos, 0, tos, 0, MOST_BRIDGES);
            System.arraycopy(other.kinds, 0, kinds, 0, MOST_BRIDGES);
            System.arraycopy(other.numbers, 0, numbers, 0, MOST_BRIDGES);
            System.arraycopy(other.rows, 0, rows, 0, ROWS);
            notes.copyOf(other.notes);
            bridges = other.bridges;
            monthNow = other.monthNow;
            undoable = other.undoable;
            System.arraycopy(other.undoneBridges, 0, undoneBridges, 0, MOST_UNDONE);
            System.arraycopy(other.undoneWere, 0, undoneWere, 0, MOST_UNDONE);
        }

        /** The new bridge's number; NONE if there is no room for one. */
        int build(int a, int b, int kind, int n) {
            if (bridges >= MOST_BRIDGES) {
                return NONE;
            }
            int bridge = bridges;
            froms[bridge] = a;
            tos[bridge] = b;
            kinds[bridge] = kind;
            numbers[bridge] = n;
            bridges++;
            undoable = 0;
            return bridge;
        }

        /** The rule that it was, as one number. */
        int retell(int bridge, int kind, int n) {
            int was = NUMBERS * kinds[bridge] + numbers[bridge];
            remember(bridge, was);
            kinds[bridge] = kind;
            numbers[bridge] = n;
            return was;
        }

        void letPass(int months) {
            remember(NONE, monthNow);
            monthNow = (monthNow + months) % MONTHS;
        }

        void takeBack() {
            if (undoable <= 0) {
                return;
            }
            undoable--;
            int bridge = undoneBridges[undoable];
            int was = undoneWere[undoable];
            if (bridge == NONE) {
                monthNow = was;
            } else {
                kinds[bridge] = was / NUMBERS;
                numbers[bridge] = was % NUMBERS;
            }
        }

        private void remember(int bridge, int was) {
            if (undoable >= MOST_UNDONE) {
                System.arraycopy(undoneBridges, 1, undoneBridges, 0, MOST_UNDONE - 1);
                System.arraycopy(undoneWere, 1, undoneWere, 0, MOST_UNDONE - 1);
                undoable = MOST_UNDONE - 1;
            }
            undoneBridges[undoable] = bridge;
            undoneWere[undoable] = was;
            undoable++;
        }

        long behind(int bridge, long name) {
            return Rules.applied(name, kinds[bridge], numbers[bridge], monthNow);
        }

        /** What is said at any bridge, as bits, with bridges a and b in each other's stead. */
        int allSounds(long first, int a, int b) {
            long name = first;
            int bits = 0;
            for (int k = 0; k < bridges; k++) {
                int bridge = k == a ? b : k == b ? a : k;
                name = behind(bridge, name);
                bits |= Name.sounds(name);
            }
            return bits;
        }
    }

    /** What was seen to become of names at bridges. */
    private static final class Notes {
        final int[] bridgeOf = new int[MOST_NOTED];
        final int[] monthOf = new int[MOST_NOTED];
        final long[] ahead = new long[MOST_NOTED];
        final long[] behind = new long[MOST_NOTED];
        int size;

        void put(int bridge, int month, long nameAhead, long nameBehind) {
            if (size >= MOST_NOTED) {
                return;
            }
            bridgeOf[size] = bridge;
            monthOf[size] = month;
            ahead[size] = nameAhead;
            behind[size] = nameBehind;
            size++;
        }

        void copyOf(Notes other) {
            System.arraycopy(other.bridgeOf, 0, bridgeOf, 0, MOST_NOTED);
            System.arraycopy(other.monthOf, 0, monthOf, 0, MOST_NOTED);
            System.arraycopy(other.ahead, 0, ahead, 0, MOST_NOTED);
            System.arraycopy(other.behind, 0, behind, 0, MOST_NOTED);
            size = other.size;
        }

        boolean agreeWith(int bridge, int pair) {
            for (int k = 0; k < size; k++) {
                if (bridgeOf[k] == bridge && Rules.appliedPair(ahead[k], pair, monthOf[k]) != behind[k]) {
                    return false;
                }
            }
            return true;
        }
    }

    /** Goes all ways from a place, over each bridge once at most. */
    private static final class Search {
        final int[] best = new int[MOST_TAKEN];
        int bestTaken;
        int bestToll;
        int found;
        private final int[] path = new int[MOST_TAKEN];
        private int goal;

        void findWays(River river, long name, int start, int end) {
            goal = end;
            found = 0;
            goOn(river, start, name, 0, 0, 0);
        }

        private void goOn(River river, int place, long name, int gone, int taken, int toll) {
            if (place == goal) {
                arrive(taken, toll);
            }
            if (taken >= MOST_TAKEN) {
                return;
            }
            for (int k = 0; k < river.bridges; k++) {
                if (isOpen(river, k, place, gone)) {
                    path[taken] = k;
                    long next = river.behind(k, name);
                    goOn(river, river.tos[k], next, gone | 1 << k, taken + 1, toll + Name.length(next));
                }
            }
        }

        /** Ways of as many bridges come in the order of their rows, so the first of like ones stays. */
        private void arrive(int taken, int toll) {
            boolean isBetter = toll < bestToll || toll == bestToll && taken < bestTaken;
            if (found == 0 || isBetter) {
                bestToll = toll;
                bestTaken = taken;
                System.arraycopy(path, 0, best, 0, MOST_TAKEN);
            }
            found++;
        }

        static int fewestToCurse(River river, long name, long curse, int start) {
            return fewest(river, start, name, curse, 0, 0);
        }

        private static int fewest(River river, int place, long name, long curse, int gone, int taken) {
            if (Name.holds(name, curse)) {
                return taken;
            }
            int least = NONE;
            if (taken >= MOST_TAKEN) {
                return least;
            }
            for (int k = 0; k < river.bridges; k++) {
                if (isOpen(river, k, place, gone)) {
                    long next = river.behind(k, name);
                    int many = fewest(river, river.tos[k], next, curse, gone | 1 << k, taken + 1);
                    least = many != NONE && (least == NONE || many < least) ? many : least;
                }
            }
            return least;
        }

        private static boolean isOpen(River river, int bridge, int place, int gone) {
            return river.froms[bridge] == place && (gone >> bridge & 1) == 0;
        }
    }

    /** In lowest terms. */
    private static final class Fraction {
        // far above the steps that two numbers up to a million millions need
        private static final int MOST_STEPS = 100;

        long above = 0;
        long below = 1;

        /** The chance that of so many just this many come, each by c of all. */
        void setChance(int many, int come, int c, int all) {
            if (come < 0 || come > many) {
                setLowest(0, 1);
                return;
            }
            long rows = chosen(many, come);
            setLowest(rows * power(c, come) * power(all - c, many - come), power(all, many));
        }

        private void setLowest(long top, long bottom) {
            long common = commonPart(top, bottom);
            if (common < 1) {
                return;
            }
            above = top / common;
            below = bottom / common;
        }

        private static long commonPart(long top, long bottom) {
            long a = top;
            long b = bottom;
            for (int step = 0; step < MOST_STEPS && b != 0; step++) {
                long rest = a % b;
                a = b;
                b = rest;
            }
            return a;
        }

        private static long power(int base, int times) {
            long power = 1;
            for (int i = 0; i < times; i++) {
                power *= base;
            }
            return power;
        }

        private static long chosen(int many, int some) {
            long chosen = 1;
            for (int i = 1; i <= some; i++) {
                chosen = chosen * (many - some + i) / i;
            }
            return chosen;
        }
    }

    /** THE TEXT, and the reading of it, a token at a time. */
    private static final class Reader {
        private static final int END = 0, STOP = 1, NUMBER = 2, RIVER = 3, BRIDGE = 4, ROW = 5, OTHER = 6;

        int length;
        private final int[] bytes = new int[MOST_BYTES];
        private int token;
        private int tokenStart;
        private int tokenEnd;
        private int value;

        void put(int c) {
            if (length < MOST_BYTES) {
                bytes[length] = c;
                length++;
            }
        }

        /** How many items; NONE if there is a fault: then the draft is of no use. */
        int readInto(River draft) {
            tokenEnd = 0;
            step();
            if (!readRiver(draft)) {
                return NONE;
            }
            int items = 1;
            for (int i = 0; i < length && token != END; i++) {
                boolean isRead = token == BRIDGE ? readBridge(draft) : token == ROW && readRow(draft);
                if (!isRead) {
                    return NONE;
                }
                items++;
            }
            return items;
        }

        /** Reading goes no further than the first token that can not stand where it is. */
        int faultPlace() {
            return tokenStart;
        }

        private boolean readRiver(River draft) {
            if (token != RIVER) {
                return false;
            }
            step();
            int month = takeNumber(MONTHS, NONE);
            if (month == NONE) {
                return false;
            }
            draft.restart(month);
            return takeStop();
        }

        private boolean readBridge(River draft) {
            if (draft.bridges >= MOST_BRIDGES) {
                return false;
            }
            step();
            int a = takeNumber(PLACES, NONE);
            int b = a == NONE ? NONE : takeNumber(PLACES, a);
            int kind = b == NONE ? NONE : takeNumber(KINDS, NONE);
            int n = kind == NONE ? NONE : takeNumber(NUMBERS, NONE);
            if (n == NONE) {
                return false;
            }
            draft.build(a, b, kind, n);
            return takeStop();
        }

        private boolean readRow(River draft) {
            step();
            int row = takeNumber(ROWS, NONE);
            if (row == NONE) {
                return false;
            }
            long name = Name.EMPTY;
            for (int i = 0; i < Name.MOST && token == NUMBER; i++) {
                int s = takeNumber(NUMBERS, NONE);
                if (s == NONE) {
                    return false;
                }
                name = Name.longer(name, s);
            }
            draft.rows[row] = name;
            return takeStop();
        }

        /** Goes on only if the token may stand there: else NONE, and the token is the fault. */
        private int takeNumber(int limit, int unlike) {
            if (token != NUMBER || value >= limit || value == unlike) {
                return NONE;
            }
            int taken = value;
            step();
            return taken;
        }

        private boolean takeStop() {
            if (token != STOP) {
                return false;
            }
            step();
            return true;
        }

        private void step() {
            tokenStart = tokenEnd;
            while (tokenStart < length && bytes[tokenStart] == ' ') {
                tokenStart++;
            }
            tokenEnd = tokenStart;
            if (tokenStart >= length) {
                token = END;
            } else if (isLetter(tokenStart)) {
                stepWord();
            } else if (isFigure(tokenStart)) {
                stepNumber();
            } else {
                tokenEnd++;
                token = bytes[tokenStart] == ';' ? STOP : OTHER;
            }
        }

        private void stepWord() {
            while (tokenEnd < length && isLetter(tokenEnd)) {
                tokenEnd++;
            }
            token = isWord("river") ? RIVER : isWord("bridge") ? BRIDGE : isWord("row") ? ROW : OTHER;
        }

        private void stepNumber() {
            value = 0;
            while (tokenEnd < length && isFigure(tokenEnd)) {
                value = tokenEnd - tokenStart < 2 ? 10 * value + bytes[tokenEnd] - '0' : value;
                tokenEnd++;
            }
            token = tokenEnd - tokenStart <= 2 ? NUMBER : OTHER;
        }

        private boolean isWord(String word) {
            if (word.length() != tokenEnd - tokenStart) {
                return false;
            }
            for (int i = 0; i < word.length(); i++) {
                if (bytes[tokenStart + i] != word.charAt(i)) {
                    return false;
                }
            }
            return true;
        }

        private boolean isLetter(int place) {
            return bytes[place] >= 'a' && bytes[place] <= 'z';
        }

        private boolean isFigure(int place) {
            return bytes[place] >= '0' && bytes[place] <= '9';
        }
    }
}
