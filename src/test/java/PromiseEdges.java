import java.util.function.Supplier;
import java.util.function.ToLongFunction;

/** Of each promise the numbers at its edges and just outside them, and what it answers at its limits. */
final class PromiseEdges {
    private static final int PLAIN = Rivers.PLAIN, SWEET = Rivers.SWEET, DROP = Rivers.DROP, TURN = Rivers.TURN;
    private static final int DOUBLE = Rivers.DOUBLE, FEAST = Rivers.FEAST, LEAST = Rivers.LEAST, MOST = Rivers.MOST;
    private static final int[] MONTH = {0, 11}, PLACE = {0, 5}, KIND = {0, 5}, N = {0, 15}, ROW = {0, 3}, WHAT = {0, 1};
    private static final int[] INDEX = {-1, MOST}, SEED = {0, 999999}, FLEET = {0, 60};
    /** Those of a busy river. */
    private static final int[] BRIDGE = {0, 3};

    private final Sentences s;

    /** A call with its numbers in a row. */
    private interface Asked {
        long on(BridgeNames x, int[] numbers);
    }

    private PromiseEdges(Sentences s) {
        this.s = s;
    }

    static void all(Sentences s) {
        PromiseEdges t = new PromiseEdges(s);
        t.aRiver();
        t.names();
        t.rules();
        t.whatThereIs();
    }

    private void aRiver() {
        s.promises(1, "BridgeNames()", "As told; no BRIDGES.", this::newObject);
        s.promises(2, "int river(int month)", "A MONTH, all else as at first (but for IMAGES, THE TEXT, THE FRACTION, "
            + "STATUS): how many BRIDGES there were. BAD.", this::river);
        s.promises(3, "int bridge(int a, int b, int kind, int n)", "A BRIDGE: its number. BAD: PLACES alike, too; FULL: 8.",
            this::bridge);
        s.promises(4, "int rule(int bridge, int kind, int n)",
            "A BRIDGE's RULE is told anew: 16 times the KIND and n that it was. BAD.", this::rule);
        s.promises(5, "int month(int n)", "n MONTHS go by (1 .. 11; together one that may be undone): the MONTH. BAD.",
            this::month);
        s.promises(6, "int undo()", "UNDO: the MONTH then. NO: none may be.", this::undo);
        s.promises(7, "int say(int row, int s)", "A SYLLABLE comes behind a ROW: how many it has. BAD; FULL: 12.",
            this::say);
        s.promises(8, "int hush(int row)", "A ROW is empty: how many it had. BAD.", this::hush);
        s.promises(9, "int type(int c)", "A byte (0 .. 127) comes behind THE TEXT: how many it has. BAD; FULL.", this::type);
        s.promises(10, "int clear()", "THE TEXT is empty: how many it had.", this::clear);
        s.promises(11, "int read()", "THE RIVER is read: how many ITEMS. -10 less the FAULT: all stays.", this::read);
        s.promises(12, "int of(int bridge, int what)", "Of a BRIDGE: from (0), to (1), KIND (2), n (3). BAD.", this::of);
        s.promises(13, "int at(int row, int i)",
            "Of a ROW: how many SYLLABLES (i = NONE), the i-th. -5: not so many. BAD: -10.", this::at);
    }

    private void names() {
        s.promises(14, "int called(int row, int a, int b, int i)",
            "CALLED: how many (i = NONE), the i-th. -5: not so many. BAD: -10.", this::called);
        s.promises(15, "int nothing(int row, int a)", "NOTHING. NONE. BAD.", this::nothing);
        s.promises(16, "int boat(int row, int says, int a, int b, int what)",
            "A BOAT: the first BRIDGE (0; NONE), TOLL (1). BAD: -10.", this::boat);
        s.promises(17, "int way(int row, int from, int to, int i)",
            "WAYS: TOLL (i = NONE), else the i-th BRIDGE. -5: not so many. NONE: none. BAD: -10.", this::way);
        s.promises(18, "int ways(int row, int from, int to, int what)",
            "HOW MANY WAYS (0), how many BRIDGES the best has (1; NONE). BAD.", this::ways);
        s.promises(19, "int curse(int row, int q, int from)", "CURSE. NONE. BAD.", this::curse);
        s.promises(20, "int above(int bridge, int row, int what)",
            "ABOVE: how many (0), the least (1; NONE). BAD: -10.", this::above);
    }

    private void rules() {
        s.promises(21, "int note(int bridge, int row, int q)", "NOTED: how many there are. BAD; FULL: 8.", this::note);
        s.promises(22, "int forget()", "No NOTED: how many there were.", this::forget);
        s.promises(23, "int fits(int bridge, int what)", "FITS: how many (0), the first (1; NONE). BAD: -10.", this::fits);
        s.promises(24, "int tries(int bridge)", "TRY. NONE. BAD.", this::tries);
        s.promises(25, "int renamed(int row, int bridge)", "RENAMED. NONE. BAD.", this::renamed);
        s.promises(26, "int stammer(int row, int bridge, int c, int k)", "STAMMER is THE FRACTION: 1. BAD.", this::stammer);
        s.promises(27, "int boats(int row, int seed, int n)", "BOATS. BAD.", this::boats);
        s.promises(28, "int flood(int row, int seed, int n, int a, int b)", "FLOOD (it may be below 0). BAD: -100.",
            this::flood);
    }

    private void whatThereIs() {
        s.promises(29, "long part(int what)", "THE FRACTION: above (0), below (1). BAD.", this::part);
        s.promises(30, "int image(int i)", "An IMAGE is kept: 1. BAD.", this::image);
        s.promises(31, "int from(int i)", "It goes on from an IMAGE: 1. BAD; NO: none was kept.", this::from);
        s.promises(32, "int status(int what)", "STATUS: BAD (0), NO (1), FULL (2). -1: another what (counts as BAD).",
            this::status);
        s.promises(33, "int count(int what)",
            "How many: 0 BRIDGES, 1 the MONTH, 2 NOTED, 3 that may be undone, 4 bytes of THE TEXT. BAD.", this::count);
        s.promises(34, "long digest()", "h = 1009; then h = 31 h + v for each v: count(0) to count(4); of BRIDGES from, to, "
            + "KIND, n; of ROWS how many SYLLABLES, and these; of NOTED the BRIDGE, the MONTH, of both NAMES how many "
            + "SYLLABLES, and these; THE FRACTION.", this::digest);
    }

    /** In a busy river each number in turn is at its edges, then just outside and far away; the others are fine. */
    private void edges(String call, Asked asked, long bad, int[] fine, int[]... ranges) {
        for (int p = 0; p < ranges.length; p++) {
            for (int value : ranges[p]) {
                int[] numbers = with(fine, p, value);
                BridgeNames x = Rivers.busy();
                asked.on(x, numbers);
                s.is(told(call, numbers) + " is not refused", x.status(0) + x.status(1) + x.status(2), 0);
            }
            int least = ranges[p][0];
            int most = ranges[p][1];
            // at the ends of int these go round to the other end, which is inside then or far away
            for (int value : new int[] {least - 1, most + 1, LEAST, MOST}) {
                if (value < least || value > most) {
                    refusedAnywhere(call, asked, bad, with(fine, p, value));
                }
            }
        }
    }

    private void refusedAnywhere(String call, Asked asked, long bad, int[] numbers) {
        s.bad(told(call, numbers), Rivers::busy, x -> asked.on(x, numbers), bad);
        s.bad(told(call, numbers) + ", new", Rivers::fresh, x -> asked.on(x, numbers), bad);
    }

    private static int[] with(int[] fine, int place, int value) {
        int[] numbers = fine.clone();
        numbers[place] = value;
        return numbers;
    }

    private static String told(String call, int[] numbers) {
        StringBuilder told = new StringBuilder(call).append('(');
        for (int i = 0; i < numbers.length; i++) {
            told.append(i == 0 ? "" : ", ").append(numbers[i]);
        }
        return told.append(')').toString();
    }

    /** Where there are no bridges, or no 8th one, that one is refused. */
    private void bridgesThatAreNot(String call, long bad, ToLongFunction<BridgeNames> first,
            ToLongFunction<BridgeNames> eighth) {
        Supplier<BridgeNames> gone = () -> {
            BridgeNames x = Rivers.busy();
            x.river(0);
            return x;
        };
        s.bad(call + ": bridge 0 of none", Rivers::fresh, first, bad);
        s.bad(call + ": bridge 0 behind river", gone, first, bad);
        s.bad(call + ": bridge 7 of 7", () -> Rivers.plain(7), eighth, bad);
        BridgeNames x = Rivers.plain(8);
        eighth.applyAsLong(x);
        s.is(call + ": bridge 7 of 8", x.status(0), 0);
    }

    private void newObject() {
        BridgeNames x = new BridgeNames();
        for (int what = 0; what < 5; what++) {
            s.is("count(" + what + ")", x.count(what), 0);
        }
        for (int row = 0; row < 4; row++) {
            s.rowIs("row " + row, x, row);
        }
        for (int what = 0; what < 3; what++) {
            s.is("status(" + what + ")", x.status(what), 0);
        }
        s.is("part(0)", x.part(0), 0);
        s.is("part(1)", x.part(1), 1);
        s.is("none is undone", x.undo(), -3);
        s.is("image 0", x.from(0), -3);
        s.is("image 1", x.from(1), -3);
        s.is("bridge 0", x.of(0, 0), -2);
        s.is("an empty text", x.read(), -10);
        s.is("none to forget", x.forget(), 0);
        s.is("nothing to clear", x.clear(), 0);
        s.is("another is apart", x.say(0, 1) + new BridgeNames().at(0, -1), 1);
    }

    private void river() {
        edges("river", (x, a) -> x.river(a[0]), -2, new int[] {5}, MONTH);
        BridgeNames x = Rivers.full();
        long above = x.part(0);
        x.count(-1);
        s.is("there were 8", x.river(11), 8);
        s.is("there were none", x.river(0), 0);
        for (int place = 1; place < 6; place++) {
            s.is("no old bridge leads on", x.ways(0, 0, place, 0), 0);
        }
        s.is("all but the text and the fraction as at first", x.digest(),
            KeepEdges.hashed(0, 0, 0, 0, 150, 0, 0, 0, 0, x.part(0), x.part(1)));
        s.is("the fraction stays", x.part(0), above);
        s.is("nothing may be undone", x.undo(), -3);
        s.is("STATUS stays", x.status(0), 1);
        s.is("the text stays", x.read(), 4);
        s.is("an image stays", x.from(0), 1);
        s.is("with all its bridges", x.count(0), 8);
        BridgeNames y = Rivers.one(0, SWEET, 15);
        y.river(0);
        Rivers.name(y, 1, 15);
        s.is("no old bridge makes a curse", y.curse(0, 1, 0), -1);
        s.is("no boat goes through an old bridge", y.boats(0, 0, 60), 60);
    }

    private void bridge() {
        edges("bridge", (x, a) -> x.bridge(a[0], a[1], a[2], a[3]), -2, new int[] {2, 3, 1, 1}, PLACE, PLACE, KIND, N);
        for (int place = 0; place < 6; place++) {
            int both = place;
            s.bad("places alike", Rivers::busy, x -> x.bridge(both, both, 0, 0), -2);
            s.bad("places alike, of 8", Rivers::full, x -> x.bridge(both, both, 0, 0), -2);
        }
        BridgeNames x = new BridgeNames();
        for (int k = 0; k < 8; k++) {
            s.is("its number", x.bridge(0, 1, 0, 0), k);
        }
        s.full("8", Rivers::full, y -> y.bridge(0, 1, 0, 0));
        x.river(0);
        s.is("behind river the first again", x.bridge(0, 1, 0, 0), 0);
    }

    private void rule() {
        edges("rule", (x, a) -> x.rule(a[0], a[1], a[2]), -2, new int[] {1, 1, 1}, BRIDGE, KIND, N);
        bridgesThatAreNot("rule", -2, x -> x.rule(0, 0, 0), x -> x.rule(7, 0, 0));
        BridgeNames x = Rivers.plain(8);
        s.is("the least", x.rule(7, FEAST, 15), 0);
        s.is("the greatest", x.rule(7, PLAIN, 15), 95);
        s.is("n alone", x.rule(7, SWEET, 0), 15);
        s.is("the kind alone", x.rule(7, SWEET, 0), 16);
        s.is("another stays", x.of(6, 2), PLAIN);
    }

    private void month() {
        edges("month", (x, a) -> x.month(a[0]), -2, new int[] {5}, new int[] {1, 11});
        BridgeNames x = new BridgeNames();
        x.river(11);
        s.is("11, then 0", x.month(1), 0);
        s.is("to 11", x.month(11), 11);
        s.is("11 more", x.month(11), 10);
        s.is("three may be undone", x.count(3), 3);
        s.is("11 together are undone", x.undo(), 11);
        s.is("again", x.undo(), 0);
        s.is("one alone", x.undo(), 11);
        s.bad("none go by", Rivers::full, y -> y.month(0), -2);
    }

    private void undo() {
        s.no("a new object", Rivers::fresh, x -> x.undo());
        s.no("behind all", () -> {
            BridgeNames x = Rivers.full();
            for (int k = 0; k < 8; k++) {
                x.undo();
            }
            return x;
        }, x -> x.undo());
        BridgeNames x = Rivers.full();
        int[] then = {1, 9, 9, 6, 6, 4, 4, 3};
        s.is("the month now", x.count(1), 1);
        for (int k = 0; k < 8; k++) {
            s.is("the month then", x.undo(), then[k]);
            s.is("one fewer", x.count(3), 7 - k);
        }
        s.is("none may be", x.undo(), -3);
    }

    private void say() {
        edges("say", (x, a) -> x.say(a[0], a[1]), -2, new int[] {1, 1}, ROW, N);
        for (int row = 0; row < 4; row++) {
            int r = row;
            s.full("a 13th", Rivers::full, x -> x.say(r, 0));
            s.bad("a 13th, wrong", Rivers::full, x -> x.say(r, -1), -2);
        }
        BridgeNames x = new BridgeNames();
        for (int k = 1; k <= 12; k++) {
            s.is("how many", x.say(3, 15), k);
        }
        x.hush(3);
        s.is("behind hush", x.say(3, 0), 1);
    }

    private void hush() {
        edges("hush", (x, a) -> x.hush(a[0]), -2, new int[] {0}, ROW);
        BridgeNames x = Rivers.full();
        for (int row = 0; row < 4; row++) {
            s.is("it had 12", x.hush(row), 12);
            s.rowIs("it is empty", x, row);
            s.is("it had none", x.hush(row), 0);
        }
        s.is("nothing is refused", x.status(0), 0);
    }

    private void type() {
        edges("type", (x, a) -> x.type(a[0]), -2, new int[] {32}, new int[] {0, 127});
        s.full("a 151st", Rivers::full, x -> x.type(0));
        s.bad("a 151st, wrong", Rivers::full, x -> x.type(128), -2);
        BridgeNames x = new BridgeNames();
        for (int k = 1; k <= 150; k++) {
            s.is("how many", x.type(k % 128), k);
        }
        s.is("no more", x.type(1), -4);
        x.clear();
        s.is("behind clear", x.type(127), 1);
    }

    private void clear() {
        BridgeNames x = Rivers.full();
        long was = x.digest();
        s.is("it had 150", x.clear(), 150);
        s.is("it is empty", x.count(4), 0);
        s.is("it had none", x.clear(), 0);
        s.is("read now", x.read(), -10);
        Rivers.type(x, " ".repeat(150));
        s.is("nothing else is changed", x.digest(), was);
        s.is("none of the old bytes is left", x.read(), -160);
    }

    private void read() {
        BridgeNames x = Rivers.busy();
        s.is("how many items", x.read(), 4);
        Rivers.type(x, "river 0;");
        s.is("one at least", x.read(), 1);
        Rivers.type(x, "river 0;" + "row 0;".repeat(23));
        s.is("many", x.read(), 24);
        s.asks("the least fault", Rivers::fresh, y -> y.read(), -10);
        Supplier<BridgeNames> last = () -> {
            BridgeNames y = Rivers.busy();
            Rivers.type(y, "river 0" + " ".repeat(143));
            return y;
        };
        s.asks("the greatest fault: all stays", last, y -> y.read(), -160);
        Supplier<BridgeNames> half = () -> {
            BridgeNames y = Rivers.full();
            Rivers.type(y, "river 9;bridge 0 1 1 1;row 0 1;row 4;");
            return y;
        };
        s.asks("a fault behind items that are fine: all stays", half, y -> y.read(), -10 - 35);
    }

    private void of() {
        edges("of", (x, a) -> x.of(a[0], a[1]), -2, new int[] {0, 0}, BRIDGE, new int[] {0, 3});
        bridgesThatAreNot("of", -2, x -> x.of(0, 0), x -> x.of(7, 0));
        BridgeNames x = new BridgeNames();
        x.bridge(5, 0, FEAST, 15);
        x.bridge(0, 5, PLAIN, 0);
        int[][] want = {{5, 0, 5, 15}, {0, 5, 0, 0}};
        for (int k = 0; k < 2; k++) {
            for (int what = 0; what < 4; what++) {
                s.is("of(" + k + ", " + what + ")", x.of(k, what), want[k][what]);
            }
        }
    }

    private void at() {
        edges("at", (x, a) -> x.at(a[0], a[1]), -10, new int[] {0, 0}, ROW, INDEX);
        BridgeNames x = Rivers.full();
        s.is("12", x.at(3, -1), 12);
        s.is("the first", x.at(3, 0), 3);
        s.is("the last", x.at(3, 11), 15);
        s.is("not so many", x.at(3, 12), -5);
        s.is("far from so many", x.at(3, MOST), -5);
        s.asks("-5 counts as nothing", Rivers::fresh, y -> y.at(0, 0), -5);
    }

    private void called() {
        edges("called", (x, a) -> x.called(a[0], a[1], a[2], a[3]), -10, new int[] {0, 0, 0, 0}, ROW, BRIDGE, BRIDGE, INDEX);
        bridgesThatAreNot("called, a", -10, x -> x.called(0, 0, 0, -1), x -> x.called(0, 7, 0, -1));
        bridgesThatAreNot("called, b", -10, x -> x.called(0, 0, 0, -1), x -> x.called(0, 0, 7, -1));
        BridgeNames x = Rivers.plain(8);
        Rivers.name(x, 0, 9);
        s.calledIs("all", x, 0, 0, 7, 9);
        s.calledIs("a above b", x, 0, 7, 0, 9);
        s.asks("-5 counts as nothing", () -> Rivers.plain(8), y -> y.called(0, 0, 7, 0), -5);
    }

    private void nothing() {
        edges("nothing", (x, a) -> x.nothing(a[0], a[1]), -2, new int[] {0, 0}, ROW, BRIDGE);
        bridgesThatAreNot("nothing", -2, x -> x.nothing(0, 0), x -> x.nothing(0, 7));
        s.asks("the last", () -> Rivers.plain(8), x -> x.nothing(0, 7), 7);
        s.asks("NONE counts as nothing", () -> Rivers.one(0, SWEET, 1), x -> x.nothing(0, 0), -1);
    }

    private void boat() {
        edges("boat", (x, a) -> x.boat(a[0], a[1], a[2], a[3], a[4]), -10, new int[] {0, 1, 0, 0, 0}, ROW,
            new int[] {0, 65535}, BRIDGE, BRIDGE, WHAT);
        bridgesThatAreNot("boat, a", -10, x -> x.boat(0, 0, 0, 0, 0), x -> x.boat(0, 0, 7, 0, 0));
        bridgesThatAreNot("boat, b", -10, x -> x.boat(0, 0, 0, 0, 1), x -> x.boat(0, 0, 0, 7, 1));
        s.asks("NONE counts as nothing", () -> Rivers.plain(8), x -> x.boat(0, 0, 0, 7, 0), -1);
        s.asks("the greatest toll", () -> twelve(8), x -> x.boat(0, 65535, 0, 7, 1), 96);
    }

    private static BridgeNames twelve(int bridges) {
        BridgeNames x = Rivers.plain(bridges);
        Rivers.name(x, 0, Rivers.count(0, 12));
        return x;
    }

    private void way() {
        edges("way", (x, a) -> x.way(a[0], a[1], a[2], a[3]), -10, new int[] {0, 0, 5, 0}, ROW, PLACE, PLACE, INDEX);
        s.asks("NONE counts as nothing", Rivers::fresh, x -> x.way(0, 0, 5, MOST), -1);
        s.asks("-5 counts as nothing", () -> Rivers.plain(1), x -> x.way(0, 0, 1, 1), -5);
        s.asks("no bridge at all", Rivers::fresh, x -> x.way(0, 5, 5, -1), 0);
        s.asks("toll", () -> twelve(8), x -> x.way(0, 0, 1, -1), 12);
        BridgeNames x = new BridgeNames();
        for (int k = 0; k < 5; k++) {
            x.bridge(k, k + 1, PLAIN, 0);
        }
        for (int k = 0; k < 5; k++) {
            s.is("bridge " + k, x.way(0, 0, 5, k), k);
        }
        s.is("not so many", x.way(0, 0, 5, 5), -5);
    }

    private void ways() {
        edges("ways", (x, a) -> x.ways(a[0], a[1], a[2], a[3]), -2, new int[] {0, 0, 5, 0}, ROW, PLACE, PLACE, WHAT);
        s.asks("none", Rivers::fresh, x -> x.ways(0, 0, 5, 0), 0);
        s.asks("NONE counts as nothing", Rivers::fresh, x -> x.ways(0, 0, 5, 1), -1);
        s.asks("the best has none", Rivers::fresh, x -> x.ways(0, 5, 5, 1), 0);
        s.asks("most of all", () -> Rivers.plain(8), x -> x.ways(0, 0, 0, 0), 737);
    }

    private void curse() {
        edges("curse", (x, a) -> x.curse(a[0], a[1], a[2]), -2, new int[] {0, 1, 0}, ROW, ROW, PLACE);
        s.asks("NONE counts as nothing", Rivers::busy, x -> x.curse(0, 1, 0), -1);
        s.asks("by no bridge", Rivers::fresh, x -> x.curse(0, 1, 5), 0);
        s.asks("of a row by itself", Rivers::full, x -> x.curse(3, 3, 5), 0);
    }

    private void above() {
        edges("above", (x, a) -> x.above(a[0], a[1], a[2]), -10, new int[] {0, 0, 0}, BRIDGE, ROW, WHAT);
        bridgesThatAreNot("above", -10, x -> x.above(0, 0, 0), x -> x.above(7, 0, 0));
        s.asks("none", () -> twelve(8), x -> x.above(7, 0, 0), 0);
        s.asks("NONE counts as nothing", () -> twelve(8), x -> x.above(7, 0, 1), -1);
        s.asks("all", () -> Rivers.one(0, DROP, 2), x -> x.above(0, 0, 0), 273);
    }

    private void note() {
        edges("note", (x, a) -> x.note(a[0], a[1], a[2]), -2, new int[] {0, 0, 0}, BRIDGE, ROW, ROW);
        bridgesThatAreNot("note", -2, x -> x.note(0, 0, 0), x -> x.note(7, 0, 0));
        s.full("a 9th", Rivers::full, x -> x.note(0, 0, 0));
        s.bad("a 9th, wrong", Rivers::full, x -> x.note(-1, 0, 0), -2);
        s.bad("a 9th, wrong in its last", Rivers::full, x -> x.note(0, 0, -1), -2);
        BridgeNames x = Rivers.plain(1);
        for (int k = 1; k <= 8; k++) {
            s.is("how many there are", x.note(0, 3, 0), k);
        }
        s.is("no more", x.note(0, 3, 0), -4);
    }

    private void forget() {
        BridgeNames x = Rivers.full();
        s.is("there were 8", x.forget(), 8);
        s.is("none now", x.count(2), 0);
        s.is("there were none", x.forget(), 0);
        s.is("all fit now", x.fits(0, 0), 96);
        s.is("one comes again", x.note(0, 0, 0), 1);
        s.is("what may be undone stays", x.count(3), 8);
        s.is("nothing is refused", x.status(0) + x.status(1) + x.status(2), 0);
    }

    private void fits() {
        edges("fits", (x, a) -> x.fits(a[0], a[1]), -10, new int[] {0, 0}, BRIDGE, WHAT);
        bridgesThatAreNot("fits", -10, x -> x.fits(0, 0), x -> x.fits(7, 0));
        s.asks("all", () -> Rivers.plain(1), x -> x.fits(0, 0), 96);
        s.asks("the first of all", () -> Rivers.plain(1), x -> x.fits(0, 1), 0);
        s.asks("NONE counts as nothing", PromiseEdges::noPair, x -> x.fits(0, 1), -1);
        s.asks("none", PromiseEdges::noPair, x -> x.fits(0, 0), 0);
    }

    /** Nothing became both nothing and 1 1 1. */
    private static BridgeNames noPair() {
        BridgeNames x = Rivers.plain(1);
        Rivers.name(x, 1, 1, 1, 1);
        x.note(0, 0, 0);
        x.note(0, 0, 1);
        return x;
    }

    private void tries() {
        edges("tries", (x, a) -> x.tries(a[0]), -2, new int[] {0}, BRIDGE);
        bridgesThatAreNot("tries", -2, x -> x.tries(0), x -> x.tries(7));
        s.asks("NONE counts as nothing", PromiseEdges::noPair, x -> x.tries(0), -1);
        s.asks("the last row", () -> lastRowTells(), x -> x.tries(0), 3);
    }

    private static BridgeNames lastRowTells() {
        BridgeNames x = Rivers.plain(1);
        Rivers.name(x, 3, 1, 2, 3);
        return x;
    }

    private void renamed() {
        edges("renamed", (x, a) -> x.renamed(a[0], a[1]), -2, new int[] {0, 0}, ROW, BRIDGE);
        bridgesThatAreNot("renamed", -2, x -> x.renamed(0, 0), x -> x.renamed(0, 7));
        s.asks("NONE counts as nothing", () -> Rivers.one(0, DOUBLE, 0), x -> x.renamed(0, 0), -1);
        s.asks("the least", () -> Rivers.one(0, TURN, 0), x -> x.renamed(0, 0), 1);
    }

    private void stammer() {
        edges("stammer", (x, a) -> x.stammer(a[0], a[1], a[2], a[3]), -2, new int[] {0, 0, 5, 3}, ROW, BRIDGE,
            new int[] {0, 10}, new int[] {0, 24});
        bridgesThatAreNot("stammer", -2, x -> x.stammer(0, 0, 0, 0), x -> x.stammer(0, 7, 0, 0));
        BridgeNames x = Rivers.full();
        long was = x.digest() - 31 * x.part(0) - x.part(1);
        s.is("stammer", x.stammer(0, 0, 10, 24), 1);
        s.is("above", x.part(0), 1);
        s.is("below", x.part(1), 1);
        s.is("nothing else is changed", x.digest() - 31 - 1, was);
        s.is("no chance is answered so, too", x.stammer(0, 0, 0, 0), 1);
        s.is("above", x.part(0), 0);
        s.is("below", x.part(1), 1);
    }

    private void boats() {
        edges("boats", (x, a) -> x.boats(a[0], a[1], a[2]), -2, new int[] {0, 7, 7}, ROW, SEED, FLEET);
        s.asks("no bridges", Rivers::fresh, x -> x.boats(0, 999999, 60), 60);
        s.asks("no boats", Rivers::full, x -> x.boats(3, 0, 0), 0);
        s.asks("nothing to say", () -> Rivers.plain(8), x -> x.boats(3, 0, 60), 60);
    }

    private void flood() {
        edges("flood", (x, a) -> x.flood(a[0], a[1], a[2], a[3], a[4]), -100, new int[] {0, 7, 7, 0, 0}, ROW, SEED, FLEET,
            BRIDGE, BRIDGE);
        bridgesThatAreNot("flood, a", -100, x -> x.flood(0, 0, 0, 0, 0), x -> x.flood(0, 0, 0, 7, 0));
        bridgesThatAreNot("flood, b", -100, x -> x.flood(0, 0, 0, 0, 0), x -> x.flood(0, 0, 0, 0, 7));
        BridgeNames x = Rivers.plain(8);
        Rivers.name(x, 0, Rivers.count(0, 12));
        x.rule(0, DROP, 2);
        x.rule(7, DOUBLE, 0);
        for (int seed : new int[] {0, 7, 999999}) {
            int can = x.boats(0, seed, 60);
            x.rule(0, DOUBLE, 0);
            x.rule(7, DROP, 2);
            int could = x.boats(0, seed, 60);
            s.is("the other way", x.flood(0, seed, 60, 0, 7), can - could);
            x.undo();
            x.undo();
            s.is("by what it can when told so", x.flood(0, seed, 60, 0, 7), could - can);
        }
        Rivers.name(x, 0, 1, 2, 3);
        x.rule(7, SWEET, 4);
        int one = x.boats(0, 7, 60);
        s.is("below 0: three more must be said", x.flood(0, 7, 60, 0, 7) < 0 && one > 0 ? 1 : 0, 1);
    }

    private void part() {
        edges("part", (x, a) -> x.part(a[0]), -2, new int[] {0}, WHAT);
        BridgeNames x = Rivers.one(0, PLAIN, 0);
        Rivers.name(x, 0, Rivers.count(0, 12));
        x.stammer(0, 0, 1, 12);
        s.is("above, beyond an int", x.part(0), 282429536481L);
        s.is("below, beyond an int", x.part(1), 1000000000000L);
    }

    private void image() {
        edges("image", (x, a) -> x.image(a[0]), -2, new int[] {0}, WHAT);
        BridgeNames x = Rivers.full();
        long was = x.digest();
        s.is("image(0)", x.image(0), 1);
        s.is("nothing else is changed", x.digest(), was);
        s.is("image(0) again", x.image(0), 1);
        s.is("image(1)", x.image(1), 1);
        s.is("kept", x.from(1), 1);
        s.is("it is the same", x.digest(), was);
    }

    private void from() {
        for (int wrong : new int[] {-1, 2, LEAST, MOST}) {
            refusedAnywhere("from", (x, a) -> x.from(a[0]), -2, new int[] {wrong});
            s.bad("both are kept, from(" + wrong + ")", Rivers::full, x -> x.from(wrong), -2);
        }
        for (int i = 0; i < 2; i++) {
            int image = i;
            s.no("none was kept", Rivers::fresh, x -> x.from(image));
            s.no("none was kept as the other", () -> keptAs(1 - image), x -> x.from(image));
            BridgeNames x = keptAs(i);
            s.is("from", x.from(i), 1);
            s.is("from again", x.from(i), 1);
            s.is("what was kept", x.at(0, -1), 1);
        }
    }

    private static BridgeNames keptAs(int i) {
        BridgeNames x = new BridgeNames();
        x.say(0, 5);
        x.image(i);
        x.say(0, 6);
        return x;
    }

    private void status() {
        edges("status", (x, a) -> x.status(a[0]), -1, new int[] {0}, new int[] {0, 2});
        BridgeNames x = new BridgeNames();
        s.is("-1", x.status(3), -1);
        s.is("it counts as BAD", x.status(0), 1);
        s.is("not as NO", x.status(1), 0);
        s.is("not as FULL", x.status(2), 0);
        s.is("-1 once more", x.status(-1), -1);
        s.is("it counts again", x.status(0), 2);
    }

    private void count() {
        edges("count", (x, a) -> x.count(a[0]), -2, new int[] {0}, new int[] {0, 4});
        int[] full = {8, 1, 8, 8, 150};
        for (int what = 0; what < 5; what++) {
            s.is("of a new one", new BridgeNames().count(what), 0);
            s.is("of a full one", Rivers.full().count(what), full[what]);
        }
    }

    private void digest() {
        s.is("of a new one", new BridgeNames().digest(), KeepEdges.hashed(0, 0, 0, 0, 0, 0, 0, 0, 0, 0, 1));
        BridgeNames x = Rivers.full();
        // far beyond a long: it goes round as longs do
        long h = KeepEdges.hashed(8, 1, 8, 8, 150);
        int[][] bridges = {{0, 1, 5, 0}, {1, 2, 4, 1}, {2, 3, 3, 2}, {3, 4, 2, 3}, {4, 5, 4, 11}, {5, 0, 5, 10}, {0, 1, 0, 9},
            {1, 2, 1, 8}};
        for (int[] bridge : bridges) {
            for (int v : bridge) {
                h = 31 * h + v;
            }
        }
        for (int row = 0; row < 4; row++) {
            h = mixedRow(h, row);
        }
        for (int k = 0; k < 8; k++) {
            h = mixedRow(mixedRow(31 * (31 * h + k) + 3, k % 4), 3 - k % 4);
        }
        // 12 syllables, three of them twice by 7 of 10: 220 times 7 to 3 times 3 to 9, by 10 to 12
        h = 31 * h + 220L * 343 * 19683 / 20;
        h = 31 * h + 1000000000000L / 20;
        s.is("of a full one", x.digest(), h);
        s.is("nothing is changed by it", x.digest(), h);
    }

    private static long mixedRow(long h, int row) {
        long mix = 31 * (31 * h + 12) + row;
        for (int v : new int[] {1, 2, 3, 4, 5, 6, 7, 8, 9, 10, 15}) {
            mix = 31 * mix + v;
        }
        return mix;
    }
}
