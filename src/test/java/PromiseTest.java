import java.math.BigInteger;

/** For each promise ordinary inputs, the edges that the document names, and wrong inputs. */
public final class PromiseTest {
    private static final int PLAIN = 0, SWEET = 1, DROP = 2, TURN = 3, DOUBLE = 4, FEAST = 5;
    private static final int LEAST = Integer.MIN_VALUE, MOST = Integer.MAX_VALUE;
    private static final Due DUE = new Due("PromiseTest");

    private static void due(String call, long got, long want) {
        DUE.is(call, got, want);
    }

    /** Says syllables to a row that is emptied first. */
    private static void name(BridgeNames x, int row, int... syllables) {
        x.hush(row);
        for (int s : syllables) {
            x.say(row, s);
        }
    }

    private static void calledIs(String what, BridgeNames x, int row, int a, int b, int... want) {
        due(what + ": how many", x.called(row, a, b, -1), want.length);
        for (int i = 0; i < want.length; i++) {
            due(what + ": the " + i + "th", x.called(row, a, b, i), want[i]);
        }
        due(what + ": behind the last", x.called(row, a, b, want.length), -5);
    }

    private static int read(BridgeNames x, String text) {
        x.clear();
        for (int i = 0; i < text.length(); i++) {
            x.type(text.charAt(i));
        }
        return x.read();
    }

    /** The refusals that came between two looks at STATUS, BAD, NO and FULL in one number. */
    private static int refused(BridgeNames x) {
        return x.status(0) * 10000 + x.status(1) * 100 + x.status(2);
    }

    /** A river of one bridge of a kind, in a month. */
    private static BridgeNames one(int month, int kind, int n) {
        BridgeNames x = new BridgeNames();
        x.river(month);
        x.bridge(0, 1, kind, n);
        return x;
    }

    private static void newObject() {
        BridgeNames x = new BridgeNames();
        for (int what = 0; what < 5; what++) {
            due("new: count(" + what + ")", x.count(what), 0);
        }
        for (int row = 0; row < 4; row++) {
            due("new: at(" + row + ", -1)", x.at(row, -1), 0);
        }
        for (int what = 0; what < 3; what++) {
            due("new: status(" + what + ")", x.status(what), 0);
        }
        due("new: part(0)", x.part(0), 0);
        due("new: part(1)", x.part(1), 1);
        due("new: from(0)", x.from(0), -3);
        due("new: from(1)", x.from(1), -3);
    }

    private static void river() {
        BridgeNames x = new BridgeNames();
        due("river(11)", x.river(11), 0);
        due("the month", x.count(1), 11);
        x.bridge(0, 1, SWEET, 2);
        x.bridge(1, 0, SWEET, 2);
        name(x, 3, 7);
        x.note(0, 3, 3);
        x.month(2);
        x.image(1);
        x.type('r');
        x.stammer(3, 0, 5, 3);
        due("river(12)", x.river(12), -2);
        due("river(-1)", x.river(-1), -2);
        due("river(least)", x.river(LEAST), -2);
        due("bridges stay", x.count(0), 2);
        due("the month stays", x.count(1), 1);
        due("river(5)", x.river(5), 2);
        due("no bridges", x.count(0), 0);
        due("its month", x.count(1), 5);
        due("none noted", x.count(2), 0);
        due("none to undo", x.count(3), 0);
        due("the text stays", x.count(4), 1);
        due("rows are empty", x.at(3, -1), 0);
        due("the fraction stays", x.part(1), 2);
        due("refusals stay", refused(x), 30000);
        due("an image stays", x.from(1), 1);
        due("with its bridges", x.count(0), 2);
    }

    private static void bridge() {
        BridgeNames x = new BridgeNames();
        due("bridge(0, 5, 5, 15)", x.bridge(0, 5, FEAST, 15), 0);
        due("bridge(5, 0, 0, 0)", x.bridge(5, 0, PLAIN, 0), 1);
        int[][] wrong = {{-1, 1, 0, 0}, {6, 1, 0, 0}, {1, -1, 0, 0}, {1, 6, 0, 0}, {3, 3, 0, 0},
            {0, 1, -1, 0}, {0, 1, 6, 0}, {0, 1, 0, -1}, {0, 1, 0, 16}, {LEAST, MOST, 0, 0}};
        for (int[] w : wrong) {
            due("a wrong bridge", x.bridge(w[0], w[1], w[2], w[3]), -2);
        }
        due("wrong ones are BAD", refused(x), 10 * 10000);
        due("bridges", x.count(0), 2);
        x.month(1);
        due("one to undo", x.count(3), 1);
        x.bridge(2, 2, 0, 0);
        due("still one to undo", x.count(3), 1);
        x.bridge(2, 3, 0, 0);
        due("none behind a bridge", x.count(3), 0);
        for (int k = 3; k < 8; k++) {
            due("bridge " + k, x.bridge(k - 3, 5, 0, 0), k);
        }
        x.month(1);
        due("a 9th bridge", x.bridge(0, 1, 0, 0), -4);
        due("a 9th bridge, wrong", x.bridge(0, 0, 0, 0), -2);
        due("FULL after BAD", refused(x), 12 * 10000 + 1);
        due("a refused bridge keeps what may be undone", x.count(3), 1);
    }

    private static void rule() {
        BridgeNames x = one(0, DOUBLE, 9);
        due("rule(0, 5, 15)", x.rule(0, FEAST, 15), 64 + 9);
        due("its kind", x.of(0, 2), 5);
        due("its n", x.of(0, 3), 15);
        due("from stays", x.of(0, 0), 0);
        due("to stays", x.of(0, 1), 1);
        due("rule(0, 5, 15) again", x.rule(0, FEAST, 15), 95);
        due("both may be undone", x.count(3), 2);
        due("rule(1, 0, 0)", x.rule(1, 0, 0), -2);
        due("rule(-1, 0, 0)", x.rule(-1, 0, 0), -2);
        due("rule(0, 6, 0)", x.rule(0, 6, 0), -2);
        due("rule(0, -1, 0)", x.rule(0, -1, 0), -2);
        due("rule(0, 0, 16)", x.rule(0, 0, 16), -2);
        due("rule(0, 0, -1)", x.rule(0, 0, -1), -2);
        due("the rule stays", x.of(0, 2), 5);
        due("refused", refused(x), 60000);
        due("no more to undo", x.count(3), 2);
    }

    private static void month() {
        BridgeNames x = new BridgeNames();
        due("month(11)", x.month(11), 11);
        due("month(1)", x.month(1), 0);
        due("month(7)", x.month(7), 7);
        due("month(7) again", x.month(7), 2);
        due("each is one to undo", x.count(3), 4);
        due("month(0)", x.month(0), -2);
        due("month(12)", x.month(12), -2);
        due("month(-1)", x.month(-1), -2);
        due("month(most)", x.month(MOST), -2);
        due("the month stays", x.count(1), 2);
        due("refused", refused(x), 40000);
    }

    private static void undo() {
        BridgeNames x = one(3, SWEET, 1);
        due("none may be", x.undo(), -3);
        due("refused as NO", refused(x), 100);
        x.rule(0, DROP, 2);
        x.month(5);
        x.rule(0, FEAST, 4);
        x.say(0, 6);
        due("a rule undone: the month", x.undo(), 8);
        due("kind", x.of(0, 2), DROP);
        due("n", x.of(0, 3), 2);
        due("the row stays", x.at(0, -1), 1);
        due("a month undone", x.undo(), 3);
        due("the first rule undone", x.undo(), 3);
        due("kind at first", x.of(0, 2), SWEET);
        due("n at first", x.of(0, 3), 1);
        due("none is left", x.undo(), -3);
        x.rule(0, TURN, 0);
        for (int k = 0; k < 8; k++) {
            x.month(1);
        }
        due("8 at most", x.count(3), 8);
        for (int k = 7; k >= 0; k--) {
            due("undo to month " + k, x.undo(), (3 + k) % 12);
        }
        due("the 9th is gone", x.undo(), -3);
        due("so the rule stays", x.of(0, 2), TURN);
        x.month(1);
        x.bridge(1, 2, 0, 0);
        due("none behind a bridge", x.undo(), -3);
    }

    private static void say() {
        BridgeNames x = new BridgeNames();
        for (int k = 0; k < 12; k++) {
            due("say " + k, x.say(2, 15 - k), k + 1);
        }
        due("a 13th", x.say(2, 0), -4);
        due("a 13th, wrong", x.say(2, 16), -2);
        due("BAD ahead of FULL", refused(x), 10001);
        due("other rows stay", x.at(1, -1) + x.at(3, -1), 0);
        due("the first", x.at(2, 0), 15);
        due("the last", x.at(2, 11), 4);
        due("say(4, 0)", x.say(4, 0), -2);
        due("say(-1, 0)", x.say(-1, 0), -2);
        due("say(0, -1)", x.say(0, -1), -2);
        due("say(3, 0)", x.say(3, 0), 1);
    }

    private static void hush() {
        BridgeNames x = new BridgeNames();
        name(x, 1, 4, 5);
        name(x, 2, 6);
        due("hush(1)", x.hush(1), 2);
        due("it is empty", x.at(1, -1), 0);
        due("hush(1) again", x.hush(1), 0);
        due("the other stays", x.at(2, 0), 6);
        due("hush(4)", x.hush(4), -2);
        due("hush(-1)", x.hush(-1), -2);
        due("refused", refused(x), 20000);
        x.say(1, 0);
        due("none of the old ones is left", x.at(1, 0), 0);
    }

    private static void typeAndClear() {
        BridgeNames x = new BridgeNames();
        due("type(128)", x.type(128), -2);
        due("type(-1)", x.type(-1), -2);
        due("clear() of none", x.clear(), 0);
        for (int k = 0; k < 150; k++) {
            due("type", x.type(k % 2 * 127), k + 1);
        }
        due("a 151st", x.type(0), -4);
        due("a 151st, wrong", x.type(128), -2);
        due("refused", refused(x), 30001);
        due("its length", x.count(4), 150);
        due("clear()", x.clear(), 150);
        due("it is empty", x.count(4), 0);
        due("type(114)", x.type(114), 1);
    }

    private static void of() {
        BridgeNames x = new BridgeNames();
        x.bridge(4, 2, TURN, 13);
        x.bridge(1, 3, DOUBLE, 6);
        int[] want = {1, 3, 4, 6};
        for (int what = 0; what < 4; what++) {
            due("of(1, " + what + ")", x.of(1, what), want[what]);
        }
        due("of(0, 0)", x.of(0, 0), 4);
        due("of(2, 0)", x.of(2, 0), -2);
        due("of(-1, 0)", x.of(-1, 0), -2);
        due("of(0, 4)", x.of(0, 4), -2);
        due("of(0, -1)", x.of(0, -1), -2);
        due("refused", refused(x), 40000);
    }

    private static void at() {
        BridgeNames x = new BridgeNames();
        name(x, 0, 3, 0, 15);
        due("at(0, -1)", x.at(0, -1), 3);
        due("at(0, 0)", x.at(0, 0), 3);
        due("at(0, 1)", x.at(0, 1), 0);
        due("at(0, 2)", x.at(0, 2), 15);
        due("at(0, 3)", x.at(0, 3), -5);
        due("at(0, 12)", x.at(0, 12), -5);
        due("at(0, most)", x.at(0, MOST), -5);
        due("-5 is not refused", refused(x), 0);
        due("at(0, -2)", x.at(0, -2), -10);
        due("at(0, least)", x.at(0, LEAST), -10);
        due("at(-1, 0)", x.at(-1, 0), -10);
        due("at(4, 0)", x.at(4, 0), -10);
        due("-10 counts as BAD", refused(x), 40000);
    }

    private static void kinds() {
        BridgeNames x = one(1, PLAIN, 5);
        name(x, 0, 1, 2, 3, 4);
        name(x, 2, 0, 1, 2, 3, 4, 5, 6, 7, 8, 9, 10, 11);
        name(x, 3, 1, 2, 3, 4, 5, 6, 7, 8, 9, 10, 11);
        calledIs("PLAIN", x, 0, 0, 0, 1, 2, 3, 4);
        calledIs("PLAIN of nothing", x, 1, 0, 0);
        x.rule(0, SWEET, 9);
        calledIs("SWEET", x, 0, 0, 0, 1, 2, 3, 4, 9);
        calledIs("SWEET of nothing", x, 1, 0, 0, 9);
        calledIs("SWEET of 12", x, 2, 0, 0, 0, 1, 2, 3, 4, 5, 6, 7, 8, 9, 10, 9);
        calledIs("SWEET of 11", x, 3, 0, 0, 1, 2, 3, 4, 5, 6, 7, 8, 9, 10, 11, 9);
        x.rule(0, DROP, 0);
        calledIs("DROP of 1", x, 0, 0, 0, 1, 2, 3);
        x.rule(0, DROP, 14);
        calledIs("DROP of 3", x, 0, 0, 0, 1);
        calledIs("DROP of nothing", x, 1, 0, 0);
        x.rule(0, DROP, 15);
        calledIs("DROP 15 is of 1", x, 0, 0, 0, 1, 2, 3);
        x.rule(0, TURN, 3);
        calledIs("TURN", x, 0, 0, 0, 4, 3, 2, 1);
        calledIs("TURN of 12", x, 2, 0, 0, 11, 10, 9, 8, 7, 6, 5, 4, 3, 2, 1, 0);
        x.rule(0, DOUBLE, 9);
        calledIs("DOUBLE", x, 0, 0, 0, 1, 1, 2, 3, 4, 9);
        calledIs("DOUBLE of nothing", x, 1, 0, 0, 9, 9);
        calledIs("DOUBLE of 12", x, 2, 0, 0, 0, 0, 1, 2, 3, 4, 5, 6, 7, 8, 9, 10);
        calledIs("DOUBLE of 11", x, 3, 0, 0, 1, 1, 2, 3, 4, 5, 6, 7, 8, 9, 10, 11);
        x.rule(0, FEAST, 14);
        for (int month = 1; month < 12; month++) {
            if (month % 4 == 0) {
                calledIs("FEAST in month " + month, x, 0, 0, 0, 1);
            } else {
                calledIs("FEAST not in month " + month, x, 0, 0, 0, 15, 0, 1, 2);
                calledIs("FEAST of nothing", x, 1, 0, 0);
            }
            x.month(1);
        }
        calledIs("FEAST in month 0", x, 0, 0, 0, 1);
    }

    private static void called() {
        BridgeNames x = new BridgeNames();
        name(x, 0, 1, 2);
        due("called with no bridges", x.called(0, 0, 0, -1), -10);
        x.bridge(0, 1, SWEET, 3);
        x.bridge(4, 5, TURN, 0);
        x.bridge(2, 3, DOUBLE, 7);
        calledIs("0 to 0", x, 0, 0, 0, 1, 2, 3);
        calledIs("0 to 1", x, 0, 0, 1, 3, 2, 1);
        calledIs("0 to 2", x, 0, 0, 2, 3, 3, 2, 1, 7);
        calledIs("1 to 2", x, 0, 1, 2, 2, 2, 1, 7);
        calledIs("2 to 1", x, 0, 2, 1, 1, 2);
        due("not so many", x.called(0, 0, 0, MOST), -5);
        due("refused till now", refused(x), 10000);
        due("called(4, 0, 0, 0)", x.called(4, 0, 0, 0), -10);
        due("called(-1, 0, 0, 0)", x.called(-1, 0, 0, 0), -10);
        due("called(0, 3, 0, 0)", x.called(0, 3, 0, 0), -10);
        due("called(0, -1, 0, 0)", x.called(0, -1, 0, 0), -10);
        due("called(0, 0, 3, 0)", x.called(0, 0, 3, 0), -10);
        due("called(0, 0, -1, 0)", x.called(0, 0, -1, 0), -10);
        due("called(0, 0, 0, -2)", x.called(0, 0, 0, -2), -10);
        due("refused", refused(x), 80000);
        due("the row stays", x.at(0, -1), 2);
    }

    private static void nothing() {
        BridgeNames x = new BridgeNames();
        due("with no bridges", x.nothing(0, 0), -2);
        x.bridge(0, 1, DROP, 1);
        x.bridge(0, 1, SWEET, 1);
        x.bridge(0, 1, DROP, 2);
        name(x, 0, 5, 6);
        name(x, 1, 5, 6, 7, 8, 9, 10);
        due("nothing(0, 0)", x.nothing(0, 0), 0);
        due("nothing(0, 1)", x.nothing(0, 1), 2);
        due("nothing(0, 2)", x.nothing(0, 2), 2);
        due("nothing(1, 0)", x.nothing(1, 0), -1);
        due("of an empty one by SWEET", x.nothing(2, 1), 2);
        due("nothing(0, 3)", x.nothing(0, 3), -2);
        due("nothing(0, -1)", x.nothing(0, -1), -2);
        due("nothing(4, 0)", x.nothing(4, 0), -2);
        due("nothing(-1, 0)", x.nothing(-1, 0), -2);
        due("refused", refused(x), 50000);
        BridgeNames y = one(0, PLAIN, 0);
        due("an empty one by PLAIN", y.nothing(3, 0), 0);
    }

    private static void boat() {
        BridgeNames x = new BridgeNames();
        x.bridge(0, 1, SWEET, 4);
        x.bridge(0, 1, SWEET, 15);
        x.bridge(0, 1, DROP, 2);
        name(x, 0, 2, 2);
        int two = 1 << 2;
        due("stops at the first", x.boat(0, two, 0, 2, 0), 0);
        due("nothing said", x.boat(0, two, 0, 2, 1), 0);
        due("stops at the second", x.boat(0, two | 1 << 4, 0, 2, 0), 1);
        due("said ahead of it", x.boat(0, two | 1 << 4, 0, 2, 1), 3);
        due("says all", x.boat(0, two | 1 << 4 | 1 << 15, 0, 2, 0), -1);
        due("said in all", x.boat(0, two | 1 << 4 | 1 << 15, 0, 2, 1), 3 + 4 + 1);
        due("65535", x.boat(0, 65535, 1, 1, 1), 3);
        due("a above b", x.boat(0, 0, 2, 1, 0), -1);
        due("a above b: toll", x.boat(0, 0, 2, 1, 1), 0);
        due("an empty name", x.boat(1, 0, 2, 2, 0), -1);
        int[][] wrong = {{4, 0, 0, 0, 0}, {-1, 0, 0, 0, 0}, {0, -1, 0, 0, 0}, {0, 65536, 0, 0, 0}, {0, 0, 3, 0, 0},
            {0, 0, -1, 0, 0}, {0, 0, 0, 3, 0}, {0, 0, 0, -1, 0}, {0, 0, 0, 0, 2}, {0, 0, 0, 0, -1}};
        for (int[] w : wrong) {
            due("a wrong boat", x.boat(w[0], w[1], w[2], w[3], w[4]), -10);
        }
        due("refused", refused(x), 100000);
    }

    private static void way() {
        BridgeNames x = new BridgeNames();
        name(x, 0, 1, 2, 3, 4);
        x.bridge(0, 1, PLAIN, 0);
        x.bridge(0, 2, DROP, 2);
        x.bridge(2, 1, PLAIN, 0);
        due("by two bridges fewer are said", x.way(0, 0, 1, -1), 2);
        due("the first", x.way(0, 0, 1, 0), 1);
        due("the second", x.way(0, 0, 1, 1), 2);
        due("not so many", x.way(0, 0, 1, 2), -5);
        due("none", x.way(0, 1, 0, -1), -1);
        due("none, whatever i", x.way(0, 1, 0, 9), -1);
        due("there already", x.way(0, 3, 3, -1), 0);
        due("there already: no bridge", x.way(0, 3, 3, 0), -5);
        due("of an empty name the fewest bridges", x.way(1, 0, 1, 0), 0);
        due("not refused", refused(x), 0);
        BridgeNames y = new BridgeNames();
        name(y, 0, 1);
        y.bridge(0, 2, PLAIN, 0);
        y.bridge(2, 1, PLAIN, 0);
        y.bridge(0, 1, SWEET, 0);
        due("of like tolls the fewest bridges", y.way(0, 0, 1, 0), 2);
        y.bridge(0, 1, SWEET, 1);
        due("then the first row", y.way(0, 0, 1, 0), 2);
        due("its toll", y.way(0, 0, 1, -1), 2);
        due("way(4, 0, 0, 0)", y.way(4, 0, 0, 0), -10);
        due("way(-1, 0, 0, 0)", y.way(-1, 0, 0, 0), -10);
        due("way(0, 6, 0, 0)", y.way(0, 6, 0, 0), -10);
        due("way(0, -1, 0, 0)", y.way(0, -1, 0, 0), -10);
        due("way(0, 0, 6, 0)", y.way(0, 0, 6, 0), -10);
        due("way(0, 0, -1, 0)", y.way(0, 0, -1, 0), -10);
        due("way(0, 0, 0, -2)", y.way(0, 0, 0, -2), -10);
        due("refused", refused(y), 70000);
    }

    private static void ways() {
        BridgeNames x = new BridgeNames();
        due("no bridges, there already", x.ways(0, 2, 2, 0), 1);
        due("no bridges, elsewhere", x.ways(0, 2, 3, 0), 0);
        due("best has", x.ways(0, 2, 2, 1), 0);
        due("none", x.ways(0, 2, 3, 1), -1);
        // between 0 and 1 four bridges each way: ways of 0, 2, 4, 6 bridges come back to 0
        for (int k = 0; k < 4; k++) {
            x.bridge(0, 1, PLAIN, 0);
            x.bridge(1, 0, PLAIN, 0);
        }
        due("there and back", x.ways(0, 0, 0, 0), 1 + 16 + 144 + 576);
        due("there", x.ways(0, 0, 1, 0), 4 + 4 * 4 * 3 + 4 * 4 * 3 * 3 * 2);
        due("best has 1", x.ways(0, 0, 1, 1), 1);
        BridgeNames y = new BridgeNames();
        for (int k = 0; k < 8; k++) {
            y.bridge(k % 2, 1 - k % 2, PLAIN, 0);
        }
        y.river(0);
        int[] chain = {0, 1, 2, 3, 4, 0, 5};
        for (int k = 0; k < 6; k++) {
            y.bridge(chain[k], chain[k + 1], PLAIN, 0);
        }
        due("6 bridges and 1", y.ways(0, 0, 5, 0), 2);
        due("from 1 on 5 bridges", y.ways(0, 1, 5, 1), 5);
        y.river(0);
        int[] long7 = {0, 1, 0, 1, 0, 1, 0, 5};
        for (int k = 0; k < 7; k++) {
            y.bridge(long7[k], long7[k + 1], PLAIN, 0);
        }
        due("not by 7 bridges", y.ways(0, 0, 5, 0), 1 + 3 * 3 + 3 * 3 * 2 * 2);
        due("ways(4, 0, 0, 0)", y.ways(4, 0, 0, 0), -2);
        due("ways(-1, 0, 0, 0)", y.ways(-1, 0, 0, 0), -2);
        due("ways(0, 6, 0, 0)", y.ways(0, 6, 0, 0), -2);
        due("ways(0, -1, 0, 0)", y.ways(0, -1, 0, 0), -2);
        due("ways(0, 0, 6, 0)", y.ways(0, 0, 6, 0), -2);
        due("ways(0, 0, -1, 0)", y.ways(0, 0, -1, 0), -2);
        due("ways(0, 0, 0, 2)", y.ways(0, 0, 0, 2), -2);
        due("ways(0, 0, 0, -1)", y.ways(0, 0, 0, -1), -2);
        due("refused", refused(y), 80000);
    }

    private static void curse() {
        BridgeNames x = new BridgeNames();
        name(x, 0, 1, 2, 3);
        name(x, 1, 2, 3);
        name(x, 3, 3, 2, 1, 8);
        due("there at once", x.curse(0, 1, 4), 0);
        due("an empty curse", x.curse(0, 2, 0), 0);
        due("an empty curse on nothing", x.curse(2, 2, 0), 0);
        due("its own row", x.curse(0, 0, 0), 0);
        due("longer than the name", x.curse(1, 0, 0), -1);
        x.bridge(0, 1, SWEET, 8);
        x.bridge(0, 1, TURN, 0);
        x.bridge(1, 2, TURN, 0);
        x.bridge(1, 3, SWEET, 8);
        due("by TURN, then SWEET", x.curse(0, 3, 0), 2);
        due("not from 1", x.curse(0, 3, 1), -1);
        name(x, 2, 1, 3);
        due("not with one left out", x.curse(0, 2, 0), -1);
        name(x, 2, 8);
        due("the fewest", x.curse(0, 2, 0), 1);
        due("curse(4, 0, 0)", x.curse(4, 0, 0), -2);
        due("curse(-1, 0, 0)", x.curse(-1, 0, 0), -2);
        due("curse(0, 4, 0)", x.curse(0, 4, 0), -2);
        due("curse(0, -1, 0)", x.curse(0, -1, 0), -2);
        due("curse(0, 0, 6)", x.curse(0, 0, 6), -2);
        due("curse(0, 0, -1)", x.curse(0, 0, -1), -2);
        due("refused", refused(x), 60000);
        BridgeNames y = new BridgeNames();
        for (int k = 0; k < 8; k++) {
            y.bridge(k % 2, 1 - k % 2, SWEET, k < 7 ? 1 : 2);
        }
        name(y, 0, 1, 1, 1, 1, 1, 1);
        due("just 6 bridges", y.curse(1, 0, 0), 6);
        y.say(0, 1);
        due("7 are too many", y.curse(1, 0, 0), -1);
    }

    private static void above() {
        BridgeNames x = one(0, SWEET, 7);
        name(x, 0, 7);
        name(x, 1, 3, 7);
        name(x, 2, 3, 4, 7);
        due("of nothing", x.above(0, 0, 1), 0);
        due("of one", x.above(0, 1, 1), 4);
        due("of two", x.above(0, 2, 1), 17 * 4 + 5);
        due("just one", x.above(0, 2, 0), 1);
        due("none", x.above(0, 3, 0), 0);
        due("the least of none", x.above(0, 3, 1), -1);
        x.rule(0, DROP, 1);
        due("by DROP all of them", x.above(0, 3, 0), 273);
        due("the least of all", x.above(0, 3, 1), 0);
        x.rule(0, DROP, 0);
        due("16 that begin so", x.above(0, 0, 0), 16);
        due("the least of 16", x.above(0, 0, 1), 17 * 8 + 1);
        due("17 that come to nothing", x.above(0, 3, 0), 17);
        name(x, 2, 15, 15);
        x.rule(0, PLAIN, 0);
        due("the greatest", x.above(0, 2, 1), 17 * 16 + 16);
        x.rule(0, FEAST, 1);
        x.month(1);
        due("behind a month", x.above(0, 2, 1), 17 * 15 + 15);
        due("above(1, 0, 0)", x.above(1, 0, 0), -10);
        due("above(-1, 0, 0)", x.above(-1, 0, 0), -10);
        due("above(0, 4, 0)", x.above(0, 4, 0), -10);
        due("above(0, -1, 0)", x.above(0, -1, 0), -10);
        due("above(0, 0, 2)", x.above(0, 0, 2), -10);
        due("above(0, 0, -1)", x.above(0, 0, -1), -10);
        due("refused", refused(x), 60000);
    }

    private static void noteAndForget() {
        BridgeNames x = one(0, PLAIN, 0);
        due("forget() of none", x.forget(), 0);
        for (int k = 0; k < 8; k++) {
            due("note " + k, x.note(0, k % 4, 3 - k % 4), k + 1);
        }
        due("a 9th", x.note(0, 0, 0), -4);
        due("a 9th, wrong", x.note(1, 0, 0), -2);
        due("note(-1, 0, 0)", x.note(-1, 0, 0), -2);
        due("note(0, 4, 0)", x.note(0, 4, 0), -2);
        due("note(0, -1, 0)", x.note(0, -1, 0), -2);
        due("note(0, 0, 4)", x.note(0, 0, 4), -2);
        due("note(0, 0, -1)", x.note(0, 0, -1), -2);
        due("refused", refused(x), 60001);
        due("8 of them", x.count(2), 8);
        due("forget()", x.forget(), 8);
        due("none is left", x.count(2), 0);
        due("a note again", x.note(0, 0, 0), 1);
    }

    private static void fits() {
        BridgeNames x = one(1, PLAIN, 0);
        x.bridge(1, 2, PLAIN, 0);
        due("all fit at first", x.fits(0, 0), 96);
        due("the first of all", x.fits(0, 1), 0);
        name(x, 0, 2, 3);
        name(x, 1, 2, 3, 4);
        x.note(0, 0, 1);
        due("SWEET 4 alone", x.fits(0, 0), 1);
        due("16 + 4", x.fits(0, 1), 20);
        due("of the other bridge all fit", x.fits(1, 0), 96);
        x.hush(1);
        due("the names as they were", x.fits(0, 1), 20);
        name(x, 1, 4, 5);
        x.note(1, 0, 1);
        due("FEAST 2 alone", x.fits(1, 0), 1);
        due("80 + 2", x.fits(1, 1), 82);
        x.month(3);
        due("in the month as it was", x.fits(1, 1), 82);
        name(x, 1, 2);
        x.note(1, 0, 1);
        due("in a feast FEAST 2 drops 3", x.fits(1, 0), 0);
        due("none", x.fits(1, 1), -1);
        x.forget();
        x.note(1, 0, 1);
        due("DROP by 1 and FEAST by 1", x.fits(1, 0), 12);
        due("DROP 0 is first", x.fits(1, 1), 32);
        due("fits(2, 0)", x.fits(2, 0), -10);
        due("fits(-1, 0)", x.fits(-1, 0), -10);
        due("fits(0, 2)", x.fits(0, 2), -10);
        due("fits(0, -1)", x.fits(0, -1), -10);
        due("refused", refused(x), 40000);
    }

    private static void tries() {
        BridgeNames x = one(1, PLAIN, 0);
        due("all rows alike: the first", x.tries(0), 0);
        // of 1 2 3 most stay as they are by PLAIN and FEAST 0: 17; of the empty row by four kinds: 64
        name(x, 3, 1, 2, 3);
        due("the row that tells most", x.tries(0), 3);
        name(x, 2, 9, 8, 7);
        due("of like ones the first", x.tries(0), 2);
        name(x, 1, 3, 3);
        // of 3 3 stay PLAIN, TURN, FEAST 0: 33
        due("one that tells less", x.tries(0), 2);
        x.note(0, 1, 2);
        due("no pair", x.tries(0), -1);
        x.forget();
        name(x, 0, 5, 6);
        name(x, 1, 5);
        name(x, 2, 5, 6, 7, 8);
        name(x, 3);
        x.month(3);
        x.note(0, 0, 1);
        due("all that fit drop one, in a feast", x.tries(0), 0);
        x.month(1);
        // now FEAST n 0, 3 .. 15 tell themselves apart, DROP does not: 6 alike in rows 0 to 2, 12 in row 3
        due("behind the feast", x.tries(0), 0);
        name(x, 0);
        due("behind the feast, the first row empty", x.tries(0), 1);
        due("tries(1)", x.tries(1), -2);
        due("tries(-1)", x.tries(-1), -2);
        due("refused", refused(x), 20000);
    }

    private static void renamed() {
        BridgeNames x = one(1, PLAIN, 0);
        name(x, 0, 1, 2);
        name(x, 1, 4, 4);
        due("PLAIN", x.renamed(0, 0), 1);
        x.rule(0, TURN, 0);
        due("TURN", x.renamed(0, 0), 2);
        due("TURN of like ones", x.renamed(1, 0), 1);
        x.rule(0, FEAST, 8);
        due("FEAST 8 in months 1 and 2", x.renamed(0, 0), 2);
        x.month(1);
        due("in months 2 and 3", x.renamed(0, 0), 2);
        x.month(1);
        due("in months 3 and 4, a feast", x.renamed(0, 0), -1);
        x.month(9);
        due("in month 0, a feast", x.renamed(0, 0), -1);
        x.rule(0, FEAST, 0);
        x.month(11);
        due("in month 11, n is 0", x.renamed(0, 0), 1);
        x.rule(0, SWEET, 4);
        due("SWEET of less than 12", x.renamed(1, 0), -1);
        name(x, 1, 4, 4, 4, 4, 4, 4, 4, 4, 4, 4, 4, 4);
        due("SWEET of 12", x.renamed(1, 0), 1);
        x.rule(0, DOUBLE, 4);
        due("DOUBLE of 12", x.renamed(1, 0), 1);
        due("the month stays", x.count(1), 11);
        due("the row stays", x.at(0, -1), 2);
        due("renamed(4, 0)", x.renamed(4, 0), -2);
        due("renamed(-1, 0)", x.renamed(-1, 0), -2);
        due("renamed(0, 1)", x.renamed(0, 1), -2);
        due("renamed(0, -1)", x.renamed(0, -1), -2);
        due("refused", refused(x), 40000);
    }

    private static void fractionIs(String what, BridgeNames x, int c, int k, long above, long below) {
        due(what, x.stammer(0, 0, c, k), 1);
        due(what + ": above", x.part(0), above);
        due(what + ": below", x.part(1), below);
    }

    private static void stammerAndPart() {
        BridgeNames x = one(0, SWEET, 0);
        due("part(0)", x.part(0), 0);
        due("part(1)", x.part(1), 1);
        name(x, 0, 3, 3);
        fractionIs("3 syllables, none twice", x, 3, 3, 343, 1000);
        fractionIs("one twice", x, 3, 4, 441, 1000);
        fractionIs("two twice", x, 3, 5, 189, 1000);
        fractionIs("all twice", x, 3, 6, 27, 1000);
        fractionIs("too few", x, 3, 2, 0, 1);
        fractionIs("too many", x, 3, 7, 0, 1);
        fractionIs("lowest terms", x, 5, 4, 3, 8);
        fractionIs("never twice", x, 0, 3, 1, 1);
        fractionIs("never twice, yet one", x, 0, 4, 0, 1);
        fractionIs("always twice", x, 10, 6, 1, 1);
        fractionIs("always twice, yet none", x, 10, 3, 0, 1);
        name(x, 0, 1, 1, 1, 1, 1, 1, 1, 1, 1, 1, 1, 1);
        fractionIs("12 syllables", x, 1, 12, 282429536481L, 1000000000000L);
        fractionIs("24 said", x, 1, 24, 1, 1000000000000L);
        fractionIs("18 said", x, 5, 18, 231, 1024);
        int[][] wrong = {{4, 0, 0, 0}, {-1, 0, 0, 0}, {0, 1, 0, 0}, {0, -1, 0, 0}, {0, 0, -1, 0}, {0, 0, 11, 0},
            {0, 0, 0, -1}, {0, 0, 0, 25}};
        for (int[] w : wrong) {
            due("a wrong stammer", x.stammer(w[0], w[1], w[2], w[3]), -2);
        }
        due("the fraction stays", x.part(0), 231);
        due("part(2)", x.part(2), -2);
        due("part(-1)", x.part(-1), -2);
        due("refused", refused(x), 100000);
    }

    private static void boatsAndFlood() {
        BridgeNames x = new BridgeNames();
        due("no bridges: all", x.boats(0, 0, 60), 60);
        due("no boats", x.boats(0, 999999, 0), 0);
        due("flood with no bridges", x.flood(0, 0, 0, 0, 0), -100);
        x.bridge(0, 1, SWEET, 0);
        x.bridge(0, 1, DROP, 0);
        x.bridge(0, 1, SWEET, 1);
        for (int k = 1; k <= 60; k++) {
            due("0; nothing; 1", x.boats(0, 1, k), saying(1, k, 0, 1));
        }
        due("the greatest seed", x.boats(0, 999999, 60), saying(999999, 60, 0, 1));
        due("were 1 and 2 in each other's stead: 0; 0 1; 0", x.flood(0, 1, 60, 1, 2), 0);
        x.rule(1, PLAIN, 0);
        x.rule(2, DROP, 0);
        name(x, 0, 1);
        due("1 0; 1 0; 1", x.boats(0, 1, 60), saying(1, 60, 0, 1));
        int more = saying(1, 60, 0) - saying(1, 60, 0, 1);
        DUE.holds("more say one syllable than two", more > 0);
        due("were DROP ahead: nothing; nothing; 0", x.flood(0, 1, 60, 0, 2), more);
        due("the other way round", x.flood(0, 1, 60, 2, 0), more);
        due("one in its own stead", x.flood(0, 1, 60, 1, 1), 0);
        x.rule(0, DROP, 0);
        x.rule(2, SWEET, 3);
        int fewer = saying(1, 60, 1, 3) - saying(1, 60, 3);
        DUE.holds("fewer say two syllables than one", fewer < 0);
        due("nothing; nothing; 3, were SWEET ahead: 1 3; 1 3; 1", x.flood(0, 1, 60, 0, 2), fewer);
        int[][] wrong = {{4, 0, 0}, {-1, 0, 0}, {0, -1, 0}, {0, 1000000, 0}, {0, 0, -1}, {0, 0, 61}};
        int were = x.status(0);
        for (int[] w : wrong) {
            due("wrong boats", x.boats(w[0], w[1], w[2]), -2);
            due("a wrong flood", x.flood(w[0], w[1], w[2], 0, 0), -100);
        }
        due("flood: a", x.flood(0, 0, 0, 3, 0), -100);
        due("flood: a below 0", x.flood(0, 0, 0, -1, 0), -100);
        due("flood: b", x.flood(0, 0, 0, 0, 3), -100);
        due("flood: b below 0", x.flood(0, 0, 0, 0, -1), -100);
        due("refused", x.status(0) - were, 16);
    }

    /** How many boats can say these syllables. */
    private static int saying(long seed, int n, int... syllables) {
        BigInteger x = BigInteger.valueOf(seed);
        int many = 0;
        for (int k = 0; k < n; k++) {
            x = x.multiply(BigInteger.valueOf(1103515245)).add(BigInteger.valueOf(12345));
            x = x.mod(BigInteger.valueOf(2147483648L));
            boolean all = true;
            for (int s : syllables) {
                all &= x.testBit(15 + s);
            }
            many += all ? 1 : 0;
        }
        return many;
    }

    private static void imageAndFrom() {
        BridgeNames x = one(2, SWEET, 3);
        name(x, 1, 8, 9);
        x.note(0, 1, 0);
        x.rule(0, DROP, 1);
        x.month(4);
        x.type('a');
        long was = x.digest();
        due("image(0)", x.image(0), 1);
        due("from(1)", x.from(1), -3);
        due("image(2)", x.image(2), -2);
        due("image(-1)", x.image(-1), -2);
        due("from(2)", x.from(2), -2);
        due("from(-1)", x.from(-1), -2);
        due("refused", refused(x), 40100);
        x.undo();
        x.undo();
        x.say(1, 1);
        x.hush(2);
        x.forget();
        x.bridge(3, 4, TURN, 0);
        x.image(1);
        due("from(0)", x.from(0), 1);
        due("all is as it was", x.digest(), was);
        due("what may be undone, too", x.undo(), 2);
        due("the rule, too", x.undo(), 2);
        due("its kind", x.of(0, 2), SWEET);
        x.river(7);
        due("from(0) once more", x.from(0), 1);
        due("as it was once more", x.digest(), was);
        x.type('b');
        x.stammer(1, 0, 5, 0);
        due("from(1)", x.from(1), 1);
        due("its bridges", x.count(0), 2);
        due("its row", x.at(1, 2), 1);
        due("the text is not of it", x.count(4), 2);
        due("the fraction is not of it", x.part(0), 1);
        due("refusals are not of it", refused(x), 40100);
        due("an image is kept anew", x.image(0), 1);
        x.river(0);
        x.from(0);
        due("it is the new one", x.count(0), 2);
    }

    private static void status() {
        BridgeNames x = new BridgeNames();
        x.undo();
        x.undo();
        x.from(0);
        x.river(12);
        x.at(0, -2);
        for (int k = 0; k < 13; k++) {
            x.say(0, 0);
        }
        due("status(0)", x.status(0), 2);
        due("status(1)", x.status(1), 3);
        due("status(2)", x.status(2), 1);
        due("status(3)", x.status(3), -1);
        due("status(-1)", x.status(-1), -1);
        due("these count as BAD", x.status(0), 4);
        x.flood(9, 9, 9, 9, 9);
        due("-100 counts as BAD", x.status(0), 5);
        x.at(0, 12);
        x.way(0, 0, 1, -1);
        x.nothing(0, 0);
        read(x, "river");
        due("-5, NONE and a FAULT do not count", refused(x), 60301);
    }

    private static void count() {
        BridgeNames x = one(9, PLAIN, 0);
        x.bridge(1, 0, PLAIN, 0);
        x.bridge(1, 0, PLAIN, 0);
        x.note(0, 0, 0);
        x.rule(0, 0, 0);
        x.month(1);
        x.type(0);
        x.type(0);
        x.type(0);
        x.type(0);
        int[] want = {3, 10, 1, 2, 4};
        for (int what = 0; what < 5; what++) {
            due("count(" + what + ")", x.count(what), want[what]);
        }
        due("count(5)", x.count(5), -2);
        due("count(-1)", x.count(-1), -2);
        due("refused", refused(x), 20000);
    }

    private static long hashed(long... values) {
        long h = 1009;
        for (long v : values) {
            h = 31 * h + v;
        }
        return h;
    }

    private static void digest() {
        BridgeNames x = new BridgeNames();
        due("digest of a new one", x.digest(), hashed(0, 0, 0, 0, 0, 0, 0, 0, 0, 0, 1));
        x.river(6);
        x.bridge(2, 3, SWEET, 15);
        x.bridge(5, 4, FEAST, 7);
        name(x, 0, 11, 12);
        name(x, 2, 13);
        x.note(1, 0, 2);
        x.month(7);
        x.note(0, 3, 0);
        x.type('x');
        x.stammer(2, 0, 5, 3);
        x.count(9);
        due("digest of all", x.digest(), hashed(2, 1, 2, 1, 1, 2, 3, 1, 15, 5, 4, 5, 7, 2, 11, 12, 0, 1, 13, 0,
            1, 6, 2, 11, 12, 1, 13, 0, 1, 0, 2, 11, 12, 1, 2));
        due("digest is no refusal", refused(x), 10000);
    }

    public static void main(String[] args) {
        newObject();
        river();
        bridge();
        rule();
        month();
        undo();
        say();
        hush();
        typeAndClear();
        of();
        at();
        kinds();
        called();
        nothing();
        boat();
        way();
        ways();
        curse();
        above();
        noteAndForget();
        fits();
        tries();
        renamed();
        stammerAndPart();
        boatsAndFlood();
        imageAndFrom();
        status();
        count();
        digest();
        DUE.end();
    }
}
