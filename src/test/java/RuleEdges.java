import java.math.BigInteger;

/** The edges of NOTED, FITS, TRY, RENAMED, STAMMER, BOATS and FLOOD. */
final class RuleEdges {
    private static final int PLAIN = Rivers.PLAIN, SWEET = Rivers.SWEET, DROP = Rivers.DROP, TURN = Rivers.TURN;
    private static final int DOUBLE = Rivers.DOUBLE, FEAST = Rivers.FEAST, LEAST = Rivers.LEAST, MOST = Rivers.MOST;

    /** Seeds whose first boat can say all, and nothing. */
    private static final int SAYS_ALL = 51463, SAYS_NOTHING = 0;

    private final Sentences s;

    private RuleEdges(Sentences s) {
        this.s = s;
    }

    static void all(Sentences s) {
        RuleEdges t = new RuleEdges(s);
        s.says("NOTED 0 .. 7, as they come:", t::noted);
        s.says("a BRIDGE made ROW r (as it is now) that of ROW q, in the MONTH as it is now.", t::notedAsNow);
        s.says("FITS of a BRIDGE: pairs of a KIND and n by which all NOTED of it is so: how many;", t::fitsMany);
        s.says("the first (16 times the KIND and n; none).", t::fitsFirst);
        s.says("TRY for a BRIDGE: the ROW (0 .. 3) of which, by these pairs, the most that make it alike are fewest; "
            + "of like ones the first; none: no pair.", t::tries);
        s.says("RENAMED: the NAME of a ROW by a BRIDGE's RULE, again and again, the MONTH being one more each time "
            + "(11, then 0):", t::renamedMonths);
        s.says("behind how many MONTHS (1 .. 60) it is for the first time as it is now; none.", t::renamed);
        s.says("STAMMER: each SYLLABLE said at a BRIDGE (behind it) is said twice by c of 10 (0 .. 10), apart:",
            t::stammerOdds);
        s.says("the chance that k (0 .. 24) are said: THE FRACTION.", t::stammerSaid);
        s.says("BOATS by a SEED (0 .. 999999), n (0 .. 60), from ROW r through all BRIDGES by numbers:", t::boats);
        s.says("X is SEED at first; for each X becomes X times 1103515245 and 12345, by 2147483648 what is left over;",
            t::seeds);
        s.says("X by 32768 (cut), by 65536 left over, is what it can say (bits): how many can say all;", t::boatsBits);
        s.says("FLOOD: how many more could, were BRIDGES a and b in each other's stead.", t::flood);
    }

    private void noted() {
        BridgeNames x = Rivers.plain(8);
        s.is("none at first", x.count(2), 0);
        for (int k = 0; k < 8; k++) {
            s.is("noted " + k, x.note(k, k % 4, 3 - k % 4), k + 1);
            s.is("so many are there", x.count(2), k + 1);
        }
        s.is("a 9th", x.note(0, 0, 0), -4);
        s.is("still 8", x.count(2), 8);
        s.full("a 9th", Rivers::full, y -> y.note(0, 0, 0));
        s.full("a 9th of the last bridge", Rivers::full, y -> y.note(7, 3, 3));
        BridgeNames y = Rivers.plain(2);
        Rivers.name(y, 1, 5);
        y.note(1, 1, 0);
        y.note(0, 0, 1);
        long h = KeepEdges.hashed(2, 0, 2, 0, 0, 0, 1, 0, 0, 1, 0, 0, 0, 0, 1, 5, 0, 0, 1, 0, 1, 5, 0, 0, 0, 0, 1, 5, 0, 1);
        s.is("as they came, in the digest", y.digest(), h);
    }

    private void notedAsNow() {
        BridgeNames x = Rivers.one(1, PLAIN, 0);
        Rivers.name(x, 0, 3);
        Rivers.name(x, 1, 5);
        x.note(0, 0, 1);
        s.is("FEAST 2, not in a feast", x.fits(0, 1), 82);
        x.hush(0);
        x.say(1, 1);
        x.month(3);
        s.is("as the rows and the month were", x.fits(0, 1), 82);
        s.is("one alone", x.fits(0, 0), 1);
        x.forget();
        x.note(0, 1, 0);
        s.is("as they are now: DROP 1 is the first", x.fits(0, 1), 33);
        s.is("DROP and, in a feast, FEAST: of 2 or of 3", x.fits(0, 0), 20);
        x.undo();
        s.is("the month undone: as it was noted", x.fits(0, 0), 20);
        x.forget();
        s.is("row and q alike", x.note(0, 0, 0), 1);
    }

    private void fitsMany() {
        BridgeNames x = Rivers.plain(8);
        for (int k = 0; k < 8; k++) {
            s.is("none noted: all", x.fits(k, 0), 96);
        }
        x.note(7, 0, 0);
        s.is("nothing stays so by all but SWEET and DOUBLE", x.fits(7, 0), 64);
        s.is("another has none noted", x.fits(6, 0), 96);
        Rivers.name(x, 1, 1);
        x.note(7, 0, 1);
        s.is("nothing can not be both", x.fits(7, 0), 0);
        x.note(6, 0, 1);
        s.is("SWEET 1 alone", x.fits(6, 0), 1);
        for (int k = 0; k < 5; k++) {
            x.note(6, 0, 1);
        }
        s.is("noted 6 times", x.fits(6, 0), 1);
        s.is("the bridge's own rule is nothing to it", x.rule(6, DOUBLE, 3), 0);
        s.is("still SWEET 1", x.fits(6, 0), 1);
    }

    private void fitsFirst() {
        BridgeNames x = Rivers.one(11, PLAIN, 0);
        s.is("none noted: the first of all", x.fits(0, 1), 0);
        Rivers.name(x, 0, 0);
        Rivers.name(x, 1, 15);
        x.note(0, 0, 1);
        s.is("the last of all, FEAST 15", x.fits(0, 1), 95);
        s.is("it alone", x.fits(0, 0), 1);
        x.note(0, 1, 1);
        s.is("none", x.fits(0, 1), -1);
        s.is("none: how many", x.fits(0, 0), 0);
        s.is("nothing is refused", x.status(0), 0);
        x.forget();
        for (int n = 0; n < 16; n++) {
            Rivers.name(x, 1, 0, n);
            x.note(0, 0, 1);
            s.is("SWEET " + n, x.fits(0, 1), 16 + n);
            Rivers.name(x, 1, 0, 0, n);
            x.forget();
            x.note(0, 0, 1);
            s.is("DOUBLE " + n, x.fits(0, 1), 64 + n);
            x.forget();
        }
    }

    private void tries() {
        BridgeNames x = Rivers.one(1, PLAIN, 0);
        s.is("all alike: the first", x.tries(0), 0);
        for (int row = 3; row >= 0; row--) {
            BridgeNames y = Rivers.one(1, PLAIN, 0);
            Rivers.name(y, row, 1, 2, 3);
            s.is("the one that tells most", y.tries(0), row);
        }
        Rivers.name(x, 3, 1, 2, 3);
        Rivers.name(x, 1, 3, 2, 1);
        s.is("of like ones the first", x.tries(0), 1);
        Rivers.name(x, 0, 1, 2);
        // of 1 2 by DROP six are 1 and ten nothing, by PLAIN and FEAST 0 17 stay: as many as of 1 2 3
        s.is("of like ones the first, again", x.tries(0), 0);
        Rivers.name(x, 0, 2, 2);
        s.is("by PLAIN, TURN and FEAST 0 alike", x.tries(0), 1);
        x.note(0, 0, 2);
        s.is("DROP of two or three alone: the first row that tells them apart", x.tries(0), 1);
        x.note(0, 2, 0);
        s.is("no pair", x.tries(0), -1);
        s.is("nothing is refused", x.status(0), 0);
        BridgeNames z = Rivers.one(0, PLAIN, 0);
        Rivers.name(z, 0, 1);
        Rivers.name(z, 1, 2, 2);
        // in a feast 32 leave 1 as it is and 32 make nothing of it; 32 leave 2 2 as it is, 20 make nothing of it
        s.is("32 twice are as many as 32 once: the first", z.tries(0), 0);
        Rivers.name(z, 0, 2, 2);
        Rivers.name(z, 1, 1);
        s.is("the other way round, too", z.tries(0), 0);
        BridgeNames y = Rivers.one(1, PLAIN, 0);
        Rivers.name(y, 1, 0);
        Rivers.name(y, 2, 15);
        y.note(0, 1, 2);
        s.is("one pair: alike by all, the first row", y.tries(0), 0);
    }

    private void renamedMonths() {
        int[] want = {-1, 2, 2, -1, -1, 2, 2, -1, -1, 2, 2, -1};
        for (int month = 0; month < 12; month++) {
            BridgeNames x = Rivers.one(month, FEAST, 8);
            Rivers.name(x, 0, 1, 9);
            s.is("FEAST 8 from month " + month, x.renamed(0, 0), want[month]);
            s.is("the month stays", x.count(1), month);
            x.rule(0, FEAST, 0);
            s.is("FEAST 0 from month " + month, x.renamed(0, 0), month % 4 == 0 ? -1 : 1);
            s.is("nothing stays nothing", x.renamed(1, 0), 1);
        }
    }

    private void renamed() {
        BridgeNames x = Rivers.one(11, PLAIN, 3);
        Rivers.name(x, 0, 1, 2);
        Rivers.name(x, 1, 1, 2, 1);
        Rivers.name(x, 2, 5, 5, 5, 5, 5, 5, 5, 5, 5, 5, 5, 5);
        s.is("PLAIN", x.renamed(0, 0), 1);
        x.rule(0, TURN, 3);
        s.is("TURN", x.renamed(0, 0), 2);
        s.is("TURN of one that is alike both ways", x.renamed(1, 0), 1);
        s.is("TURN of nothing", x.renamed(3, 0), 1);
        x.rule(0, SWEET, 5);
        s.is("SWEET", x.renamed(0, 0), -1);
        s.is("SWEET of nothing", x.renamed(3, 0), -1);
        s.is("SWEET of 12", x.renamed(2, 0), 1);
        x.rule(0, SWEET, 4);
        s.is("another SWEET of 12", x.renamed(2, 0), -1);
        x.rule(0, DOUBLE, 4);
        s.is("DOUBLE of 12", x.renamed(2, 0), 1);
        s.is("DOUBLE of nothing", x.renamed(3, 0), -1);
        x.rule(0, DROP, 0);
        s.is("DROP", x.renamed(0, 0), -1);
        s.is("DROP of nothing", x.renamed(3, 0), 1);
        s.is("nothing is refused", x.status(0), 0);
        s.rowIs("the row stays", x, 0, 1, 2);
    }

    /** Of so many syllables, c of 10 said twice each, the chance that k are said, times 10 to so many. */
    private static long ways(int many, int c, int k) {
        if (many == 0) {
            return k == 0 ? 1 : 0;
        }
        return k < 0 ? 0 : (10 - c) * ways(many - 1, c, k - 1) + c * ways(many - 1, c, k - 2);
    }

    private void chanceIs(BridgeNames x, int many, int c, int k) {
        s.is("stammer of " + many + " by " + c + ", " + k, x.stammer(0, 0, c, k), 1);
        BigInteger above = BigInteger.valueOf(ways(many, c, k));
        BigInteger below = BigInteger.TEN.pow(many);
        BigInteger common = above.gcd(below);
        s.is("above", x.part(0), above.divide(common).longValueExact());
        s.is("below", x.part(1), below.divide(common).longValueExact());
    }

    private void stammerOdds() {
        for (int c = 0; c <= 10; c++) {
            BridgeNames x = Rivers.one(0, SWEET, 0);
            Rivers.name(x, 0, 7, 7);
            for (int k = 0; k <= 8; k++) {
                chanceIs(x, 3, c, k);
            }
        }
        BridgeNames x = Rivers.one(0, DROP, 2);
        Rivers.name(x, 0, 1, 2, 3);
        s.is("behind the bridge it is nothing", x.stammer(0, 0, 5, 0), 1);
        s.is("sure", x.part(0), 1);
        for (int wrong : new int[] {-1, 11, LEAST, MOST}) {
            s.bad("c is " + wrong, Rivers::busy, y -> y.stammer(0, 0, wrong, 3), -2);
        }
    }

    private void stammerSaid() {
        for (int many = 0; many <= 12; many++) {
            BridgeNames x = Rivers.one(0, PLAIN, 0);
            Rivers.name(x, 0, Rivers.count(0, many));
            for (int k = 0; k <= 24; k++) {
                chanceIs(x, many, many % 9 + 1, k);
            }
        }
        BridgeNames x = Rivers.one(0, PLAIN, 0);
        Rivers.name(x, 0, Rivers.count(0, 12));
        chanceIs(x, 12, 10, 24);
        s.is("always twice: sure", x.part(0), 1);
        chanceIs(x, 12, 0, 24);
        s.is("never twice: no chance", x.part(0), 0);
        s.is("below is 1 then", x.part(1), 1);
        for (int wrong : new int[] {-1, 25, LEAST, MOST}) {
            s.bad("k is " + wrong, Rivers::busy, y -> y.stammer(0, 0, 0, wrong), -2);
        }
    }

    private void boats() {
        BridgeNames x = new BridgeNames();
        Rivers.name(x, 0, 1, 2);
        for (int n : new int[] {0, 1, 59, 60}) {
            s.is("no bridges: all can", x.boats(0, 0, n), n);
            s.is("by the greatest seed", x.boats(0, 999999, n), n);
        }
        for (int wrong : new int[] {-1, 61, LEAST, MOST}) {
            s.bad("n is " + wrong, Rivers::busy, y -> y.boats(0, 0, wrong), -2);
            s.bad("flood, n is " + wrong, Rivers::busy, y -> y.flood(0, 0, wrong, 0, 1), -100);
        }
        for (int wrong : new int[] {-1, 1000000, LEAST, MOST}) {
            s.bad("the seed is " + wrong, Rivers::busy, y -> y.boats(0, wrong, 0), -2);
            s.bad("flood, the seed is " + wrong, Rivers::busy, y -> y.flood(0, wrong, 0, 0, 1), -100);
        }
        BridgeNames y = Rivers.plain(8);
        Rivers.name(y, 0, 4);
        y.rule(7, SWEET, 9);
        s.is("through the last bridge, too", y.boats(0, 77, 60), saying(77, 60, 4, 9));
        y.rule(0, DROP, 0);
        s.is("what it is called behind the first", y.boats(0, 77, 60), saying(77, 60, 9));
        y.rule(7, PLAIN, 9);
        s.is("nothing is said", y.boats(0, 77, 60), 60);
    }

    /** How many boats of a seed can say these. */
    private static int saying(long seed, int n, int... syllables) {
        BigInteger x = BigInteger.valueOf(seed);
        int many = 0;
        for (int k = 0; k < n; k++) {
            x = x.multiply(BigInteger.valueOf(1103515245)).add(BigInteger.valueOf(12345));
            x = x.mod(BigInteger.valueOf(2147483648L));
            BigInteger says = x.divide(BigInteger.valueOf(32768)).mod(BigInteger.valueOf(65536));
            boolean isAll = true;
            for (int v : syllables) {
                isAll &= says.testBit(v);
            }
            many += isAll ? 1 : 0;
        }
        return many;
    }

    private void seeds() {
        for (int seed : new int[] {0, 1, 2, 32767, 32768, 65535, 65536, 500000, 999998, 999999}) {
            BridgeNames x = Rivers.one(0, PLAIN, 0);
            Rivers.name(x, 0, 3);
            for (int n = 0; n <= 60; n++) {
                s.is("seed " + seed + ", " + n, x.boats(0, seed, n), saying(seed, n, 3));
            }
        }
    }

    private void boatsBits() {
        for (int v = 0; v < 16; v++) {
            BridgeNames x = Rivers.one(0, PLAIN, 0);
            Rivers.name(x, 0, v);
            s.is("syllable " + v, x.boats(0, 12345, 60), saying(12345, 60, v));
            x.say(0, 15 - v);
            s.is("two syllables", x.boats(0, 4321, 60), saying(4321, 60, v, 15 - v));
        }
        BridgeNames x = Rivers.one(0, PLAIN, 0);
        Rivers.name(x, 0, Rivers.count(0, 12));
        s.is("12 of them", x.boats(0, 1, 60), saying(1, 60, Rivers.count(0, 12)));
        s.is("one that can say all 16: 0 .. 11", x.boats(0, SAYS_ALL, 1), 1);
        Rivers.name(x, 0, Rivers.count(4, 12));
        s.is("one that can say all 16: 4 .. 15", x.boats(0, SAYS_ALL, 1), 1);
        for (int v = 0; v < 16; v++) {
            Rivers.name(x, 0, v);
            s.is("one that can say nothing", x.boats(0, SAYS_NOTHING, 1), 0);
        }
        x.hush(0);
        s.is("nothing is said by it, too", x.boats(0, SAYS_NOTHING, 1), 1);
    }

    private void flood() {
        BridgeNames x = Rivers.plain(8);
        Rivers.name(x, 0, 1);
        x.rule(0, SWEET, 2);
        x.rule(7, DROP, 1);
        int both = saying(5, 60, 1, 2);
        int second = saying(5, 60, 2);
        s.is("fewer can say both", both < second ? 1 : 0, 1);
        s.is("0 and 7 in each other's stead: nothing, then 2", x.flood(0, 5, 60, 0, 7), second - both);
        s.is("7 and 0, too", x.flood(0, 5, 60, 7, 0), second - both);
        s.is("one in its own stead", x.flood(0, 5, 60, 7, 7), 0);
        s.is("two that are alike", x.flood(0, 5, 60, 3, 4), 0);
        s.is("no boats", x.flood(0, 5, 0, 0, 7), 0);
        x.rule(0, DROP, 1);
        x.rule(7, SWEET, 2);
        s.is("it may be below 0", x.flood(0, 5, 60, 0, 7), both - second);
        s.is("the rules stay", x.of(0, 2) * 10 + x.of(7, 2), 21);
        for (int wrong : new int[] {-1, 4, LEAST, MOST}) {
            s.bad("a is " + wrong, Rivers::busy, y -> y.flood(0, 0, 0, wrong, 0), -100);
            s.bad("b is " + wrong, Rivers::busy, y -> y.flood(0, 0, 0, 0, wrong), -100);
        }
        s.bad("no bridges", Rivers::fresh, y -> y.flood(0, 0, 0, 0, 0), -100);
        s.bad("a is 8", Rivers::full, y -> y.flood(0, 0, 0, 8, 0), -100);
    }
}
