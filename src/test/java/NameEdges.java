/** The edges of CALLED, NOTHING, BOAT, WAYS, CURSE and ABOVE. */
final class NameEdges {
    private static final int PLAIN = Rivers.PLAIN, SWEET = Rivers.SWEET, DROP = Rivers.DROP, TURN = Rivers.TURN;
    private static final int DOUBLE = Rivers.DOUBLE, FEAST = Rivers.FEAST, LEAST = Rivers.LEAST, MOST = Rivers.MOST;
    private static final int ALL = 65535;

    private final Sentences s;

    private NameEdges(Sentences s) {
        this.s = s;
    }

    static void all(Sentences s) {
        NameEdges t = new NameEdges(s);
        s.says("(Nothing is changed by these.)", t::nothingIsChanged);
        s.says("CALLED: what becomes of the NAME of a ROW behind BRIDGES a to b, one behind the other by numbers "
            + "(wherever they lead; a above b: as it is): how many SYLLABLES, the i-th.", t::called);
        s.says("NOTHING: the first BRIDGE from a on, gone through so, behind which it is empty; none.", t::nothing);
        s.says("A BOAT that can say SYLLABLES (bits), from ROW r through BRIDGES a to b:", t::boatBits);
        s.says("at each it must say what it is called behind it: the first BRIDGE at which it can not (none);",
            t::boatStops);
        s.says("TOLL: SYLLABLES said ahead of that, together.", t::boatToll);
        s.says("WAYS from a PLACE to one, with the NAME of a ROW at first, by BRIDGES, each once at most, 6 at most;",
            t::sixAtMost);
        s.says("one may end there as soon as one is there (no BRIDGE, if one is there already), "
            + "or go on and come again:", t::thereAlready);
        s.says("that by which the fewest SYLLABLES are said (at each BRIDGE what it is called behind it);", t::fewestSaid);
        s.says("of like ones the fewest BRIDGES, then the first row of BRIDGES:", t::likeWays);
        s.says("TOLL, how many BRIDGES, the i-th; none.", t::wayTold);
        s.says("HOW MANY such WAYS there are.", t::howManyWays);
        s.says("CURSE: the NAME of another ROW q: the fewest BRIDGES (0 .. 6, each once at most, one behind the other "
            + "as they lead) from a PLACE by which", t::curseBridges);
        s.says("what it is called at their end has the CURSE in it, one SYLLABLE behind the other "
            + "(an empty CURSE is in all): how many; none.", t::curseIn);
        s.says("ABOVE a BRIDGE: how many NAMES (of 0 to 2 SYLLABLES) there are that become by its RULE what ROW r is;",
            t::aboveMany);
        s.says("the least (of fewer SYLLABLES first, then by SYLLABLES: 17 times the first and 1, and the second and 1; "
            + "one alone: it and 1; none at all: 0); none.", t::aboveLeast);
    }

    private void nothingIsChanged() {
        s.asks("called", Rivers::busy, x -> x.called(0, 0, 3, -1), 3);
        s.asks("called, full", Rivers::full, x -> x.called(0, 7, 0, 11), 15);
        s.asks("nothing", Rivers::busy, x -> x.nothing(1, 0), 0);
        s.asks("boat", Rivers::busy, x -> x.boat(0, ALL, 0, 1, 1), 2);
        s.asks("way", Rivers::busy, x -> x.way(0, 0, 5, -1), 3);
        s.asks("way, full", Rivers::full, x -> x.way(3, 0, 0, -1), 0);
        s.asks("ways", Rivers::busy, x -> x.ways(0, 0, 5, 0), 2);
        s.asks("curse", Rivers::busy, x -> x.curse(0, 1, 0), -1);
        s.asks("above", Rivers::busy, x -> x.above(3, 1, 1), 5);
        s.asks("fits", Rivers::busy, x -> x.fits(3, 0), 96);
        s.asks("tries", Rivers::busy, x -> x.tries(3), 0);
        s.asks("renamed", Rivers::busy, x -> x.renamed(0, 3), 2);
        s.asks("boats", Rivers::full, x -> x.boats(0, 1, 0), 0);
        s.asks("flood", Rivers::full, x -> x.flood(0, 1, 60, 7, 7), 0);
        s.asks("of", Rivers::busy, x -> x.of(3, 3), 2);
        s.asks("at", Rivers::busy, x -> x.at(3, 1), 0);
        s.asks("part", Rivers::busy, x -> x.part(1), 50);
        s.asks("status", Rivers::busy, x -> x.status(0), 0);
        s.asks("count", Rivers::busy, x -> x.count(0), 4);
        BridgeNames x = Rivers.busy();
        s.is("digest twice", x.digest() - x.digest(), 0);
    }

    private void called() {
        BridgeNames x = new BridgeNames();
        x.bridge(5, 4, SWEET, 1);
        x.bridge(0, 3, TURN, 0);
        x.bridge(2, 1, SWEET, 2);
        Rivers.name(x, 0, 8, 9);
        s.calledIs("wherever they lead", x, 0, 0, 2, 1, 9, 8, 2);
        s.calledIs("one alone", x, 0, 1, 1, 9, 8);
        s.calledIs("the last alone", x, 0, 2, 2, 8, 9, 2);
        s.calledIs("a above b", x, 0, 1, 0, 8, 9);
        s.calledIs("a above b, all of them", x, 0, 2, 0, 8, 9);
        s.calledIs("a above b, of nothing", x, 1, 2, 0);
        s.is("the i-th, far behind", x.called(0, 0, 2, MOST), -5);
        s.is("nothing is refused", x.status(0), 0);
        BridgeNames y = Rivers.plain(8);
        Rivers.name(y, 0, Rivers.count(2, 12));
        y.rule(7, SWEET, 1);
        s.calledIs("all 8, of 12", y, 0, 0, 7, 2, 3, 4, 5, 6, 7, 8, 9, 10, 11, 12, 1);
    }

    private void nothing() {
        BridgeNames x = Rivers.plain(8);
        s.is("nothing at once", x.nothing(0, 0), 0);
        s.is("from the last on", x.nothing(0, 7), 7);
        Rivers.name(x, 0, 1, 2, 3);
        s.is("none", x.nothing(0, 0), -1);
        x.rule(7, DROP, 2);
        s.is("behind the last", x.nothing(0, 0), 7);
        s.is("at the last", x.nothing(0, 7), 7);
        x.rule(2, DROP, 2);
        s.is("the first of two", x.nothing(0, 0), 2);
        s.is("from it on", x.nothing(0, 2), 2);
        s.is("behind it, the other", x.nothing(0, 3), 7);
        x.say(0, 4);
        s.is("one is left, then dropped", x.nothing(0, 0), 7);
        x.rule(6, SWEET, 1);
        x.rule(7, DROP, 0);
        s.is("one comes, one is dropped", x.nothing(0, 0), -1);
        s.is("of nothing one comes", x.nothing(1, 6), 7);
        x.rule(7, PLAIN, 0);
        s.is("of nothing one comes and stays", x.nothing(1, 6), -1);
    }

    private void boatBits() {
        for (int v = 0; v < 16; v++) {
            BridgeNames x = Rivers.one(0, PLAIN, 0);
            Rivers.name(x, 0, v);
            s.is("it can say " + v, x.boat(0, 1 << v, 0, 0, 0), -1);
            s.is("it can say all but " + v, x.boat(0, ALL - (1 << v), 0, 0, 0), 0);
        }
        BridgeNames x = Rivers.plain(8);
        s.is("it can say nothing: nothing", x.boat(0, 0, 0, 7, 0), -1);
        s.is("its toll", x.boat(0, 0, 0, 7, 1), 0);
        Rivers.name(x, 0, 0, 15);
        s.is("it can say all", x.boat(0, ALL, 0, 7, 0), -1);
        s.is("it can say nothing", x.boat(0, 0, 0, 7, 0), 0);
        s.is("a above b", x.boat(0, 0, 7, 0, 0), -1);
        s.is("a above b: toll", x.boat(0, 0, 1, 0, 1), 0);
        s.is("from the last to the last", x.boat(0, 1, 7, 7, 0), 7);
        for (int wrong : new int[] {-1, 65536, LEAST, MOST}) {
            s.bad("it can say " + wrong, Rivers::busy, y -> y.boat(0, wrong, 0, 0, 0), -10);
        }
    }

    private void boatStops() {
        BridgeNames x = Rivers.plain(8);
        Rivers.name(x, 0, 3);
        x.rule(5, SWEET, 6);
        s.is("not what it is called ahead of it", x.boat(0, 1 << 3, 0, 7, 0), 5);
        s.is("it is not gone so far", x.boat(0, 1 << 3, 0, 4, 0), -1);
        s.is("at the last of them", x.boat(0, 1 << 3, 0, 5, 0), 5);
        s.is("both", x.boat(0, 1 << 3 | 1 << 6, 0, 7, 0), -1);
        s.is("at the first", x.boat(0, 1 << 6, 0, 7, 0), 0);
        x.rule(0, DROP, 0);
        s.is("nothing can be said by all, till one comes", x.boat(0, 0, 0, 7, 0), 5);
        x.rule(7, DROP, 0);
        s.is("behind it again", x.boat(0, 0, 7, 7, 0), -1);
    }

    private void boatToll() {
        BridgeNames x = Rivers.plain(8);
        Rivers.name(x, 0, Rivers.count(0, 12));
        s.is("12 at each", x.boat(0, ALL, 0, 7, 1), 96);
        s.is("none ahead of the first", x.boat(0, 0, 0, 7, 1), 0);
        Rivers.name(x, 0, 1, 1);
        x.rule(3, SWEET, 2);
        s.is("ahead of where it can not", x.boat(0, 1 << 1, 0, 7, 1), 6);
        s.is("there, too, if it can", x.boat(0, 1 << 1 | 1 << 2, 0, 7, 1), 6 + 15);
        s.is("of one bridge", x.boat(0, ALL, 3, 3, 1), 3);
        s.is("nothing is said", x.boat(1, ALL, 0, 2, 1), 0);
    }

    private void sixAtMost() {
        BridgeNames x = new BridgeNames();
        int[][] six = {{0, 2, DROP}, {2, 0, PLAIN}, {0, 3, PLAIN}, {3, 4, PLAIN}, {4, 5, PLAIN}, {5, 1, PLAIN}};
        for (int[] b : six) {
            x.bridge(b[0], b[1], b[2], 2);
        }
        Rivers.name(x, 0, 7, 7, 7);
        s.is("by 4 and by 6", x.ways(0, 0, 1, 0), 2);
        s.is("the best has 6", x.ways(0, 0, 1, 1), 6);
        for (int i = 0; i < 6; i++) {
            s.is("bridge " + i, x.way(0, 0, 1, i), i);
        }
        s.is("no 7th", x.way(0, 0, 1, 6), -5);
        s.is("toll", x.way(0, 0, 1, -1), 0);
        BridgeNames y = new BridgeNames();
        int[][] seven = {{0, 2}, {2, 3}, {3, 4}, {4, 0}, {0, 5}, {5, 3}, {3, 1}};
        for (int[] b : seven) {
            y.bridge(b[0], b[1], PLAIN, 0);
        }
        s.is("by 3 each, not by 7", y.ways(0, 0, 1, 0), 2);
        BridgeNames z = Rivers.plain(1);
        s.is("there by one", z.ways(0, 0, 1, 0), 1);
        z.bridge(1, 0, PLAIN, 0);
        s.is("there and back", z.ways(0, 0, 0, 0), 2);
        s.is("not there, back and there by the same", z.ways(0, 0, 1, 0), 1);
    }

    private void thereAlready() {
        BridgeNames x = Rivers.plain(4);
        for (int place = 0; place < 6; place++) {
            s.is("there already: toll", x.way(0, place, place, -1), 0);
            s.is("no bridge", x.way(0, place, place, 0), -5);
            s.is("so many", x.ways(0, place, place, 1), 0);
        }
        s.is("go on and come again, by 0, 2, 4", x.ways(0, 0, 0, 0), 1 + 4 + 4);
        s.is("by 1 and 3", x.ways(0, 0, 1, 0), 2 + 4);
        s.is("no bridge leads there", x.ways(0, 5, 5, 0), 1);
        BridgeNames y = Rivers.one(0, DOUBLE, 1);
        y.bridge(1, 0, DROP, 2);
        y.bridge(0, 1, PLAIN, 1);
        Rivers.name(y, 0, 1);
        s.is("it ends where it first is, if that is less", y.way(0, 0, 1, -1), 1);
        s.is("by the plain one", y.way(0, 0, 1, 0), 2);
    }

    private void fewestSaid() {
        BridgeNames x = new BridgeNames();
        x.bridge(0, 1, SWEET, 1);
        x.bridge(0, 2, DROP, 1);
        x.bridge(2, 1, PLAIN, 1);
        Rivers.name(x, 0, 4, 5);
        Rivers.name(x, 1, 1, 2, 3, 4, 5);
        Rivers.name(x, 2, 1, 2, 3, 4, 5, 6);
        s.is("by two, nothing is said", x.way(0, 0, 1, -1), 0);
        s.is("the first of them", x.way(0, 0, 1, 0), 1);
        s.is("3 + 3 are as many as 6, fewer bridges", x.way(1, 0, 1, 0), 0);
        s.is("toll", x.way(1, 0, 1, -1), 6);
        s.is("4 + 4 are more than 7", x.way(2, 0, 1, -1), 7);
        s.is("nothing at first: nothing by two", x.way(3, 0, 1, -1), 0);
        x.rule(2, SWEET, 0);
        s.is("what comes at the last bridge is said there", x.way(3, 2, 1, -1), 1);
        BridgeNames y = Rivers.plain(7);
        for (int k = 0; k < 7; k++) {
            y.rule(k, SWEET, k);
        }
        Rivers.name(y, 0, Rivers.count(0, 12));
        s.is("12 at one bridge", y.way(0, 0, 1, -1), 12);
    }

    private void likeWays() {
        BridgeNames x = new BridgeNames();
        x.bridge(0, 2, PLAIN, 0);
        x.bridge(2, 1, PLAIN, 0);
        x.bridge(2, 1, TURN, 0);
        x.bridge(0, 2, TURN, 0);
        s.is("the first row: first", x.way(0, 0, 1, 0), 0);
        s.is("the first row: second", x.way(0, 0, 1, 1), 1);
        x.bridge(0, 1, PLAIN, 0);
        s.is("the fewest bridges, though it comes later", x.way(0, 0, 1, 0), 4);
        s.is("one alone", x.ways(0, 0, 1, 1), 1);
        Rivers.name(x, 0, 9);
        x.rule(4, SWEET, 0);
        s.is("1 + 1 are as many as 2", x.way(0, 0, 1, 0), 4);
        Rivers.name(x, 0, 9, 9);
        x.rule(0, DROP, 0);
        s.is("fewer said is ahead of fewer bridges", x.way(0, 0, 1, -1), 2);
        s.is("by two", x.ways(0, 0, 1, 1), 2);
        BridgeNames y = new BridgeNames();
        y.bridge(3, 1, PLAIN, 0);
        y.bridge(0, 3, PLAIN, 0);
        y.bridge(2, 1, PLAIN, 0);
        y.bridge(0, 2, PLAIN, 0);
        s.is("the row that begins with less", y.way(0, 0, 1, 0), 1);
        s.is("then", y.way(0, 0, 1, 1), 0);
    }

    private void wayTold() {
        BridgeNames x = Rivers.one(0, SWEET, 2);
        s.is("toll", x.way(0, 0, 1, -1), 1);
        s.is("how many", x.ways(0, 0, 1, 1), 1);
        s.is("the first", x.way(0, 0, 1, 0), 0);
        s.is("not so many", x.way(0, 0, 1, 1), -5);
        s.is("far from so many", x.way(0, 0, 1, MOST), -5);
        s.is("none: toll", x.way(0, 1, 0, -1), -1);
        s.is("none: the first", x.way(0, 1, 0, 0), -1);
        s.is("none: far behind", x.way(0, 1, 0, MOST), -1);
        s.is("none: how many", x.ways(0, 1, 0, 1), -1);
        s.is("nothing is refused", x.status(0) + x.status(1) + x.status(2), 0);
    }

    private void howManyWays() {
        s.is("none", new BridgeNames().ways(0, 0, 5, 0), 0);
        s.is("by no bridge", new BridgeNames().ways(0, 5, 5, 0), 1);
        BridgeNames x = Rivers.plain(8);
        s.is("by 1, 3, 5", x.ways(0, 0, 1, 0), 4 + 48 + 288);
        s.is("by 0, 2, 4, 6", x.ways(0, 0, 0, 0), 1 + 16 + 144 + 576);
        BridgeNames y = new BridgeNames();
        for (int k = 0; k < 8; k++) {
            y.bridge(2, 3, DROP, k);
        }
        s.is("8 side by side", y.ways(0, 2, 3, 0), 8);
    }

    private void curseBridges() {
        BridgeNames x = new BridgeNames();
        for (int k = 0; k < 7; k++) {
            x.bridge(k % 6, (k + 1) % 6, SWEET, k);
        }
        for (int many = 1; many <= 6; many++) {
            Rivers.name(x, 1, many - 1);
            s.is("by " + many, x.curse(0, 1, 0), many);
        }
        Rivers.name(x, 1, 5, 6);
        s.is("not by 7", x.curse(0, 1, 0), -1);
        s.is("from one place later by 6", x.curse(0, 1, 1), 6);
        s.is("from the last place by 2", x.curse(0, 1, 5), 2);
        Rivers.name(x, 0, 5, 6);
        s.is("by none", x.curse(0, 1, 0), 0);
        BridgeNames y = Rivers.one(0, SWEET, 3);
        y.bridge(1, 0, PLAIN, 0);
        Rivers.name(y, 1, 3, 3);
        s.is("not twice by one bridge", y.curse(0, 1, 0), -1);
        y.bridge(0, 1, SWEET, 3);
        s.is("by another", y.curse(0, 1, 0), 3);
        BridgeNames w = Rivers.plain(8);
        w.rule(6, SWEET, 3);
        Rivers.name(w, 1, 3, 3);
        s.is("not twice by one of the last bridges", w.curse(0, 1, 0), -1);
        BridgeNames z = Rivers.one(0, SWEET, 3);
        z.bridge(2, 3, SWEET, 4);
        Rivers.name(z, 1, 3, 4);
        s.is("they do not lead on", z.curse(0, 1, 0), -1);
        s.is("nor from elsewhere", z.curse(0, 1, 2), -1);
    }

    private void curseIn() {
        BridgeNames x = new BridgeNames();
        Rivers.name(x, 0, 1, 2, 3, 4);
        int[][] in = {{}, {1}, {4}, {1, 2}, {2, 3}, {3, 4}, {1, 2, 3, 4}, {2, 3, 4}};
        for (int[] curse : in) {
            Rivers.name(x, 1, curse);
            s.is("it is in it", x.curse(0, 1, 0), 0);
        }
        int[][] notIn = {{5}, {0}, {1, 3}, {2, 1}, {4, 5}, {4, 0}, {0, 1}, {1, 2, 4}, {1, 2, 3, 4, 5}, {4, 1}};
        for (int[] curse : notIn) {
            Rivers.name(x, 1, curse);
            s.is("it is not in it", x.curse(0, 1, 0), -1);
        }
        s.is("an empty one is in nothing", x.curse(2, 3, 5), 0);
        Rivers.name(x, 1, 0);
        s.is("0 is not in nothing", x.curse(2, 1, 0), -1);
        Rivers.name(x, 1, Rivers.count(1, 12));
        Rivers.name(x, 2, Rivers.count(1, 12));
        s.is("12 in 12", x.curse(1, 2, 0), 0);
        Rivers.name(x, 2, Rivers.count(1, 11));
        s.is("11 in 12", x.curse(1, 2, 0), 0);
        s.is("not 12 in 11", x.curse(2, 1, 0), -1);
        BridgeNames y = Rivers.one(0, DROP, 0);
        Rivers.name(y, 0, 5, 5, 6);
        Rivers.name(y, 1, 5, 6);
        s.is("behind one that fits in part", y.curse(0, 1, 0), 0);
        BridgeNames z = Rivers.plain(2);
        z.rule(0, SWEET, 5);
        z.rule(1, TURN, 0);
        Rivers.name(z, 0, 6);
        Rivers.name(z, 1, 5, 6);
        s.is("at their end, turned", z.curse(0, 1, 0), 2);
    }

    private void aboveMany() {
        BridgeNames x = Rivers.one(0, PLAIN, 0);
        s.is("of nothing: itself", x.above(0, 0, 0), 1);
        Rivers.name(x, 0, 15, 15);
        s.is("of two: itself", x.above(0, 0, 0), 1);
        x.say(0, 15);
        s.is("of three: none", x.above(0, 0, 0), 0);
        x.rule(0, SWEET, 15);
        s.is("of three by SWEET: two", x.above(0, 0, 0), 1);
        x.rule(0, DOUBLE, 15);
        s.is("of three by DOUBLE: one", x.above(0, 0, 0), 1);
        x.say(0, 15);
        s.is("of four by DOUBLE: two", x.above(0, 0, 0), 1);
        x.say(0, 15);
        s.is("of five by DOUBLE: none", x.above(0, 0, 0), 0);
        x.rule(0, DROP, 2);
        s.is("all come to nothing", x.above(0, 1, 0), 273);
        x.rule(0, DROP, 0);
        s.is("of none and of one", x.above(0, 1, 0), 17);
        Rivers.name(x, 0, 3);
        s.is("of two", x.above(0, 0, 0), 16);
        x.rule(0, FEAST, 3);
        s.is("by FEAST in a feast", x.above(0, 0, 0), 16);
        x.month(1);
        s.is("by FEAST elsewhere", x.above(0, 0, 0), 1);
        x.rule(0, TURN, 0);
        Rivers.name(x, 0, 0, 15);
        s.is("by TURN", x.above(0, 0, 0), 1);
    }

    private void aboveLeast() {
        for (int first = 0; first < 16; first++) {
            BridgeNames x = Rivers.one(0, PLAIN, 0);
            Rivers.name(x, 0, first);
            s.is("one alone", x.above(0, 0, 1), first + 1);
            for (int second = 0; second < 16; second++) {
                Rivers.name(x, 0, first, second);
                s.is("two", x.above(0, 0, 1), 17 * (first + 1) + second + 1);
            }
        }
        BridgeNames x = Rivers.one(0, PLAIN, 0);
        s.is("none at all", x.above(0, 0, 1), 0);
        Rivers.name(x, 0, 1, 2, 3);
        s.is("none", x.above(0, 0, 1), -1);
        x.rule(0, DROP, 0);
        s.is("of fewer syllables first", x.above(0, 1, 1), 0);
        Rivers.name(x, 0, 15);
        s.is("the least of 16", x.above(0, 0, 1), 17 * 16 + 1);
        x.rule(0, SWEET, 15);
        s.is("nothing, by SWEET", x.above(0, 0, 1), 0);
        x.rule(0, TURN, 15);
        Rivers.name(x, 0, 15, 0);
        s.is("turned", x.above(0, 0, 1), 17 + 16);
        x.rule(0, DOUBLE, 4);
        Rivers.name(x, 0, 4, 4);
        s.is("nothing, by DOUBLE", x.above(0, 0, 1), 0);
    }
}
