/** The edges of syllables, names, rows, months, places, bridges and of the rules of each kind. */
final class TermEdges {
    private static final int PLAIN = Rivers.PLAIN, SWEET = Rivers.SWEET, DROP = Rivers.DROP, TURN = Rivers.TURN;
    private static final int DOUBLE = Rivers.DOUBLE, FEAST = Rivers.FEAST, LEAST = Rivers.LEAST, MOST = Rivers.MOST;

    private final Sentences s;

    private TermEdges(Sentences s) {
        this.s = s;
    }

    static void all(Sentences s) {
        TermEdges t = new TermEdges(s);
        s.says("SYLLABLES are 0 ..", t::syllables);
        s.says("15. A NAME is a row of 0 to 12 of them.", t::names);
        s.says("ROWS 0 .. 3 hold NAMES (empty at first).", t::rows);
        s.says("MONTHS 0 .. 11 (0 at first);", t::months);
        s.says("FEASTS are MONTHS 0, 4, 8.", t::feasts);
        s.says("PLACES 0 .. 5.", t::places);
        s.says("BRIDGES 0 .. 7, as they come:", t::bridges);
        s.says("from a PLACE to an unlike one (one goes just so),", t::unlikePlaces);
        s.says("a KIND, n (0 .. 15). KINDS are RULES, each under the one told, say what becomes of a NAME:", t::kinds);
        s.says("0 PLAIN: it stays.", t::plain);
        s.says("1 SWEET (under PLAIN): as PLAIN, then n comes behind it (if it has 12 already, in place of the last one).",
            t::sweet);
        s.says("2 DROP (under PLAIN): as PLAIN, then of it n by 3 left over and 1 more SYLLABLES are dropped at its end "
            + "(all, if it has no more).", t::drop);
        s.says("3 TURN (under PLAIN): as PLAIN, then it is turned round.", t::turn);
        s.says("4 DOUBLE (under SWEET): as SWEET, then its first SYLLABLE once more ahead of it "
            + "(if it has 12 then, the last one is lost).", t::twice);
        s.says("5 FEAST (under DROP): in FEASTS as DROP, else each SYLLABLE is n more, by 16 left over.", t::feast);
    }

    private void syllables() {
        for (int v = 0; v < 16; v++) {
            BridgeNames x = new BridgeNames();
            s.is("say " + v, x.say(v % 4, v), 1);
            s.is("it is said", x.at(v % 4, 0), v);
        }
        for (int wrong : new int[] {-1, 16, LEAST, MOST}) {
            s.bad("say(0, " + wrong + ")", Rivers::fresh, x -> x.say(0, wrong), -2);
            s.bad("say(1, " + wrong + ")", Rivers::busy, x -> x.say(1, wrong), -2);
        }
    }

    private void names() {
        BridgeNames x = new BridgeNames();
        for (int many = 0; many < 12; many++) {
            s.rowIs("a name of " + many, x, 2, Rivers.count(3, many));
            s.is("one more", x.say(2, 3 + many), many + 1);
        }
        s.rowIs("a name of 12", x, 2, Rivers.count(3, 12));
        s.is("a 13th", x.say(2, 0), -4);
        s.rowIs("still of 12", x, 2, Rivers.count(3, 12));
        for (int kind = 0; kind < 6; kind++) {
            BridgeNames y = Rivers.one(1, kind, 5);
            Rivers.name(y, 0, Rivers.count(0, 12));
            int most = kind == DROP ? 9 : 12;
            s.is("none is longer by kind " + kind, y.called(0, 0, 0, -1), most);
        }
        for (int wrong : new int[] {12, 13, MOST}) {
            s.is("no name has a syllable " + wrong, x.at(2, wrong), -5);
        }
    }

    private void rows() {
        BridgeNames x = new BridgeNames();
        for (int row = 0; row < 4; row++) {
            s.rowIs("empty at first", x, row);
        }
        for (int row = 0; row < 4; row++) {
            s.is("row " + row, x.say(row, 15 - row), 1);
            s.is("row " + row + " once more", x.say(row, row), 2);
        }
        for (int row = 0; row < 4; row++) {
            s.rowIs("each holds its own", x, row, 15 - row, row);
        }
        for (int wrong : new int[] {-1, 4, LEAST, MOST}) {
            s.bad("say to row " + wrong, Rivers::busy, y -> y.say(wrong, 0), -2);
            s.bad("hush row " + wrong, Rivers::busy, y -> y.hush(wrong), -2);
            s.bad("at row " + wrong, Rivers::busy, y -> y.at(wrong, 0), -10);
        }
    }

    private void months() {
        s.is("0 at first", new BridgeNames().count(1), 0);
        for (int month = 0; month < 12; month++) {
            int behind = month;
            for (int n = 1; n < 12; n++) {
                BridgeNames x = new BridgeNames();
                s.is("river(" + month + ")", x.river(month), 0);
                s.is("its month", x.count(1), month);
                behind = behind == 11 ? 0 : behind + 1;
                s.is("behind " + n + " months", x.month(n), behind);
                s.is("the month now", x.count(1), behind);
            }
        }
        for (int wrong : new int[] {-1, 12, LEAST, MOST}) {
            s.bad("river(" + wrong + ")", Rivers::busy, x -> x.river(wrong), -2);
        }
    }

    private void feasts() {
        for (int month = 0; month < 12; month++) {
            BridgeNames x = Rivers.one(month, FEAST, 1);
            Rivers.name(x, 0, 5, 6, 7);
            if (month == 0 || month == 4 || month == 8) {
                s.calledIs("month " + month, x, 0, 0, 0, 5);
            } else {
                s.calledIs("month " + month, x, 0, 0, 0, 6, 7, 8);
            }
        }
    }

    private void places() {
        for (int a = 0; a < 6; a++) {
            BridgeNames x = new BridgeNames();
            for (int b = 0; b < 6; b++) {
                int there = x.count(0);
                s.is("from " + a + " to " + b, x.bridge(a, b, 0, 0), a == b ? -2 : there);
                s.is("a way from " + a + " to " + b, x.ways(0, a, b, 1), a == b ? 0 : 1);
                s.is("no curse from " + b, x.curse(0, 0, b), 0);
            }
        }
        for (int wrong : new int[] {-1, 6, LEAST, MOST}) {
            s.bad("a bridge from " + wrong, Rivers::busy, x -> x.bridge(wrong, 1, 0, 0), -2);
            s.bad("a bridge to " + wrong, Rivers::busy, x -> x.bridge(1, wrong, 0, 0), -2);
            s.bad("a way from " + wrong, Rivers::busy, x -> x.way(0, wrong, 0, -1), -10);
            s.bad("a way to " + wrong, Rivers::busy, x -> x.way(0, 0, wrong, -1), -10);
            s.bad("ways from " + wrong, Rivers::busy, x -> x.ways(0, wrong, 0, 0), -2);
            s.bad("ways to " + wrong, Rivers::busy, x -> x.ways(0, 0, wrong, 0), -2);
            s.bad("a curse from " + wrong, Rivers::busy, x -> x.curse(0, 0, wrong), -2);
        }
    }

    private void bridges() {
        BridgeNames x = new BridgeNames();
        for (int there = 0; there <= 8; there++) {
            s.is("so many are there", x.count(0), there);
            s.is("the last one", x.of(there - 1, 3), there == 0 ? -2 : there + 6);
            s.is("none of number " + there, x.of(there, 3), -2);
            s.is("its number", x.bridge(0, 1, 0, there + 7), there == 8 ? -4 : there);
        }
        s.is("8 are there", x.count(0), 8);
        s.is("the first stays", x.of(0, 3), 7);
        s.is("none of number 8", x.of(8, 3), -2);
        s.full("a 9th", Rivers::full, y -> y.bridge(0, 1, 0, 0));
    }

    private void unlikePlaces() {
        for (int place = 0; place < 6; place++) {
            int both = place;
            s.bad("from " + place + " to it", Rivers::fresh, x -> x.bridge(both, both, 0, 0), -2);
            s.bad("from " + place + " to it, there are some", Rivers::busy, x -> x.bridge(both, both, 5, 15), -2);
        }
        BridgeNames x = Rivers.one(0, SWEET, 6);
        Rivers.name(x, 1, 6);
        s.is("one goes so", x.ways(0, 0, 1, 0), 1);
        s.is("one does not go back", x.ways(0, 1, 0, 0), 0);
        s.is("it is cursed so", x.curse(0, 1, 0), 1);
        s.is("it is not cursed by going back", x.curse(0, 1, 1), -1);
    }

    private void kinds() {
        for (int kind = 0; kind < 6; kind++) {
            for (int n = 0; n < 16; n++) {
                BridgeNames x = new BridgeNames();
                s.is("a bridge", x.bridge(0, 1, kind, n), 0);
                s.is("its kind", x.of(0, 2), kind);
                s.is("its n", x.of(0, 3), n);
                s.is("told anew", x.rule(0, 5 - kind, 15 - n), 16 * kind + n);
                s.is("its kind now", x.of(0, 2), 5 - kind);
                s.is("its n now", x.of(0, 3), 15 - n);
            }
        }
        for (int wrong : new int[] {-1, 6, LEAST, MOST}) {
            s.bad("a bridge of kind " + wrong, Rivers::busy, x -> x.bridge(0, 1, wrong, 0), -2);
            s.bad("a rule of kind " + wrong, Rivers::busy, x -> x.rule(0, wrong, 0), -2);
        }
        for (int wrong : new int[] {-1, 16, LEAST, MOST}) {
            s.bad("a bridge of n " + wrong, Rivers::busy, x -> x.bridge(0, 1, 0, wrong), -2);
            s.bad("a rule of n " + wrong, Rivers::busy, x -> x.rule(0, 0, wrong), -2);
        }
    }

    private void plain() {
        for (int n = 0; n < 16; n++) {
            BridgeNames x = Rivers.one(n % 12, PLAIN, n);
            Rivers.name(x, 1, n);
            Rivers.name(x, 2, 15, n, 0);
            Rivers.name(x, 3, Rivers.count(4, 12));
            s.calledIs("nothing", x, 0, 0, 0);
            s.calledIs("one", x, 1, 0, 0, n);
            s.calledIs("three", x, 2, 0, 0, 15, n, 0);
            s.calledIs("12", x, 3, 0, 0, Rivers.count(4, 12));
        }
    }

    private void sweet() {
        for (int many = 0; many <= 12; many++) {
            BridgeNames x = Rivers.one(0, SWEET, 15 - many);
            Rivers.name(x, 0, Rivers.count(1, many));
            int[] want = Rivers.count(1, Math.min(many + 1, 12));
            want[want.length - 1] = 15 - many;
            s.calledIs("of " + many, x, 0, 0, 0, want);
        }
    }

    private void drop() {
        int[] dropped = {1, 2, 3, 1, 2, 3, 1, 2, 3, 1, 2, 3, 1, 2, 3, 1};
        for (int n = 0; n < 16; n++) {
            for (int many = 0; many <= 12; many++) {
                BridgeNames x = Rivers.one(1, DROP, n);
                Rivers.name(x, 3, Rivers.count(2, many));
                s.calledIs("n " + n + " of " + many, x, 3, 0, 0, Rivers.count(2, Math.max(many - dropped[n], 0)));
            }
        }
    }

    private void turn() {
        for (int many = 0; many <= 12; many++) {
            BridgeNames x = Rivers.one(4, TURN, many);
            Rivers.name(x, 1, Rivers.count(3, many));
            int[] want = new int[many];
            for (int i = 0; i < many; i++) {
                want[i] = 3 + many - 1 - i;
            }
            s.calledIs("of " + many, x, 1, 0, 0, want);
        }
    }

    private void twice() {
        BridgeNames x = Rivers.one(2, DOUBLE, 9);
        s.calledIs("of nothing, n is its first", x, 0, 0, 0, 9, 9);
        Rivers.name(x, 0, 4);
        s.calledIs("of one", x, 0, 0, 0, 4, 4, 9);
        Rivers.name(x, 0, 0, 15);
        s.calledIs("of two", x, 0, 0, 0, 0, 0, 15, 9);
        Rivers.name(x, 0, 7, 1, 2, 3, 4, 5, 6, 7, 8);
        s.calledIs("of 9", x, 0, 0, 0, 7, 7, 1, 2, 3, 4, 5, 6, 7, 8, 9);
        Rivers.name(x, 0, 7, 1, 2, 3, 4, 5, 6, 7, 8, 15);
        s.calledIs("of 10, 12 in all", x, 0, 0, 0, 7, 7, 1, 2, 3, 4, 5, 6, 7, 8, 15, 9);
        Rivers.name(x, 0, 7, 1, 2, 3, 4, 5, 6, 7, 8, 15, 14);
        s.calledIs("of 11, n is lost", x, 0, 0, 0, 7, 7, 1, 2, 3, 4, 5, 6, 7, 8, 15, 14);
        Rivers.name(x, 0, 7, 1, 2, 3, 4, 5, 6, 7, 8, 15, 14, 13);
        s.calledIs("of 12, n and the last are lost", x, 0, 0, 0, 7, 7, 1, 2, 3, 4, 5, 6, 7, 8, 15, 14);
    }

    private void feast() {
        for (int n = 0; n < 16; n++) {
            for (int first = 0; first < 16; first++) {
                BridgeNames x = Rivers.one(11, FEAST, n);
                Rivers.name(x, 0, first, 15 - first);
                int more = first + n < 16 ? first + n : first + n - 16;
                int other = 15 - first + n < 16 ? 15 - first + n : n - first - 1;
                s.calledIs("n " + n, x, 0, 0, 0, more, other);
            }
            for (int many = 0; many <= 12; many++) {
                BridgeNames x = Rivers.one(8, FEAST, n);
                x.bridge(1, 0, DROP, n);
                Rivers.name(x, 0, Rivers.count(0, many));
                int left = Math.max(many - n % 3 - 1, 0);
                s.calledIs("in a feast, of " + many, x, 0, 0, 0, Rivers.count(0, left));
                s.calledIs("as DROP, of " + many, x, 0, 1, 1, Rivers.count(0, left));
            }
        }
        BridgeNames x = Rivers.one(11, FEAST, 15);
        s.calledIs("nothing stays nothing", x, 0, 0, 0);
        Rivers.name(x, 0, Rivers.count(0, 12));
        s.calledIs("of 12", x, 0, 0, 0, 15, 0, 1, 2, 3, 4, 5, 6, 7, 8, 9, 10);
    }
}
