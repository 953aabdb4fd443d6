import java.util.List;
import java.util.function.ToLongFunction;

/** The edges of UNDO, IMAGES, STATUS, THE FRACTION, of what is refused, and of how long an object is used. */
final class KeepEdges {
    private static final int PLAIN = Rivers.PLAIN, SWEET = Rivers.SWEET, DROP = Rivers.DROP, TURN = Rivers.TURN;
    private static final int FEAST = Rivers.FEAST, LAST_CALL = 512;
    /** A river in as many calls as there are here. */
    private static final List<ToLongFunction<BridgeNames>> BUILD = List.of(
        x -> x.river(3), x -> x.bridge(0, 1, SWEET, 3), x -> x.bridge(1, 0, TURN, 0), x -> x.say(0, 1), x -> x.say(0, 2),
        x -> x.say(1, 1), x -> x.note(1, 0, 1), x -> x.month(2), x -> x.image(0), x -> x.rule(0, FEAST, 9),
        x -> x.stammer(0, 1, 5, 3), x -> x.type('r'), x -> x.type('o'), x -> x.type('w'));
    /** Each call of the face that changes something. */
    private static final List<ToLongFunction<BridgeNames>> CHANGES = List.of(
        x -> x.river(11), x -> x.bridge(4, 5, DROP, 1), x -> x.rule(1, DROP, 15), x -> x.month(11), x -> x.undo(),
        x -> x.say(3, 15), x -> x.hush(0), x -> x.type(127), x -> x.clear(), x -> x.note(0, 0, 1), x -> x.forget(),
        x -> x.from(1), x -> x.count(99));
    /** Each other call, and those that change nothing the second time. */
    private static final List<ToLongFunction<BridgeNames>> ASKS = List.of(
        x -> x.read(), x -> x.of(0, 3), x -> x.at(0, 1), x -> x.called(0, 0, 1, 1), x -> x.nothing(0, 0),
        x -> x.boat(0, 65535, 0, 1, 1), x -> x.way(0, 0, 1, -1), x -> x.ways(0, 0, 0, 0), x -> x.curse(0, 1, 0),
        x -> x.above(1, 0, 1), x -> x.fits(0, 0), x -> x.tries(0), x -> x.renamed(0, 1), x -> x.stammer(0, 0, 5, 2),
        x -> x.boats(0, 7, 60), x -> x.flood(0, 7, 60, 0, 1), x -> x.part(1), x -> x.image(1), x -> x.from(0),
        x -> x.status(0), x -> x.count(0), x -> x.digest());

    private final Sentences s;

    private KeepEdges(Sentences s) {
        this.s = s;
    }

    static void all(Sentences s) {
        KeepEdges t = new KeepEdges(s);
        s.says("UNDO: RULES of BRIDGES, the MONTH as ahead of the last one told anew, MONTH gone by", t::undo);
        s.says("(8 at most; behind a BRIDGE that comes none may be).", t::undoEdges);
        s.says("IMAGES 0, 1 keep all but them, THE TEXT, THE FRACTION and STATUS;", t::images);
        s.says("what may be undone they keep; it goes on from one.", t::imagesUndone);
        s.says("STATUS: how many calls were refused as BAD, NO, FULL (each answer told so below is such a one).", t::status);
        s.says("THE FRACTION is 0 by 1 at first; lowest terms, below above 0.", t::fraction);
        s.says("Refused, changing nothing but STATUS, the first of: BAD -2 a number is not as told; NO -3 as told; FULL -4 "
            + "(where others are told they count as these).", t::refused);
        s.says("An object is used for at most 512 calls after it has been made; what later calls answer is free.",
            t::calls);
    }

    static long hashed(long... values) {
        long h = 1009;
        for (long v : values) {
            h = 31 * h + v;
        }
        return h;
    }

    private void undo() {
        BridgeNames x = Rivers.plain(8);
        x.rule(7, FEAST, 15);
        x.month(11);
        x.rule(7, SWEET, 0);
        x.rule(0, TURN, 1);
        s.is("four may be", x.count(3), 4);
        x.say(0, 5);
        x.note(0, 0, 0);
        x.stammer(0, 1, 5, 1);
        s.is("what is said and noted is none", x.count(3), 4);
        s.is("rule 0", x.undo(), 11);
        s.is("its kind", x.of(0, 2), PLAIN);
        s.is("rule 7 stays", x.of(7, 2), SWEET);
        s.is("rule 7", x.undo(), 11);
        s.is("its kind", x.of(7, 2), FEAST);
        s.is("its n", x.of(7, 3), 15);
        s.is("the month", x.undo(), 0);
        s.is("the month now", x.count(1), 0);
        s.is("rule 7 at first", x.undo(), 0);
        s.is("its kind", x.of(7, 2), PLAIN);
        s.is("its n", x.of(7, 3), 0);
        s.is("what was said stays", x.at(0, -1), 1);
        s.is("what was noted stays", x.count(2), 1);
        s.is("the fraction stays", x.part(1), 2);
        s.is("none is left", x.undo(), -3);
        x.rule(3, PLAIN, 0);
        s.is("told anew as it was, it may be undone, too", x.count(3), 1);
        x.undo();
        x.month(6);
        s.is("behind an undo", x.count(3), 1);
        s.is("it is that one", x.undo(), 0);
    }

    private void undoEdges() {
        BridgeNames x = Rivers.one(0, PLAIN, 0);
        for (int k = 1; k <= 15; k++) {
            x.rule(0, SWEET, k);
            s.is("may be undone", x.count(3), Math.min(k, 8));
        }
        for (int k = 14; k >= 7; k--) {
            x.undo();
            s.is("as ahead of it", x.of(0, 3), k);
        }
        s.is("8 at most", x.undo(), -3);
        s.is("the rest stays", x.of(0, 3), 7);
        x.month(1);
        s.is("a bridge that is refused", x.bridge(1, 1, 0, 0), -2);
        s.is("leaves it", x.count(3), 1);
        s.is("a bridge", x.bridge(1, 2, 0, 0), 1);
        s.is("none may be", x.count(3), 0);
        s.is("refused", x.undo(), -3);
        s.is("the month stays", x.count(1), 1);
        s.full("a 9th bridge leaves all that may be undone", Rivers::full, y -> y.bridge(0, 1, 0, 0));
        s.is("it is 8", Rivers.full().count(3), 8);
        mixedUndo();
        x.month(2);
        s.is("behind it one may be again", x.count(3), 1);
        s.is("undone", x.undo(), 1);
        x.month(2);
        x.river(5);
        s.is("behind river none may be", x.undo(), -3);
        x.month(2);
        Rivers.type(x, "river 9;");
        x.read();
        s.is("behind read none may be", x.undo(), -3);
        s.is("its month", x.count(1), 9);
        s.no("none in a new object", Rivers::fresh, y -> y.undo());
        s.no("none behind bridges", () -> Rivers.plain(8), y -> y.undo());
    }

    /** Of 12 that are of rules and of months by turns the last 8 are undone, each as what it is. */
    private void mixedUndo() {
        BridgeNames x = Rivers.plain(8);
        for (int k = 0; k < 6; k++) {
            x.rule(k + 2, SWEET, k);
            x.month(k + 1);
        }
        s.is("8 of 12", x.count(3), 8);
        int[] ahead = {0, 1, 3, 6, 10, 3};
        for (int k = 5; k >= 2; k--) {
            s.is("a month is undone", x.undo(), ahead[k]);
            s.is("its rule stays", x.of(k + 2, 2), SWEET);
            s.is("a rule is undone", x.undo(), ahead[k]);
            s.is("its kind", x.of(k + 2, 2), PLAIN);
        }
        s.is("the rest is gone", x.undo(), -3);
        s.is("the first rule stays", x.of(2, 2), SWEET);
        s.is("the second rule stays", x.of(3, 3), 1);
    }

    private void images() {
        BridgeNames x = Rivers.full();
        long was = x.digest();
        s.is("image(1)", x.image(1), 1);
        x.river(2);
        s.is("from(1)", x.from(1), 1);
        s.is("all is as it was", x.digest(), was);
        x.clear();
        x.type('a');
        x.stammer(0, 0, 0, 24);
        x.count(9);
        x.hush(0);
        x.forget();
        s.is("from(1) again", x.from(1), 1);
        s.rowIs("the row", x, 0, 0, 1, 2, 3, 4, 5, 6, 7, 8, 9, 10, 15);
        s.is("noted", x.count(2), 8);
        s.is("not the text", x.count(4), 1);
        s.is("not the fraction", x.part(0), 0);
        s.is("not STATUS", x.status(0), 1);
        imageOfNoted();
        BridgeNames y = new BridgeNames();
        s.is("a new one is kept", y.image(0), 1);
        y.bridge(0, 1, 0, 0);
        y.image(1);
        y.say(0, 9);
        s.is("from(0)", y.from(0), 1);
        s.is("it is the new one", y.count(0), 0);
        s.is("from(1) stays another", y.from(1), 1);
        s.is("with its bridge", y.count(0), 1);
        s.is("without what was said then", y.at(0, -1), 0);
        y.image(0);
        s.is("kept anew", y.from(0), 1);
        s.is("the later one", y.count(0), 1);
        for (int wrong : new int[] {-1, 2, Rivers.LEAST, Rivers.MOST}) {
            s.bad("image(" + wrong + ")", Rivers::busy, z -> z.image(wrong), -2);
            s.bad("from(" + wrong + ")", Rivers::busy, z -> z.from(wrong), -2);
        }
        s.no("none was kept as 1", Rivers::busy, z -> z.from(1));
        s.no("none was kept as 0", Rivers::fresh, z -> z.from(0));
    }

    /** What is noted behind an image is not of it, though it came into the room of what was. */
    private void imageOfNoted() {
        BridgeNames x = Rivers.plain(2);
        Rivers.name(x, 0, 3);
        Rivers.name(x, 1, 3, 9);
        x.month(1);
        x.note(0, 0, 1);
        x.note(1, 1, 0);
        x.image(1);
        long was = x.digest();
        x.forget();
        x.month(2);
        x.note(1, 2, 3);
        x.note(0, 2, 3);
        s.is("another is noted", x.fits(0, 0), 64);
        x.from(1);
        s.is("what was noted then", x.fits(0, 1), 25);
        s.is("of the other", x.fits(1, 1), 32);
        s.is("all of it", x.digest(), was);
    }

    private void imagesUndone() {
        BridgeNames x = Rivers.one(4, SWEET, 5);
        x.month(3);
        x.rule(0, TURN, 1);
        x.image(0);
        x.bridge(1, 2, 0, 0);
        s.is("none may be undone", x.undo(), -3);
        x.from(0);
        s.is("two may be", x.count(3), 2);
        s.is("the rule", x.undo(), 7);
        s.is("its kind", x.of(0, 2), SWEET);
        s.is("the month", x.undo(), 4);
        x.month(1);
        x.from(0);
        s.is("two may be again", x.count(3), 2);
        s.is("the same ones", x.undo(), 7);
        x.undo();
        x.rule(0, DROP, 6);
        x.month(5);
        x.rule(0, PLAIN, 9);
        x.from(0);
        s.is("not those of afterwards", x.undo(), 7);
        s.is("the rule then: kind", x.of(0, 2), SWEET);
        s.is("n", x.of(0, 3), 5);
        s.is("the month then", x.undo(), 4);
        s.is("no more", x.undo(), -3);
        x.river(0);
        x.image(1);
        x.from(0);
        x.from(1);
        s.is("of an image with none", x.undo(), -3);
        BridgeNames y = Rivers.full();
        y.from(0);
        s.is("8 are kept", y.count(3), 8);
        y.from(1);
        s.is("none in the other", y.count(3), 0);
    }

    private void status() {
        BridgeNames x = Rivers.full();
        for (int what = 0; what < 3; what++) {
            s.is("none at first", x.status(what), 0);
        }
        s.is("BAD -2", x.river(12), -2);
        s.is("BAD -10", x.at(4, 0), -10);
        s.is("BAD -100", x.flood(4, 0, 0, 0, 0), -100);
        s.is("BAD -1", x.status(3), -1);
        s.is("four", x.status(0), 4);
        x.river(0);
        s.is("NO", x.undo(), -3);
        s.is("one", x.status(1), 1);
        x.from(0);
        s.is("FULL", x.say(0, 0), -4);
        s.is("FULL", x.bridge(0, 1, 0, 0), -4);
        s.is("FULL", x.note(0, 0, 0), -4);
        s.is("FULL", x.type(0), -4);
        s.is("four", x.status(2), 4);
        s.is("-5 is none", x.at(0, 12), -5);
        s.is("NONE is none", x.renamed(0, 3), -1);
        x.clear();
        s.is("a FAULT is none", x.read(), -10);
        s.is("BAD", x.status(0), 4);
        s.is("NO", x.status(1), 1);
        s.is("FULL", x.status(2), 4);
    }

    private void fraction() {
        BridgeNames x = Rivers.one(0, PLAIN, 0);
        s.is("above at first", x.part(0), 0);
        s.is("below at first", x.part(1), 1);
        Rivers.name(x, 0, 1, 2);
        x.stammer(0, 0, 5, 3);
        s.is("50 by 100: above", x.part(0), 1);
        s.is("below", x.part(1), 2);
        x.stammer(0, 0, 5, 5);
        s.is("none: above", x.part(0), 0);
        s.is("below above 0", x.part(1), 1);
        x.stammer(0, 0, 0, 2);
        s.is("sure: above", x.part(0), 1);
        s.is("below", x.part(1), 1);
        Rivers.name(x, 0, Rivers.count(0, 12));
        x.stammer(0, 0, 3, 24);
        s.is("the least part of all, 3 to 12: above", x.part(0), 531441);
        s.is("below, 10 to 12", x.part(1), 1000000000000L);
        x.river(0);
        s.is("it stays behind river", x.part(0), 531441);
    }

    private void refused() {
        s.bad("BAD ahead of NO", Rivers::fresh, x -> x.from(2), -2);
        s.bad("BAD ahead of NO, below", Rivers::fresh, x -> x.from(-1), -2);
        s.bad("BAD ahead of FULL, a bridge", Rivers::full, x -> x.bridge(5, 5, 0, 0), -2);
        s.bad("BAD ahead of FULL, its n", Rivers::full, x -> x.bridge(0, 1, 0, 16), -2);
        s.bad("BAD ahead of FULL, a syllable", Rivers::full, x -> x.say(0, 16), -2);
        s.bad("BAD ahead of FULL, a row", Rivers::full, x -> x.say(4, 0), -2);
        s.bad("BAD ahead of FULL, a byte", Rivers::full, x -> x.type(128), -2);
        s.bad("BAD ahead of FULL, a note", Rivers::full, x -> x.note(8, 0, 0), -2);
        s.bad("BAD ahead of FULL, its row", Rivers::full, x -> x.note(0, 0, 4), -2);
        s.no("NO", Rivers::fresh, x -> x.undo());
        s.no("NO", Rivers::fresh, x -> x.from(1));
        s.full("FULL", Rivers::full, x -> x.bridge(5, 4, 5, 15));
        s.full("FULL", Rivers::full, x -> x.say(3, 15));
        s.full("FULL", Rivers::full, x -> x.type(127));
        s.full("FULL", Rivers::full, x -> x.note(7, 3, 0));
        s.bad("another answer, -10", Rivers::full, x -> x.boat(0, 0, 0, 0, 2), -10);
        s.bad("another answer, -100", Rivers::full, x -> x.flood(0, 0, 61, 0, 0), -100);
        s.bad("another answer, -1", Rivers::full, x -> x.status(-1), -1);
        s.bad("two wrong numbers count once", Rivers::busy, x -> x.bridge(9, 9, 9, 99), -2);
    }

    private static BridgeNames builtIn(int calls) {
        BridgeNames x = new BridgeNames();
        for (ToLongFunction<BridgeNames> call : BUILD) {
            call.applyAsLong(x);
        }
        for (int k = BUILD.size(); k < calls; k++) {
            x.count(0);
        }
        return x;
    }

    /** Two calls by turns, 512 in all, that answer the same each time. */
    private void byTurns(String told, ToLongFunction<BridgeNames> one, long answer, ToLongFunction<BridgeNames> other,
            long otherAnswer) {
        BridgeNames x = new BridgeNames();
        for (int k = 0; k < LAST_CALL; k += 2) {
            s.is(told + ", call " + (k + 1), one.applyAsLong(x), answer);
            s.is(told + ", call " + (k + 2), other.applyAsLong(x), otherAnswer);
        }
    }

    private void sameCalls() {
        byTurns("say, hush", x -> x.say(3, 15), 1, x -> x.hush(3), 1);
        byTurns("type, clear", x -> x.type(127), 1, x -> x.clear(), 1);
        byTurns("month, undo", x -> x.month(11), 11, x -> x.undo(), 0);
        byTurns("bridge, river", x -> x.bridge(5, 0, FEAST, 15), 0, x -> x.river(11), 1);
        byTurns("image, from", x -> x.image(1), 1, x -> x.from(1), 1);
        byTurns("forget, read", x -> x.forget(), 0, x -> x.read(), -10);
        byTurns("at, of", x -> x.at(3, -1), 0, x -> x.of(0, 0), -2);
        byTurns("way, ways", x -> x.way(0, 5, 5, -1), 0, x -> x.ways(0, 5, 5, 0), 1);
        byTurns("curse, boats", x -> x.curse(0, 1, 5), 0, x -> x.boats(0, 999999, 60), 60);
        byTurns("part, count", x -> x.part(1), 1, x -> x.count(4), 0);
        byTurns("status, undo", x -> x.status(2), 0, x -> x.undo(), -3);
        byTurns("digest", x -> x.digest(), hashed(0, 0, 0, 0, 0, 0, 0, 0, 0, 0, 1), x -> x.count(0), 0);
        // two calls made it
        BridgeNames x = Rivers.one(3, SWEET, 7);
        for (int call = 3; call <= LAST_CALL; call++) {
            s.is("rule, call " + call, x.rule(0, SWEET, 7), 23);
        }
    }

    private void calls() {
        for (ToLongFunction<BridgeNames> call : CHANGES) {
            lastCall(call);
        }
        for (ToLongFunction<BridgeNames> call : ASKS) {
            lastCall(call);
            againAndAgain(call);
        }
        sameCalls();
        refusedOften();
        BridgeNames x = builtIn(LAST_CALL);
        for (int k = 0; k < 5000; k++) {
            CHANGES.get(k % CHANGES.size()).applyAsLong(x);
            ASKS.get(k % ASKS.size()).applyAsLong(x);
        }
        s.is("none of the later calls threw", 1, 1);
    }

    private void lastCall(ToLongFunction<BridgeNames> call) {
        BridgeNames early = builtIn(BUILD.size());
        BridgeNames late = builtIn(LAST_CALL - 1);
        s.is("the 512th call", call.applyAsLong(late), call.applyAsLong(early));
    }

    private void againAndAgain(ToLongFunction<BridgeNames> call) {
        BridgeNames x = builtIn(BUILD.size());
        long first = call.applyAsLong(x);
        for (int k = BUILD.size() + 2; k <= LAST_CALL; k++) {
            s.is("the same as call " + k, call.applyAsLong(x), first);
        }
    }

    private void refusedOften() {
        BridgeNames bad = new BridgeNames();
        BridgeNames no = new BridgeNames();
        for (int k = 1; k < LAST_CALL; k++) {
            s.is("refused as BAD", bad.month(0), -2);
            s.is("refused as NO", no.undo(), -3);
        }
        s.is("BAD so often", bad.status(0), LAST_CALL - 1);
        s.is("NO so often", no.status(1), LAST_CALL - 1);
        BridgeNames full = Rivers.fresh();
        for (int k = 1; k < LAST_CALL; k++) {
            s.is("FULL behind 12", full.say(0, 0), k > 12 ? -4 : k);
        }
        s.is("FULL so often", full.status(2), LAST_CALL - 1 - 12);
    }
}
