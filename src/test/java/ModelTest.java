import java.util.Random;

/** Runs of calls drawn by a fixed seed: the class and the model must answer alike, and keep alike. */
public final class ModelTest {
    private static final int RUNS = 4000, LAST_CALL = 512;
    /** What one step and the looks behind it may take: a text of 150 bytes, told anew and read. */
    private static final int DEAREST_STEP = 160;
    private static final Due DUE = new Due("ModelTest");
    private static final String[] TEXTS = {
        "river 3;bridge 0 1 1 5;bridge 1 2 2 1;bridge 0 2 3 0;bridge 2 3 4 7;row 0 1 2 3;row 1 5;",
        "river 0;bridge 0 1 4 1;bridge 1 0 5 2;bridge 0 1 5 8;row 0 1 1;row 2 8;",
        "river 11; row 3 0 1 2 3 4 5 6 7 8 9 10 11 ; bridge 5 4 2 15 ;",
        "river 7;bridge 0 1 0 0;bridge 1 0 0 0;bridge 0 1 1 9;bridge 1 0 1 8;bridge 0 1 3 0;bridge 1 0 2 0;",
    };
    private static final String SIGNS = "0123456789;; abriverowdg16";

    private final Random random;
    private BridgeNames x = new BridgeNames();
    private Model model = new Model();
    private int bridges = 0;
    private int calls = 0;

    private ModelTest(long seed) {
        random = new Random(seed);
    }

    /** Mostly as told, now and then just outside or far away. */
    private int arg(int least, int most) {
        int luck = random.nextInt(60);
        if (luck == 0) {
            return least - 1;
        }
        if (luck == 1) {
            return most + 1;
        }
        if (luck == 2) {
            return random.nextInt();
        }
        return most < least ? least : least + random.nextInt(most - least + 1);
    }

    private int someBridge() {
        return arg(0, bridges - 1);
    }

    private int row() {
        return arg(0, 3);
    }

    private int place() {
        return arg(0, random.nextInt(3) == 0 ? 5 : 2);
    }

    private void same(String call, long got, long want) {
        calls++;
        DUE.is(call, got, want);
    }

    private void typeText() {
        StringBuilder text = new StringBuilder(TEXTS[random.nextInt(TEXTS.length)]);
        for (int k = random.nextInt(3); k > 0 && text.length() > 0; k--) {
            int place = random.nextInt(text.length());
            char sign = SIGNS.charAt(random.nextInt(SIGNS.length()));
            int how = random.nextInt(4);
            if (how == 0) {
                text.setCharAt(place, sign);
            } else if (how == 1) {
                text.insert(place, sign);
            } else if (how == 2) {
                text.deleteCharAt(place);
            } else {
                text.setLength(place);
            }
        }
        same("clear", x.clear(), model.clear());
        for (int i = 0; i < text.length(); i++) {
            same("type", x.type(text.charAt(i)), model.type(text.charAt(i)));
        }
        same("read " + text, x.read(), model.read());
    }

    private void change(int which) {
        int a = place();
        int b = place();
        int kind = arg(0, 5);
        int n = arg(0, 15);
        int bridge = someBridge();
        int row = row();
        int i = arg(0, 1);
        switch (which) {
            case 0: same("river", x.river(n % 13), model.river(n % 13)); break;
            case 1: case 2: case 3: same("bridge", x.bridge(a, b, kind, n), model.bridge(a, b, kind, n)); break;
            case 4: case 5: same("rule", x.rule(bridge, kind, n), model.rule(bridge, kind, n)); break;
            case 6: case 7: same("month", x.month(n - 2), model.month(n - 2)); break;
            case 8: case 9: same("undo", x.undo(), model.undo()); break;
            case 10: case 11: case 12: case 13: same("say", x.say(row, n), model.say(row, n)); break;
            case 14: same("hush", x.hush(row), model.hush(row)); break;
            case 15: same("type", x.type(n * 9), model.type(n * 9)); break;
            case 16: typeText(); break;
            case 17: same("note", x.note(bridge, row, a), model.note(bridge, row, a)); break;
            case 18: seen(bridge, row); break;
            case 19: same("forget", x.forget(), model.forget()); break;
            case 20: same("image", x.image(i), model.image(i)); break;
            default: same("from", x.from(i), model.from(i)); break;
        }
        bridges = (int) model.count(0);
    }

    /** Notes what the bridge does make of a row, so that some pairs fit. */
    private void seen(int bridge, int row) {
        int q = (row & 3) ^ 1;
        int many = x.called(row, bridge, bridge, -1);
        same("called", many, model.called(row, bridge, bridge, -1));
        same("hush", x.hush(q), model.hush(q));
        for (int i = 0; i < many; i++) {
            int s = x.called(row, bridge, bridge, i);
            same("called", s, model.called(row, bridge, bridge, i));
            same("say", x.say(q, s), model.say(q, s));
        }
        same("note", x.note(bridge, row, q), model.note(bridge, row, q));
    }

    private void ask(int which) {
        int row = row();
        int q = row();
        int a = place();
        int b = place();
        int k = someBridge();
        int m = someBridge();
        int i = arg(-1, 12);
        int what = arg(0, 1);
        int says = arg(0, 65535) | random.nextInt(65536);
        int c = arg(0, 10);
        int said = arg(0, 24);
        int seed = arg(0, 999999);
        int n = arg(0, 60);
        switch (which) {
            case 0: same("of", x.of(k, i), model.of(k, i)); break;
            case 1: same("at", x.at(row, i), model.at(row, i)); break;
            case 2: case 3: same("called", x.called(row, k, m, i), model.called(row, k, m, i)); break;
            case 4: same("nothing", x.nothing(row, k), model.nothing(row, k)); break;
            case 5: same("boat", x.boat(row, says, k, m, what), model.boat(row, says, k, m, what)); break;
            case 6: same("boat", x.boat(row, 65535, k, m, what), model.boat(row, 65535, k, m, what)); break;
            case 7: same("way", x.way(row, a, b, i / 3), model.way(row, a, b, i / 3)); break;
            case 8: same("way", x.way(row, a, b, -1), model.way(row, a, b, -1)); break;
            case 9: same("ways", x.ways(row, a, b, what), model.ways(row, a, b, what)); break;
            case 10: same("curse", x.curse(row, q, a), model.curse(row, q, a)); break;
            case 11: same("above", x.above(k, row, what), model.above(k, row, what)); break;
            case 12: same("fits", x.fits(k, what), model.fits(k, what)); break;
            case 13: same("tries", x.tries(k), model.tries(k)); break;
            case 14: same("renamed", x.renamed(row, k), model.renamed(row, k)); break;
            case 15: same("stammer", x.stammer(row, k, c, said), model.stammer(row, k, c, said)); break;
            case 16: same("boats", x.boats(row, seed, n), model.boats(row, seed, n)); break;
            case 17: same("flood", x.flood(row, seed, n, k, m), model.flood(row, seed, n, k, m)); break;
            case 18: same("part", x.part(what), model.part(what)); break;
            case 19: same("status", x.status(i), model.status(i)); break;
            default: same("count", x.count(i), model.count(i)); break;
        }
    }

    private void run() {
        while (calls < LAST_CALL - DEAREST_STEP) {
            if (random.nextInt(5) < 2) {
                change(random.nextInt(22));
            } else {
                ask(random.nextInt(21));
            }
            same("digest", x.digest(), model.digest());
        }
        for (int what = 0; what < 3; what++) {
            same("status", x.status(what), model.status(what));
        }
        DUE.holds("no more than 512 calls, but " + calls, calls <= LAST_CALL);
    }

    public static void main(String[] args) {
        for (int seed = 0; seed < RUNS && DUE.wrong() == 0; seed++) {
            new ModelTest(seed).run();
        }
        DUE.end();
    }
}
