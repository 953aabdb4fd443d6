import java.util.ArrayList;
import java.util.List;

/** Rivers to begin a test with, and a look at all that a call can have changed. */
final class Rivers {
    static final int PLAIN = 0, SWEET = 1, DROP = 2, TURN = 3, DOUBLE = 4, FEAST = 5;
    static final int LEAST = Integer.MIN_VALUE, MOST = Integer.MAX_VALUE;
    /** What busy rivers have for a text: a river unlike them. */
    static final String TEXT = "river 7;bridge 4 5 2 14;bridge 3 2 4 8;row 2 9 8 7;";

    private Rivers() {
    }

    static BridgeNames fresh() {
        return new BridgeNames();
    }

    /** Something of each and room for more; image 0 is kept, image 1 is not. */
    static BridgeNames busy() {
        BridgeNames x = new BridgeNames();
        x.river(10);
        x.bridge(0, 1, SWEET, 3);
        x.bridge(1, 2, FEAST, 7);
        x.bridge(2, 0, DOUBLE, 9);
        x.bridge(0, 5, TURN, 2);
        name(x, 0, 1, 2, 3);
        name(x, 1, 4);
        name(x, 3, 15, 0);
        x.note(1, 0, 1);
        x.month(1);
        x.image(0);
        x.rule(0, DROP, 4);
        x.month(2);
        x.note(0, 0, 1);
        x.say(2, 6);
        x.stammer(3, 3, 3, 3);
        type(x, TEXT);
        return x;
    }

    /** No room for anything more: bridges, rows, noted, what may be undone, the text; both images are kept. */
    static BridgeNames full() {
        BridgeNames x = new BridgeNames();
        x.river(3);
        for (int k = 0; k < 8; k++) {
            x.bridge(k % 6, (k + 1) % 6, k % 6, 15 - k);
        }
        x.image(1);
        for (int row = 0; row < 4; row++) {
            name(x, row, row, 1, 2, 3, 4, 5, 6, 7, 8, 9, 10, 15);
        }
        for (int k = 0; k < 8; k++) {
            x.note(k, k % 4, 3 - k % 4);
        }
        for (int k = 0; k < 4; k++) {
            x.month(k + 1);
            x.rule(k, 5 - k, k);
        }
        x.image(0);
        x.stammer(1, 0, 7, 15);
        type(x, TEXT + " ".repeat(150 - TEXT.length()));
        return x;
    }

    /** A river of one bridge from 0 to 1. */
    static BridgeNames one(int month, int kind, int n) {
        BridgeNames x = new BridgeNames();
        x.river(month);
        x.bridge(0, 1, kind, n);
        return x;
    }

    /** So many bridges that leave the name as it is, from 0 to 1 and from 1 to 0 by turns. */
    static BridgeNames plain(int bridges) {
        BridgeNames x = new BridgeNames();
        for (int k = 0; k < bridges; k++) {
            x.bridge(k % 2, 1 - k % 2, PLAIN, 0);
        }
        return x;
    }

    /** Empties a row and says these to it. */
    static void name(BridgeNames x, int row, int... syllables) {
        x.hush(row);
        for (int s : syllables) {
            x.say(row, s);
        }
    }

    static void type(BridgeNames x, String text) {
        x.clear();
        for (int i = 0; i < text.length(); i++) {
            x.type(text.charAt(i));
        }
    }

    /** The syllables first, first + 1 .., so many. */
    static int[] count(int first, int many) {
        int[] name = new int[many];
        for (int i = 0; i < many; i++) {
            name[i] = first + i;
        }
        return name;
    }

    /** All that can be told of it but STATUS. It is of no use behind this, and few calls are left to it. */
    static List<Long> all(BridgeNames x) {
        List<Long> told = new ArrayList<>();
        told.add(x.part(0));
        told.add(x.part(1));
        addRiver(told, x);
        addUndone(told, x);
        for (int i = 0; i < 2; i++) {
            told.add((long) x.from(i));
            told.add(x.digest());
            addUndone(told, x);
        }
        told.add((long) x.read());
        addRiver(told, x);
        return told;
    }

    private static void addRiver(List<Long> told, BridgeNames x) {
        for (int what = 0; what < 5; what++) {
            told.add((long) x.count(what));
        }
        for (int k = 0; k < x.count(0); k++) {
            for (int what = 0; what < 4; what++) {
                told.add((long) x.of(k, what));
            }
        }
        for (int row = 0; row < 4; row++) {
            told.add((long) x.at(row, -1));
        }
        told.add(x.digest());
    }

    private static void addUndone(List<Long> told, BridgeNames x) {
        for (int k = x.count(3); k > 0; k--) {
            told.add((long) x.undo());
            told.add(x.digest());
        }
    }
}
