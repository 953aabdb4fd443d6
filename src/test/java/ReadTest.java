/** Promise 11, read: texts that are read, and the place of the fault in those that are not. */
public final class ReadTest {
    private static final Due DUE = new Due("ReadTest");

    /** A river with something of each, so that what a reading leaves is seen. */
    private static BridgeNames made() {
        BridgeNames x = new BridgeNames();
        x.river(5);
        x.bridge(0, 1, 1, 5);
        x.bridge(1, 2, 2, 1);
        for (int row = 0; row < 4; row++) {
            x.say(row, row + 7);
        }
        x.note(0, 0, 1);
        x.month(2);
        x.stammer(0, 0, 5, 3);
        x.image(0);
        return x;
    }

    private static void type(BridgeNames x, String text) {
        x.clear();
        for (int i = 0; i < text.length(); i++) {
            x.type(text.charAt(i));
        }
    }

    private static BridgeNames reads(String text, int items) {
        BridgeNames x = made();
        type(x, text);
        DUE.is("read \"" + text + "\"", x.read(), items);
        DUE.is("its text stays", x.count(4), text.length());
        DUE.is("none noted", x.count(2), 0);
        DUE.is("none to undo", x.count(3), 0);
        DUE.is("the fraction stays", x.part(1), 2);
        DUE.is("an image stays", x.from(0), 1);
        x.read();
        return x;
    }

    private static void faults(String text, int fault) {
        BridgeNames x = made();
        type(x, text);
        long was = x.digest();
        DUE.is("read \"" + text + "\"", x.read(), -10 - fault);
        DUE.is("all stays", x.digest(), was);
        DUE.is("and may be undone", x.undo(), 5);
        DUE.is("it is no refusal", x.status(0) + x.status(1) + x.status(2), 0);
    }

    private static void rowIs(BridgeNames x, int row, int... want) {
        DUE.is("row " + row, x.at(row, -1), want.length);
        for (int i = 0; i < want.length; i++) {
            DUE.is("row " + row + ", " + i, x.at(row, i), want[i]);
        }
    }

    private static void whole() {
        BridgeNames x = reads("river 11;bridge 5 0 5 15; row 3 15 0 9;row 1;", 4);
        DUE.is("its month", x.count(1), 11);
        DUE.is("its bridges", x.count(0), 1);
        DUE.is("from", x.of(0, 0), 5);
        DUE.is("to", x.of(0, 1), 0);
        DUE.is("kind", x.of(0, 2), 5);
        DUE.is("n", x.of(0, 3), 15);
        rowIs(x, 0);
        rowIs(x, 1);
        rowIs(x, 2);
        rowIs(x, 3, 15, 0, 9);
        x = reads("  river   00  ;  bridge 00 01 02 03 ; ", 2);
        DUE.is("two figures are one number", x.of(0, 3), 3);
        reads("river 0;", 1);
        x = reads("river7;bridge1 2 3 4;row0 1;", 3);
        DUE.is("no blank is needed behind a word", x.of(0, 3), 4);
        x = reads("river 0;row 2 1 2 3;row 2 4;", 3);
        rowIs(x, 2, 4);
        x = reads("river 0;row 0 0 1 2 3 4 5 6 7 8 9 10 11;", 2);
        rowIs(x, 0, 0, 1, 2, 3, 4, 5, 6, 7, 8, 9, 10, 11);
        String eight = "river 0;bridge 0 1 0 0;bridge 0 1 0 0;bridge 0 1 0 0;bridge 0 1 0 0;"
            + "bridge 0 1 0 0;bridge 0 1 0 0;bridge 0 1 0 0;bridge 0 1 0 0;";
        x = reads(eight, 9);
        DUE.is("8 bridges", x.count(0), 8);
        x = reads("river 1;row 0 1;row 1 2;row 2 3;row 3 4;", 5);
        rowIs(x, 3, 4);
        faults(eight + "bridge 0 1 0 0;", eight.length());
        faults(eight + " bridge", eight.length() + 1);
        faults(eight + "row 4;", eight.length() + 4);
        String full = eight + "row 3 1 2 3 4 5 6 7;";
        x = reads(full + " ".repeat(150 - full.length()), 10);
        DUE.is("150 bytes", x.count(4), 150);
        faults(full + " ".repeat(149 - full.length()) + "x", 149);
    }

    private static void tooEarly() {
        String text = "river 3;bridge 0 1 2 3;row 1 2 3;";
        for (int end = 0; end < text.length(); end++) {
            String cut = text.substring(0, end);
            boolean inWord = end > 0 && Character.isLetter(text.charAt(end - 1)) && Character.isLetter(text.charAt(end));
            if (inWord) {
                faults(cut, Math.max(cut.lastIndexOf(' '), cut.lastIndexOf(';')) + 1);
            } else if (end != 8 && end != 23) {
                faults(cut, end);
                faults(cut + "  ", end + 2);
            }
        }
    }

    private static void ahead() {
        faults(";", 0);
        faults("0;", 0);
        faults(" bridge 0 1 0 0;", 1);
        faults("row 0;", 0);
        faults("River 0;", 0);
        faults("rivers 0;", 0);
        faults("rive 0;", 0);
        faults("riverz 0;", 0);
        faults("zriver 0;", 0);
        faults("riveraa 0;", 0);
        faults("aiver 0;", 0);
        faults("river`0;", 5);
        faults("river{0;", 5);
        faults("river;", 5);
        faults("river river;", 6);
        faults("river 0 0;", 8);
        faults("river 0;river 0;", 8);
        faults("river 0; boat 0;", 9);
        faults("river 0;;", 8);
        faults("river 0; 5;", 9);
        faults("river 0;bridges 0 1 0 0;", 8);
        faults("river 0;rows 0;", 8);
        faults("river 0;rowriver 0;", 8);
    }

    private static void numbers() {
        faults("river 12;", 6);
        faults("river 012;", 6);
        faults("river 000;", 6);
        faults("river 99999999999999999999;", 6);
        faults("river 4294967296;", 6);
        faults("river -1;", 6);
        faults("river 0;bridge 6 0 0 0;", 15);
        faults("river 0;bridge 0 6 0 0;", 17);
        faults("river 0;bridge 3 3 0 0;", 17);
        faults("river 0;bridge 3 03 0 0;", 17);
        faults("river 0;bridge 0 1 6 0;", 19);
        faults("river 0;bridge 0 1 0 16;", 21);
        faults("river 0;bridge 0 1 0 0 0;", 23);
        faults("river 0;bridge 0 1 0;", 20);
        faults("river 0;bridge 0 1 row 0;", 19);
        faults("river 0;row 4;", 12);
        faults("river 0;row;", 11);
        faults("river 0;row 0 16;", 14);
        faults("river 0;row 0 1 016;", 16);
        faults("river 0;row 0 0 1 2 3 4 5 6 7 8 9 0 1 2;", 38);
        faults("river 0;row 0 0 1 2 3 4 5 6 7 8 9 0 1 row", 38);
        faults("river 0;row 0 row;", 14);
    }

    private static void strangeBytes() {
        for (int c = 0; c < 128; c++) {
            boolean beginsOne = c == ' ' || c == ';' || c >= '0' && c <= '9' || c >= 'a' && c <= 'z';
            if (!beginsOne) {
                faults((char) c + "river 0;", 0);
                faults("river 0" + (char) c + ";", 7);
                faults("river 0; " + (char) c, 9);
            }
        }
    }

    public static void main(String[] args) {
        whole();
        tooEarly();
        ahead();
        numbers();
        strangeBytes();
        DUE.end();
    }
}
