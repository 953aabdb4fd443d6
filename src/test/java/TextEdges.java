/** The edges of THE TEXT, of its items and tokens, and of each FAULT. */
final class TextEdges {
    private static final String BRIDGE = "bridge 0 1 0 0;";
    private static final String EIGHT = "river 0;" + BRIDGE.repeat(8);

    private final Sentences s;

    private TextEdges(Sentences s) {
        this.s = s;
    }

    static void all(Sentences s) {
        TextEdges t = new TextEdges(s);
        s.says("THE RIVER is told by a TEXT (150 bytes at most) of ITEMS, each ended by ; :", t::textAndItems);
        s.says("river MONTH (once, first of all);", t::river);
        s.says("bridge a b KIND n;", t::bridge);
        s.says("row k and its SYLLABLES (any).", t::row);
        s.says("TOKENS: words of letters a .. z,", t::words);
        s.says("figures (1 or 2 are one number),", t::figures);
        s.says("; ; blanks (32) between.", t::blanks);
        s.says("FAULT: the place of the first byte of the first TOKEN that can not stand there", t::firstFault);
        s.says("a word that is none,", t::noWord);
        s.says("river again,", t::riverAgain);
        s.says("anything ahead of it,", t::aheadOfRiver);
        s.says("a 9th bridge at its word,", t::ninthBridge);
        s.says("a third figure's number,", t::thirdFigure);
        s.says("a number not as told,", t::wrongNumber);
        s.says("also two PLACES alike,", t::placesAlike);
        s.says("a 13th SYLLABLE,", t::thirteenth);
        s.says("a byte that begins none, too);", t::strangeByte);
        s.says("the TEXT's length, if it ends too early", t::tooEarly);
        s.says("(an empty one, too).", t::empty);
        s.says("A RIVER that is read takes the place of all but IMAGES, THE TEXT, THE FRACTION, STATUS "
            + "(NOTED none; nothing to undo).", t::takesThePlace);
    }

    private static BridgeNames busyWith(String text) {
        BridgeNames x = Rivers.busy();
        Rivers.type(x, text);
        return x;
    }

    /** The text has a FAULT at that place; all stays, STATUS too. */
    private void fault(String text, int place) {
        s.asks("read \"" + text + "\"", () -> busyWith(text), x -> x.read(), -10 - place);
    }

    private BridgeNames read(String text, int items) {
        BridgeNames x = busyWith(text);
        s.is("read \"" + text + "\"", x.read(), items);
        s.is("the text stays", x.count(4), text.length());
        return x;
    }

    private void bridgeIs(String text, int a, int b, int kind, int n) {
        BridgeNames x = read("river 0;" + text, 2);
        s.is("one bridge", x.count(0), 1);
        s.is("from", x.of(0, 0), a);
        s.is("to", x.of(0, 1), b);
        s.is("kind", x.of(0, 2), kind);
        s.is("n", x.of(0, 3), n);
    }

    private void textAndItems() {
        String river = "river 5;" + " ".repeat(142);
        BridgeNames x = read(river, 1);
        s.is("150 bytes", x.count(4), 150);
        s.full("a 151st byte", () -> busyWith(river), y -> y.type(' '));
        s.full("a 151st byte behind 150", Rivers::full, y -> y.type(';'));
        fault("river 5;" + " ".repeat(141) + "?", 149);
        fault("river 5" + " ".repeat(143), 150);
        x = busyWith("river 5;" + " ".repeat(141));
        s.is("a 150th byte", x.type(';'), 150);
        s.is("is of the text", x.read(), -159);
        read("river 5;row 0;row 1;row 2;row 3;" + BRIDGE, 6);
        fault("river 5;row 0", 13);
        fault("river 5 row 0;", 8);
        fault("river 5;" + "row 0 bridge 0 1 0 0;", 14);
        fault("river 5;bridge 0 1 0 0 row 0;", 23);
        fault("river 5;;", 8);
        fault("river 5; ;", 9);
    }

    private void river() {
        for (int month = 0; month < 12; month++) {
            BridgeNames x = read("river " + month + ";", 1);
            s.is("its month", x.count(1), month);
            s.is("no bridge", x.count(0), 0);
        }
        fault("row 0;river 0;", 0);
        fault(BRIDGE + "river 0;", 0);
        fault("river 0;river 1;", 8);
        fault("river 0;row 0;river 0;", 14);
    }

    private void bridge() {
        for (int place = 0; place < 6; place++) {
            int other = 5 - place;
            bridgeIs("bridge " + place + " " + other + " " + place + " 0;", place, other, place, 0);
        }
        for (int n = 0; n < 16; n++) {
            bridgeIs("bridge 5 0 0 " + n + ";", 5, 0, 0, n);
        }
        BridgeNames x = read(EIGHT, 9);
        s.is("8 of them", x.count(0), 8);
        fault("river 0;bridge;", 14);
        fault("river 0;bridge 0;", 16);
        fault("river 0;bridge 0 1;", 18);
        fault("river 0;bridge 0 1 2;", 20);
        fault("river 0;bridge 0 1 2 3 4;", 23);
    }

    private void row() {
        StringBuilder told = new StringBuilder("river 0;row 3");
        for (int many = 0; many <= 12; many++) {
            BridgeNames x = read(told + ";", 2);
            s.rowIs("of " + many, x, 3, Rivers.count(3, many));
            for (int row = 0; row < 3; row++) {
                s.rowIs("another", x, row);
            }
            told.append(' ').append(3 + many);
        }
        BridgeNames x = read("river 0;row 0 0;row 1 1;row 2 2;row 3 15;", 5);
        for (int row = 0; row < 4; row++) {
            s.rowIs("row " + row, x, row, row == 3 ? 15 : row);
        }
        x = read("river 0;row 1 4 5;row 1 6;", 3);
        s.rowIs("told twice", x, 1, 6);
        x = read("river 0;row 1 4 5;row 1;", 3);
        s.rowIs("told empty the second time", x, 1);
        fault("river 0;row;", 11);
    }

    private void words() {
        fault("River 0;", 0);
        fault("riveR 0;", 0);
        fault("RIVER 0;", 0);
        fault("river 0;rOw 0;", 8);
        fault("`river 0;", 0);
        fault("river` 0;", 5);
        fault("{river 0;", 0);
        fault("river{ 0;", 5);
        fault("ariver 0;", 0);
        fault("riverz 0;", 0);
        fault("riv er 0;", 0);
        fault("river 0;bridgerow 0;", 8);
        fault("river 0;rowa 0;", 8);
        fault("river 0;row 0 a;", 14);
        fault("river 0;row 0 z;", 14);
    }

    private void figures() {
        for (int figure = 0; figure < 10; figure++) {
            BridgeNames x = read("river 0;row 0 " + figure + " 0" + figure + ";", 2);
            s.rowIs("one or two figures", x, 0, figure, figure);
        }
        BridgeNames x = read("river 11;row 03 1 1 11 1;", 2);
        s.rowIs("apart or together", x, 3, 1, 1, 11, 1);
        s.is("the month", x.count(1), 11);
        fault("river /;", 6);
        fault("river :;", 6);
        fault("river 0/;", 7);
        fault("river 0:;", 7);
        fault("river 1 1;", 8);
    }

    private void blanks() {
        BridgeNames x = read("   river   3   ;   bridge   2   4   1   7   ;   row   0   5   ;   ", 3);
        s.is("the month", x.count(1), 3);
        s.is("n", x.of(0, 3), 7);
        s.rowIs("the row", x, 0, 5);
        x = read("river 3;bridge 2 4 1 7;row 0 5;", 3);
        s.is("n without more of them", x.of(0, 3), 7);
        x = read("river3;bridge2 4 1 7;row0 5;", 3);
        s.rowIs("tokens that stay apart", x, 0, 5);
        for (int other : new int[] {0, 9, 10, 13, 31, 33, 127}) {
            fault("river" + (char) other + "3;", 5);
            fault("river 3;" + (char) other, 8);
        }
    }

    private void firstFault() {
        fault("river 0;boat 99;river 0;?", 8);
        fault("river 0;row   99   ;boat;", 14);
        fault("river 0;row 0 15 16 17;", 17);
        fault("river 0;bridge 5 4 3 16 ;;", 21);
        fault("    nothing", 4);
        fault("river 0;row 0 ; row 1 ? ;", 22);
    }

    private void noWord() {
        fault("r 0;", 0);
        fault("rive 0;", 0);
        fault("riverriver 0;", 0);
        fault("river 0; a", 9);
        fault("river 0;bridg 0 1 0 0;", 8);
        fault("river 0;bridges 0 1 0 0;", 8);
        fault("river 0;ro 0;", 8);
        fault("river 0;rows 0;", 8);
        fault("river 0;   wor 0;", 11);
        fault("river 0;row 0 ten;", 14);
        fault("rive", 0);
        fault("river 0;brid", 8);
        fault("diver 0;", 0);
        fault("rives 0;", 0);
        fault("river 0;fridge 0 1 0 0;", 8);
        fault("river 0;cow 0;", 8);
        fault("river 0;rod 0;", 8);
    }

    private void riverAgain() {
        fault("river 0;river 0;", 8);
        fault("river 0; river", 9);
        fault("river 0;" + BRIDGE + "row 0;river 0;", 29);
        fault("river river 0;", 6);
        fault("river 0 river;", 8);
        fault("river 0;row 0 river;", 14);
    }

    private void aheadOfRiver() {
        fault("bridge 0 1 0 0;river 0;", 0);
        fault("  row 0;river 0;", 2);
        fault(";river 0;", 0);
        fault(" 0 river 0;", 1);
        fault("?river 0;", 0);
        fault("000 river 0;", 0);
    }

    private void ninthBridge() {
        fault(EIGHT + BRIDGE, EIGHT.length());
        fault(EIGHT + "  bridge", EIGHT.length() + 2);
        fault(EIGHT + "bridge 9 9 9 9;", EIGHT.length());
        fault(EIGHT + "row 0;bridge;", EIGHT.length() + 6);
        read(EIGHT + "row 0;row 1;", 11);
    }

    private void thirdFigure() {
        fault("river 000;", 6);
        fault("river 110;", 6);
        fault("river 12345678901234567890;", 6);
        fault("river 4294967299;", 6);
        fault("river 0;bridge 001 0 0 0;", 15);
        fault("river 0;bridge 0 001 0 0;", 17);
        fault("river 0;bridge 0 1 000 0;", 19);
        fault("river 0;bridge 0 1 0 015;", 21);
        fault("river 0;row 003;", 12);
        fault("river 0;row 0 1 101;", 16);
        fault("river 0;row 0 111", 14);
    }

    private void wrongNumber() {
        fault("river 12;", 6);
        fault("river 99;", 6);
        fault("river -1;", 6);
        fault("river 0;bridge 6 0 0 0;", 15);
        fault("river 0;bridge 10 0 0 0;", 15);
        fault("river 0;bridge 0 6 0 0;", 17);
        fault("river 0;bridge 0 1 6 0;", 19);
        fault("river 0;bridge 0 1 0 16;", 21);
        fault("river 0;row 4;", 12);
        fault("river 0;row 0 16;", 14);
        fault("river 0;row 0 0 99", 16);
    }

    private void placesAlike() {
        for (int place = 0; place < 6; place++) {
            fault("river 0;bridge " + place + " " + place + " 0 0;", 17);
            fault("river 0;bridge " + place + "  0" + place + " 0 0;", 18);
        }
        fault("river 0;bridge 05 5", 18);
    }

    private void thirteenth() {
        String twelve = "river 0;row 2 0 1 2 3 4 5 6 7 8 9 0 1";
        BridgeNames x = read(twelve + ";", 2);
        s.rowIs("12 of them", x, 2, 0, 1, 2, 3, 4, 5, 6, 7, 8, 9, 0, 1);
        fault(twelve + " 2;", twelve.length() + 1);
        fault(twelve + "   02", twelve.length() + 3);
        fault(twelve + " 16;", twelve.length() + 1);
        fault(twelve, twelve.length());
    }

    private void strangeByte() {
        for (int c = 0; c < 128; c++) {
            boolean isOne = c >= 'a' && c <= 'z' || c >= '0' && c <= '9' || c == ';' || c == ' ';
            if (!isOne) {
                fault((char) c + "river 0;", 0);
                fault("river 0; " + (char) c, 9);
                fault("river 0;row 0 1" + (char) c + ";", 15);
            }
        }
    }

    private void tooEarly() {
        String[] cuts = {"river", "river 0", "river 0;bridge", "river 0;bridge 0", "river 0;bridge 0 1",
            "river 0;bridge 0 1 2", "river 0;bridge 0 1 2 3", "river 0;row", "river 0;row 0", "river 0;row 0 1 15"};
        for (String cut : cuts) {
            fault(cut, cut.length());
            fault(cut + "   ", cut.length() + 3);
        }
        read("river 0;", 1);
        read("river 0;  ", 1);
    }

    private void empty() {
        fault("", 0);
        fault(" ", 1);
        fault(" ".repeat(150), 150);
        s.asks("read of a new object", Rivers::fresh, x -> x.read(), -10);
        BridgeNames x = busyWith("river 0;");
        x.clear();
        s.is("read behind clear", x.read(), -10);
    }

    private void takesThePlace() {
        BridgeNames x = Rivers.busy();
        x.image(1);
        long kept = x.digest();
        x.river(99);
        x.undo();
        x.undo();
        x.undo();
        x.undo();
        int bads = x.status(0);
        int nos = x.status(1);
        s.is("something is noted", x.count(2), 2);
        x.month(1);
        s.is("something may be undone", x.count(3), 1);
        long above = x.part(0);
        long below = x.part(1);
        s.is("read", x.read(), 4);
        s.is("its bridges alone", x.count(0), 2);
        s.is("its month", x.count(1), 7);
        s.is("none noted", x.count(2), 0);
        s.is("nothing to undo", x.count(3), 0);
        s.is("the text stays", x.count(4), Rivers.TEXT.length());
        s.is("it may be read again", x.read(), 4);
        s.is("kind", x.of(1, 2), 4);
        s.is("n", x.of(1, 3), 8);
        s.rowIs("a row not told is empty", x, 0);
        s.rowIs("a row that is told", x, 2, 9, 8, 7);
        s.is("the fraction stays, above", x.part(0), above);
        s.is("below", x.part(1), below);
        s.is("the fraction is one that tells", below > 1 ? 1 : 0, 1);
        s.is("refused as BAD", x.status(0), bads);
        s.is("refused as NO", x.status(1), nos);
        s.is("nothing to undo: NO", x.undo(), -3);
        s.is("image 1 stays", x.from(1), 1);
        s.is("as it was", x.digest(), kept);
        s.is("image 0 stays", x.from(0), 1);
        s.is("its month", x.count(1), 11);
    }
}
