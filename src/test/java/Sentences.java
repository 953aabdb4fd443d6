import java.io.IOException;
import java.nio.file.Files;
import java.nio.file.Path;
import java.util.ArrayList;
import java.util.List;
import java.util.function.Supplier;
import java.util.function.ToLongFunction;

/** Sentences of the document, word by word, each with a test of its own. */
final class Sentences {
    private static final int BAD = 0, NO = 1, FULL = 2, PROMISES = 34;
    private static final Path DOCUMENT = Path.of("../shared/DOC.md");
    private static final String FIRST = "15. A NAME", LAST = "they count as these).";

    private final Due due;
    // where the document is not at hand it is empty, and its words are not looked at
    private final String document;
    private final boolean[] isQuoted;
    private final List<String> promised = new ArrayList<>();
    private String sentence = "";
    private int many = 0;

    Sentences(String test) throws IOException {
        due = new Due(test);
        document = Files.exists(DOCUMENT) ? Files.readString(DOCUMENT).replaceAll("\\s+", " ") : "";
        isQuoted = new boolean[document.length()];
    }

    /** Runs the test of a sentence, which stands in the document just so, once, and has no other test. */
    void says(String quote, Runnable test) {
        sentence = quote;
        int place = document.indexOf(quote);
        boolean isOnce = place >= 0 && place == document.lastIndexOf(quote);
        is("stands in the document once", isOnce || document.isEmpty() ? 1 : 0, 1);
        for (int i = 0; isOnce && i < quote.length(); i++) {
            isQuoted[place + i] = true;
        }
        many++;
        test.run();
    }

    /** The same of a promise, with all its text. */
    void promises(int number, String call, String text, Runnable test) {
        String head = "## Promise " + number + ": ";
        int place = document.indexOf(head);
        int end = place < 0 ? -1 : document.indexOf(" ## ", place);
        sentence = head + text;
        String told = end < 0 ? "" : document.substring(place, end);
        boolean isWhole = told.endsWith("`" + call + "`: " + text);
        is("is the whole promise", isWhole || document.isEmpty() ? 1 : 0, 1);
        many++;
        promised.add(head);
        test.run();
    }

    void is(String call, long got, long want) {
        due.is("\"" + sentence + "\": " + call, got, want);
    }

    void calledIs(String what, BridgeNames x, int row, int a, int b, int... want) {
        is(what + ": how many", x.called(row, a, b, -1), want.length);
        for (int i = 0; i < want.length; i++) {
            is(what + ": syllable " + i, x.called(row, a, b, i), want[i]);
        }
        is(what + ": behind the last", x.called(row, a, b, want.length), -5);
    }

    void rowIs(String what, BridgeNames x, int row, int... want) {
        is(what + ": how many", x.at(row, -1), want.length);
        for (int i = 0; i < want.length; i++) {
            is(what + ": syllable " + i, x.at(row, i), want[i]);
        }
        is(what + ": behind the last", x.at(row, want.length), -5);
    }

    void bad(String call, Supplier<BridgeNames> river, ToLongFunction<BridgeNames> asked, long answer) {
        leaves(call, river, asked, answer, BAD);
    }

    void no(String call, Supplier<BridgeNames> river, ToLongFunction<BridgeNames> asked) {
        leaves(call, river, asked, BridgeNames.NO, NO);
    }

    void full(String call, Supplier<BridgeNames> river, ToLongFunction<BridgeNames> asked) {
        leaves(call, river, asked, BridgeNames.FULL, FULL);
    }

    /** It answers so and leaves all as it is, STATUS too. */
    void asks(String call, Supplier<BridgeNames> river, ToLongFunction<BridgeNames> asked, long answer) {
        leaves(call, river, asked, answer, -1);
    }

    /** Of two rivers that are alike one is asked: STATUS tells the reason, and nothing else tells them apart. */
    private void leaves(String call, Supplier<BridgeNames> river, ToLongFunction<BridgeNames> asked, long answer,
            int reason) {
        BridgeNames x = river.get();
        BridgeNames twin = river.get();
        is(call, asked.applyAsLong(x), answer);
        for (int what = 0; what < 3; what++) {
            is(call + ", then status(" + what + ")", x.status(what) - twin.status(what), what == reason ? 1 : 0);
        }
        List<Long> left = Rivers.all(x);
        List<Long> were = Rivers.all(twin);
        is(call + ", then nothing else is changed, but " + left + " was " + were, left.equals(were) ? 1 : 0, 1);
    }

    /** No part of the terms, and no promise, is left without a test. */
    void end() {
        sentence = "";
        if (!document.isEmpty()) {
            lookForGaps();
        }
        is("promises with a test", promised.stream().distinct().count(), PROMISES);
        System.out.println(many + " sentences" + (document.isEmpty() ? ", the document is not at hand" : ""));
        due.end();
    }

    private void lookForGaps() {
        int first = document.indexOf(FIRST);
        int last = document.indexOf(LAST);
        is("the terms are found", first >= 0 && last > first ? 1 : 0, 1);
        StringBuilder left = new StringBuilder();
        for (int i = Math.max(first, 0); i < last; i++) {
            left.append(isQuoted[i] ? '|' : document.charAt(i));
        }
        String gaps = left.toString().replace("```text", "").replace("```", "").replace("======== 2", "");
        for (String gap : gaps.split("\\|+")) {
            is("without a test: " + gap.trim(), gap.matches(".*[A-Za-z0-9].*") ? 1 : 0, 0);
        }
    }
}
