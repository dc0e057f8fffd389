import java.io.IOException;
import java.nio.file.Files;
import java.nio.file.Path;
import java.util.ArrayList;
import java.util.List;
import java.util.stream.IntStream;

/** Tests that are told by a promise's number and by the document's words for it. */
final class Sentences {
    private static final Path DOCUMENT = Path.of("../shared/DOC.md");
    /** Stands where a call leaves WHY, or fault(), as it was. */
    static final int SAME = Integer.MIN_VALUE;
    private static final int MOST_SAID = 5;

    private final int[] promises;
    private final String document;
    private final int[] perPromise = new int[31];
    private String told = "";
    private int saidOfThis = 0;
    private int sentences = 0;
    private int checks = 0;
    private int wrong = 0;

    /** For these promises; each must have a sentence in the end. */
    Sentences(int... promises) {
        this.promises = promises;
        document = read();
    }

    static Sentences from(int first, int last) {
        return new Sentences(IntStream.rangeClosed(first, last).toArray());
    }

    private static String read() {
        try {
            return Files.isReadable(DOCUMENT) ? plain(Files.readString(DOCUMENT)) : "";
        } catch (IOException e) {
            return "";
        }
    }

    private static String plain(String text) {
        return text.replaceAll("\\s+", " ");
    }

    /** The words stand under the promise's own heading, or ahead of all promises. */
    private boolean areInDocument(int promise, String words) {
        if (document.isEmpty()) {
            return true;
        }
        int terms = document.indexOf("## Promise 1:");
        int begin = document.indexOf("## Promise " + promise + ":");
        int end = document.indexOf("## ", begin + 3);
        return document.substring(0, terms).contains(words) || document.substring(begin, end).contains(words);
    }

    void of(int promise, String words, Runnable test) {
        told = "promise " + promise + ", '" + words + "'";
        saidOfThis = 0;
        sentences++;
        perPromise[promise]++;
        yes("the words stand in the document", areInDocument(promise, plain(words)));
        test.run();
    }

    void due(String what, int want, int got) {
        checks++;
        if (want != got) {
            say(what + " answered " + got + ", due is " + want);
        }
    }

    /** A fault may show in a thousand answers; the first ones of a sentence say enough. */
    private void say(String what) {
        wrong++;
        saidOfThis++;
        if (saidOfThis <= MOST_SAID) {
            System.out.println(told + ": " + what);
        }
    }

    void yes(String what, boolean is) {
        due(what, 1, is ? 1 : 0);
    }

    void same(String what, String before, String after) {
        checks++;
        if (!before.equals(after)) {
            say(what + ": " + Whole.difference(before, after));
        }
    }

    /** A call that uses the TAPE up, and throws or only asks: WHY and fault() are these behind it, all else stays. */
    void textLeavesRest(String what, Whole.Run ahead, Whole.Question call, int answer, int why, int fault) {
        checkRest(what, ahead, call, answer, why, fault);
        Shelf x = new Shelf();
        ahead.on(x);
        call.to(x);
        due(what + ": the TAPE is used up, the next bytes", 20, x.feed(0, 0, 0, 0, 0));
    }

    /** A call that has nothing to do with texts, and throws or only asks: WHY is this behind it, all else stays. */
    void callLeavesRest(String what, Whole.Run ahead, Whole.Question call, int answer, int why) {
        Whole.Run withTape = x -> {
            ahead.on(x);
            x.tape("Tape");
        };
        checkRest(what, withTape, call, answer, why, SAME);
        same(what + ": the TAPE", Whole.tape(withTape), Whole.tape(then(withTape, call)));
    }

    /** As above, and WHY stays, too. */
    void changesNothing(String what, Whole.Run ahead, Whole.Question call, int answer) {
        callLeavesRest(what, ahead, call, answer, SAME);
    }

    static Whole.Run then(Whole.Run run, Whole.Question call) {
        return x -> {
            run.on(x);
            call.to(x);
        };
    }

    private void checkRest(String what, Whole.Run ahead, Whole.Question call, int answer, int why, int fault) {
        Shelf x = new Shelf();
        ahead.on(x);
        int whyAhead = x.why();
        int faultAhead = x.fault();
        due(what, answer, call.to(x));
        due(what + ": why", why == SAME ? whyAhead : why, x.why());
        due(what + ": fault", fault == SAME ? faultAhead : fault, x.fault());
        same(what + ": all else", Whole.of(ahead), Whole.of(then(ahead, call)));
    }

    /** Says what was not as due, and ends the test. */
    void end() {
        List<Integer> without = new ArrayList<>();
        for (int promise : promises) {
            if (perPromise[promise] == 0) {
                without.add(promise);
            }
        }
        if (!without.isEmpty()) {
            wrong++;
            System.out.println("promises without a sentence: " + without);
        }
        System.out.println(promises.length + " promises from " + promises[0] + " on: " + sentences + " sentences, "
            + checks + " answers, " + wrong + " not as due");
        if (wrong != 0) {
            System.exit(1);
        }
    }
}
