import java.util.ArrayList;
import java.util.Collections;
import java.util.List;

/** What the document says at its edges of READERS, of THE IMAGE and of count. */
public final class ReaderSentences {
    private static final Sentences S = Sentences.from(24, 30);
    private static final int LOWEST = Integer.MIN_VALUE;
    private static final int HIGHEST = Integer.MAX_VALUE;
    private static final int[] NO_READERS = {-1, 4, LOWEST, HIGHEST};
    private static final List<String> ZEROS = Names.twoLetters(0, 1);

    private ReaderSentences() {
    }

    private static Shelf after(Whole.Run run) {
        Shelf x = new Shelf();
        run.on(x);
        return x;
    }

    private static Shelf told(String text) {
        Shelf x = new Shelf();
        S.yes("'" + text + "' is right", x.acts(text) >= 0);
        return x;
    }

    private static void leavesAll(String what, Whole.Question call, int answer) {
        S.changesNothing(what, Prepared::lived, call, answer);
    }

    private static void readerIs(Shelf x, int reader, int... whats) {
        for (int what = 0; what < whats.length; what++) {
            S.due("reader " + reader + " " + what, whats[what], x.reader(reader, what));
        }
    }

    private static void batchIs(Shelf x, int reader, int... nodes) {
        S.due("NODES of the BATCH", nodes.length, x.reader(reader, 3));
        for (int k = 0; k < nodes.length; k++) {
            S.due("batch " + reader + " " + k, nodes[k], x.batch(reader, k));
        }
        S.due("batch " + reader + " behind", -1, x.batch(reader, nodes.length));
    }

    /** A call on READERS: the directory, what is remembered, THE IMAGE, the TAPE, fault() and WHY stay. */
    private static void readersAlone(String what, Whole.Run ahead, Whole.Question call, int answer) {
        Whole.Run before = x -> {
            ahead.on(x);
            x.tape("Tape");
        };
        Whole.Run behind = Sentences.then(before, call);
        Shelf x = after(before);
        int why = x.why();
        int fault = x.fault();
        S.due(what, answer, call.to(x));
        S.due(what + ": why", why, x.why());
        S.due(what + ": fault", fault, x.fault());
        S.same(what + ": the directory", Whole.directory(before), Whole.directory(behind));
        S.same(what + ": what is remembered", Whole.remembered(before), Whole.remembered(behind));
        S.same(what + ": THE IMAGE", Whole.image(before), Whole.image(behind));
        S.same(what + ": the TAPE", Whole.tape(before), Whole.tape(behind));
    }

    private static void open() {
        S.of(24, "IndexOutOfBoundsException: there is no such BLOCK (0 to 39), SLOT (0 to 5), ROW, READER.", () -> {
            for (int reader : NO_READERS) {
                leavesAll("open " + reader, x -> x.open(reader, true), Shelf.IOOBE);
                leavesAll("shut " + reader, x -> x.open(reader, false), Shelf.IOOBE);
            }
            readersAlone("open 0", Prepared::lived, x -> x.open(0, true), 0);
            readersAlone("open 3", Prepared::lived, x -> x.open(3, true), 0);
        });
        S.of(24, "A READER is OPENED (is), or is OPEN no more: whether it was.", () -> {
            for (int reader = 0; reader < 4; reader++) {
                Shelf x = after(Prepared::six);
                S.due("shut of one that is not", 0, x.open(reader, false));
                S.due("open", 0, x.open(reader, true));
                S.due("open once more", 1, x.open(reader, true));
                S.due("shut", 1, x.open(reader, false));
                S.due("shut once more", 0, x.open(reader, false));
                x.open(reader, true);
                for (int other = 0; other < 4; other++) {
                    S.due("OPEN " + other, other == reader ? 1 : 0, x.reader(other, 0));
                }
            }
            readersAlone("open of one that is", Prepared::lived, x -> x.open(1, true), 1);
            readersAlone("shut", Prepared::lived, x -> x.open(1, false), 1);
        });
        S.of(24, "OPENED: OPEN, COOKIE and LISTED 0, BATCH empty.", () -> {
            Shelf x = after(Prepared::six);
            x.open(3, true);
            readerIs(x, 3, 1, 0, 0, 0);
            x.next(3);
            x.next(3);
            readerIs(x, 3, 1, 2, 2, 1);
            x.open(3, true);
            readerIs(x, 3, 1, 0, 0, 0);
            batchIs(x, 3);
            S.due("from the begin", 1, x.next(3));
            batchIs(x, 3, 2);
            x.open(3, false);
            readerIs(x, 3, 0, 1, 1, 1);
            batchIs(x, 3, 2);
            x.open(3, true);
            readerIs(x, 3, 1, 0, 0, 0);
        });
    }

    private static void next() {
        S.of(25, "IllegalStateException: it is not OPEN.", () -> {
            for (int reader : NO_READERS) {
                leavesAll("next " + reader, x -> x.next(reader), Shelf.IOOBE);
            }
            int[] shut = {0, 2, 3};
            for (int reader : shut) {
                leavesAll("next " + reader, x -> x.next(reader), Shelf.ISE);
            }
            S.changesNothing("of nothing", x -> x.acts(""), x -> x.next(0), Shelf.ISE);
            readersAlone("next 1", Prepared::lived, x -> x.next(1), 1);
        });
        S.of(25, "NEXT: the least HASH of an ENTRY that is COOKIE at least: all ENTRIES of that HASH, by NAME, are the BATCH",
            () -> {
                // HASHES of b, a, d; 33 of B and ab; 57 of Z.
                Shelf x = told("put Z 6;put ab 5;put d 3;put b 1;put B 4;put a 2");
                x.open(0, true);
                int[][] due = {{1}, {2}, {3}, {4, 5}, {6}, {}, {}};
                int[] cookies = {1, 2, 3, 34, 58, 58, 58};
                int listed = 0;
                for (int k = 0; k < due.length; k++) {
                    listed += due[k].length;
                    S.due("next " + k, due[k].length, x.next(0));
                    batchIs(x, 0, due[k]);
                    readerIs(x, 0, 1, cookies[k], listed, due[k].length);
                }
            });
        S.of(25, "that is COOKIE at least", () -> {
            Shelf x = told("put b 1;put c 2;put Z 3");
            x.open(0, true);
            x.next(0);
            S.due("COOKIE", 1, x.reader(0, 1));
            S.due("one that is COOKIE", 0, x.put("a", 9));
            S.due("next", 1, x.next(0));
            batchIs(x, 0, 9);
            S.due("ones below COOKIE", 2, x.acts("put " + Names.twoLetters(0, 6).get(0) + " 5;cut b"));
            S.due("next", 1, x.next(0));
            batchIs(x, 0, 2);
            x.acts("cut Z");
            S.due("what was taken away", 0, x.next(0));
            readerIs(x, 0, 1, 4, 3, 0);
            x.acts("put Z 8");
            S.due("what came", 1, x.next(0));
            batchIs(x, 0, 8);
        });
        S.of(25, "all ENTRIES of that HASH, by NAME, are the BATCH", () -> {
            Shelf x = told("bits 1;put W 2;put b 3;put AC 1;put A 0;put bca 5;put bc 4");
            x.open(2, true);
            S.due("six", 6, x.next(2));
            batchIs(x, 2, 0, 1, 2, 3, 4, 5);
            Shelf y = after(z -> Prepared.oneHash(z, 0, 30));
            y.tear(0);
            y.open(0, true);
            S.due("of all LEAVES, though one is TORN", 30, y.next(0));
            S.due("the last NODE", 29, y.batch(0, 29));
        });
        S.of(25, "(their NODES, at most 60 of these, the first ones), LISTED is as many more, COOKIE is that HASH and 1", () -> {
            int[] many = {59, 60, 61, 96};
            for (int entries : many) {
                List<String> puts = Prepared.puts(ZEROS.subList(0, entries));
                Collections.reverse(puts);
                Shelf x = told("bits 1;put a 999");
                x.actsOf(puts);
                x.open(0, true);
                S.due("next of " + entries, entries, x.next(0));
                readerIs(x, 0, 1, 1, entries, Math.min(60, entries));
                for (int k = 0; k < 60; k++) {
                    S.due("batch " + k + " of " + entries, k < entries ? k : -1, x.batch(0, k));
                }
                S.due("no more of " + entries, -1, x.batch(0, 60));
                S.due("next", 1, x.next(0));
                batchIs(x, 0, 999);
                readerIs(x, 0, 1, 2, entries + 1, 1);
            }
        });
        S.of(25, "without such a one the BATCH is empty, all else stays", () -> {
            Shelf x = new Shelf();
            x.open(1, true);
            S.due("of nothing", 0, x.next(1));
            readerIs(x, 1, 1, 0, 0, 0);
            x.acts("put a 5");
            S.due("a", 1, x.next(1));
            S.due("no more", 0, x.next(1));
            readerIs(x, 1, 1, 2, 1, 0);
            batchIs(x, 1);
            readersAlone("no more", y -> {
                Prepared.lived(y);
                for (int k = 0; k < 8; k++) {
                    y.next(1);
                }
            }, y -> y.next(1), 0);
            Shelf z = told("bits 12;put brp 5");
            z.open(0, true);
            S.due("the highest HASH", 1, z.next(0));
            readerIs(z, 0, 1, 4096, 1, 1);
            S.due("no more", 0, z.next(0));
            readerIs(z, 0, 1, 4096, 1, 0);
        });
        S.of(25, "(BUILT alone, PUT, CUT, TURN leave READERS as they are.)", ReaderSentences::readersStay);
        S.of(25, "BITS, KEY, FOLD told (and not refused): no READER is OPEN.", () -> {
            String[] texts = {"bits 6", "key 1", "plain", "put q 1;cut q;key 9;put q 1"};
            for (String text : texts) {
                Shelf x = after(Prepared::lived);
                S.yes("'" + text + "'", x.acts(text) > 0);
                S.due("next behind '" + text + "'", Shelf.ISE, x.next(1));
                readerIs(x, 1, 0, 2, 2, 1);
            }
            Shelf x = after(Prepared::lived);
            S.due("refused", Shelf.ISE, x.tune(2, 1));
            S.due("a wrong text", Shelf.IAE, x.acts("key 5;bits 2;?"));
            S.due("it is OPEN", 1, x.next(1));
        });
    }

    private static void readersStay() {
        List<Whole.Question> acts = new ArrayList<>();
        acts.add(x -> x.put("h", 9));
        acts.add(x -> x.cut("a"));
        acts.add(x -> x.turn("a h"));
        acts.add(x -> x.build());
        acts.add(x -> x.tear(0));
        acts.add(x -> x.undo());
        acts.add(x -> x.acts("put h 9;cut a;turn h i;build;tear 0"));
        for (Whole.Question act : acts) {
            S.same("READERS", Whole.readers(Prepared::lived), Whole.readers(Sentences.then(Prepared::lived, act)));
            S.yes("it is done", act.to(after(Prepared::lived)) >= 0);
        }
        Shelf x = new Shelf();
        Prepared.rising(x, 40);
        x.open(0, true);
        int listed = 0;
        for (int k = 0; k < 20; k++) {
            listed += x.next(0);
        }
        x.build();
        x.put(Prepared.nameOf(40), 40);
        for (int k = 0; k < 21; k++) {
            listed += x.next(0);
            S.due("NODE behind a build", 20 + k, x.batch(0, 0));
        }
        S.due("all of them, once", 41, listed);
        S.due("no more", 0, x.next(0));
    }

    private static void reader() {
        S.of(26, "Of a READER what 0 1 if OPEN, 1 COOKIE, 2 LISTED, 3 how many NODES of the BATCH.", () -> {
            int[][] lived = {{0, 0, 0, 0}, {1, 2, 2, 1}, {0, 2, 1, 1}, {0, 0, 0, 0}};
            for (int r = 0; r < 4; r++) {
                for (int w = 0; w < 4; w++) {
                    int reader = r;
                    int what = w;
                    leavesAll("reader " + reader + " " + what, x -> x.reader(reader, what), lived[reader][what]);
                }
            }
        });
        S.of(26, "NoSuchElementException: another what.", () -> {
            int[] others = {-1, 4, LOWEST, HIGHEST};
            for (int what : others) {
                leavesAll("of one that is OPEN", x -> x.reader(1, what), Shelf.NSE);
                leavesAll("of one that is not", x -> x.reader(3, what), Shelf.NSE);
                for (int reader : NO_READERS) {
                    leavesAll("of none", x -> x.reader(reader, what), Shelf.IOOBE);
                }
            }
            for (int reader : NO_READERS) {
                leavesAll("reader " + reader, x -> x.reader(reader, 0), Shelf.IOOBE);
            }
        });
    }

    private static void batch() {
        S.of(27, "The k-th NODE of the BATCH of a READER; NONE without.", () -> {
            int[] without = {-1, 1, 60, LOWEST, HIGHEST};
            for (int k : without) {
                leavesAll("batch 1 " + k, x -> x.batch(1, k), -1);
                leavesAll("batch 3 " + k, x -> x.batch(3, k), -1);
            }
            leavesAll("batch 1 0", x -> x.batch(1, 0), 1);
            leavesAll("batch 2 0", x -> x.batch(2, 0), 1);
            for (int reader : NO_READERS) {
                leavesAll("batch " + reader, x -> x.batch(reader, 0), Shelf.IOOBE);
                leavesAll("batch " + reader + " -1", x -> x.batch(reader, -1), Shelf.IOOBE);
            }
        });
        S.of(27, "their NODES, at most 60 of these, the first ones", () -> {
            Shelf x = after(y -> Prepared.oneHash(y, 0, 61));
            x.open(0, true);
            x.next(0);
            S.due("the first", 0, x.batch(0, 0));
            S.due("the sixtieth", 59, x.batch(0, 59));
            S.due("no more", -1, x.batch(0, 60));
            x.acts("cut " + ZEROS.get(0));
            S.due("it holds steady", 0, x.batch(0, 0));
            S.due("the next one is empty", 0, x.next(0));
            S.due("nothing is left of it", -1, x.batch(0, 0));
        });
    }

    private static void image() {
        S.of(28, "THE IMAGE (one) of all may be kept", () -> {
            Whole.Run kept = Sentences.then(Prepared::lived, ReaderSentences::keep);
            S.same("the directory", Whole.directory(Prepared::lived), Whole.directory(kept));
            S.same("READERS", Whole.readers(Prepared::lived), Whole.readers(kept));
            S.same("what is remembered", Whole.remembered(Prepared::lived), Whole.remembered(kept));
            S.same("one goes back to", "image\n" + Whole.directory(Prepared::lived), Whole.image(kept));
            Shelf x = after(kept);
            S.due("why", 4, x.why());
            S.due("fault", 0, x.fault());
            x.tape("Tape");
            x.image();
            S.due("the TAPE", 1, x.end(4));
            Shelf y = new Shelf();
            y.acts("put a 1");
            y.image();
            y.acts("put b 2");
            y.image();
            y.acts("put c 3");
            S.due("back", 1, y.back());
            S.due("the latest IMAGE alone", 2, y.count(0));
        });
        S.of(28, "THE IMAGE is kept.", () -> {
            Whole.Run keptTorn = Sentences.then(Prepared::torn, ReaderSentences::keep);
            S.same("a TORN one", "image\n" + Whole.directory(Prepared::torn), Whole.image(keptTorn));
            Whole.Run keptFull = Sentences.then(Prepared::full, ReaderSentences::keep);
            S.same("a full one", "image\n" + Whole.directory(Prepared::full), Whole.image(keptFull));
            Whole.Run nothing = x -> x.image();
            S.same("an empty one", "image\n" + Whole.directory(x -> { }), Whole.image(nothing));
        });
    }

    /** There and back between two directories that have INDEXES in the same BLOCKS, with other ROWS. */
    private static void backOfTwoLevels() {
        Whole.Run marked = Prepared::marked;
        S.same("MARKS", Whole.directory(marked), Whole.directory(x -> {
            marked.on(x);
            x.image();
            S.due("BITS", 1, x.tune(0, 12));
            S.due("back", 1, x.back());
        }));
        Whole.Run built = Sentences.then(marked, x -> x.tune(0, 12));
        S.same("no MARKS", Whole.directory(built), Whole.directory(x -> {
            built.on(x);
            x.image();
            S.due("undo", 0, x.undo());
            S.due("back", 1, x.back());
        }));
        S.same("a wrong text", Whole.directory(marked), Whole.directory(x -> {
            marked.on(x);
            S.due("the text", Shelf.IAE, x.acts("bits 12;key 3;build;cut nosuch"));
        }));
        S.same("a full one", Whole.directory(Prepared::full), Whole.directory(x -> {
            Prepared.full(x);
            x.image();
            List<String> cuts = new ArrayList<>();
            for (int k = 70; k < Prepared.FULL; k++) {
                cuts.add("cut " + Prepared.nameOf(k));
            }
            S.due("cuts", 80, x.actsOf(cuts));
            S.due("KEY", 1, x.acts("key 9"));
            S.due("back", 1, x.back());
        }));
    }

    private static int keep(Shelf x) {
        x.image();
        return 0;
    }

    private static void back() {
        S.of(29, "false, and nothing happens, if none was kept", () -> {
            S.changesNothing("a new one", x -> { }, x -> x.back(), 0);
            S.changesNothing("one with READERS and ACTS", x -> {
                Prepared.seven(x);
                x.open(2, true);
                x.next(2);
                x.cut("q");
            }, x -> x.back(), 0);
        });
        S.of(29, "(but for the TAPE, fault(), WHY, READERS and THE IMAGE itself; READERS are OPEN no more by that)",
            ReaderSentences::backLeaves);
        S.of(29, "One goes back to THE IMAGE: true", () -> {
            Whole.Run kept = x -> {
                Prepared.seven(x);
                x.image();
            };
            String[] texts = {"put h 8", "cut a", "turn a h", "bits 2", "key 7", "fold", "tear 0", "build",
                "bits 12;key 9;fold;cut a;tear 0"};
            for (String text : texts) {
                Whole.Run gone = x -> {
                    kept.on(x);
                    S.yes("'" + text + "'", x.acts(text) > 0);
                    S.due("back", 1, x.back());
                };
                S.same("behind '" + text + "'", Whole.directory(Prepared::seven), Whole.directory(gone));
            }
            Shelf x = after(kept);
            S.due("at once", 1, x.back());
            S.due("once more", 1, x.back());
            Shelf y = new Shelf();
            y.image();
            Prepared.full(y);
            S.due("of a full one", 1, y.back());
            S.due("an empty one", 0, y.count(0));
            S.due("BITS", 6, y.count(5));
        });
        S.of(29, "One goes back to THE IMAGE", ReaderSentences::backOfTwoLevels);
        S.of(29, "A text, going back: none are remembered.", () -> {
            Shelf x = after(Prepared::lived);
            S.due("remembered", 4, x.count(8));
            x.back();
            S.due("none", 0, x.count(8));
            S.due("undo", Shelf.ISE, x.undo());
            x.put("q", 1);
            S.due("one", 1, x.count(8));
            S.due("undo", 0, x.undo());
        });
    }

    private static void backLeaves() {
        Shelf x = after(Prepared::lived);
        x.tape("abc");
        S.due("back", 1, x.back());
        S.due("why", 4, x.why());
        S.due("fault", 0, x.fault());
        S.due("the TAPE", 1, x.end(3));
        readerIs(x, 1, 0, 2, 2, 1);
        batchIs(x, 1, 1);
        readerIs(x, 2, 0, 2, 1, 1);
        S.due("next", Shelf.ISE, x.next(1));
        S.due("the TAPE says abc", 0, x.put(5));
        S.due("three letters", 3, x.entry(x.find("abc", 2), x.find("abc", 3), 2));
        S.due("back once more", 1, x.back());
        S.due("abc is gone", -1, x.find("abc", 0));
        Whole.Run back = Sentences.then(Prepared::lived, y -> y.back());
        S.same("THE IMAGE", Whole.image(Prepared::lived), Whole.image(back));
    }

    private static void count() {
        S.of(30, "0 ENTRIES, 1 BLOCKS that are not free, 2 LEVELS, 3 LEAVES, 4 INDEXES that are TORN, 5 BITS, 6 KEY, 7 1 with"
            + " FOLD, 8 ACTS that are remembered.", () -> {
            counts("empty", x -> { }, 0, 1, 0, 1, 0, 6, 1, 0, 0);
            counts("six", Prepared::six, 6, 1, 0, 1, 0, 6, 1, 0, 0);
            counts("seven", Prepared::seven, 7, 3, 1, 2, 0, 6, 1, 0, 1);
            counts("torn", Prepared::torn, 7, 3, 1, 2, 1, 6, 1, 0, 5);
            counts("full", Prepared::full, 150, 31, 2, 25, 0, 12, 1, 0, 0);
            counts("full, and lived", Prepared::livedFull, 150, 31, 2, 25, 0, 12, 1, 0, 2);
            counts("tuned", x -> x.acts("bits 1;key 65535;fold"), 0, 1, 0, 1, 0, 1, 65535, 1, 0);
            counts("tuned by calls", x -> {
                x.tune(0, 12);
                x.tune(1, 0);
                x.tune(2, 1);
            }, 0, 1, 0, 1, 0, 12, 0, 1, 3);
        });
        S.of(30, "NONE for another what.", () -> {
            int[] others = {-1, 9, LOWEST, HIGHEST};
            for (int what : others) {
                leavesAll("count " + what, x -> x.count(what), -1);
                S.due("of nothing", -1, new Shelf().count(what));
            }
        });
    }

    private static void counts(String what, Whole.Run run, int... counts) {
        for (int k = 0; k < counts.length; k++) {
            int asked = k;
            S.changesNothing(what + ": count " + k, run, x -> x.count(asked), counts[k]);
        }
    }

    public static void main(String[] args) {
        open();
        next();
        reader();
        batch();
        image();
        back();
        count();
        S.end();
    }
}
