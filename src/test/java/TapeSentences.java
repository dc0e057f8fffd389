import java.util.ArrayList;
import java.util.Collections;
import java.util.List;

/** What the document says at its edges of a new object, of the TAPE, of texts of ACTS, of fault() and of WHY. */
public final class TapeSentences {
    private static final Sentences S = Sentences.from(1, 6);
    private static final int BLANK = 32;

    private TapeSentences() {
    }

    private static String blanks(int many) {
        return " ".repeat(many);
    }

    private static String builds(int many) {
        return String.join(";", Collections.nCopies(many, "build"));
    }

    /** A text on a new object that is right: so many ACTS. */
    private static void right(String text, int acts) {
        Shelf x = new Shelf();
        S.due("'" + text + "'", acts, x.acts(text));
        S.due("fault of '" + text + "'", -1, x.fault());
    }

    /** A text on a new object that is wrong, without an ACT that is refused. */
    private static void wrong(String text, int fault) {
        Shelf x = new Shelf();
        S.due("'" + text + "'", Shelf.IAE, x.acts(text));
        S.due("fault of '" + text + "'", fault, x.fault());
        S.due("why of '" + text + "'", 0, x.why());
        S.due("ENTRIES behind '" + text + "'", 0, x.count(0));
        S.due("KEY behind '" + text + "'", 1, x.count(6));
        S.due("BITS behind '" + text + "'", 6, x.count(5));
        S.due("FOLD behind '" + text + "'", 0, x.count(7));
    }

    /** A text on a new object of which an ACT is refused. */
    private static void refused(String text, int why, int fault) {
        S.textLeavesRest("'" + text + "'", x -> { }, x -> x.acts(text), Shelf.IAE, why, fault);
    }

    private static void newObject() {
        S.of(1, "`SteadyShelf()`: An empty LEAF.", () -> {
            Shelf x = new Shelf();
            S.due("the ROOT is a LEAF", 1, x.block(0, 0));
            S.due("it has no ENTRIES", 0, x.block(0, 1));
            S.due("it is not TORN", 0, x.block(0, 2));
            for (int slot = 0; slot < 6; slot++) {
                S.due("SLOT " + slot, -1, x.entry(0, slot, 0));
            }
            for (int block = 1; block < 40; block++) {
                S.due("BLOCK " + block + " is free", 0, x.block(block, 0));
            }
        });
        S.of(1, "public static final int NONE = -1;", () -> S.due("NONE", -1, SteadyShelf.NONE));
        S.of(1, "BLOCK 0 is the ROOT: at first a LEAF, empty (LEVELS 0)", () -> {
            Shelf x = new Shelf();
            int[] counts = {0, 1, 0, 1, 0};
            for (int what = 0; what < counts.length; what++) {
                S.due("count " + what, counts[what], x.count(what));
            }
            S.due("the only LEAF", 0, x.leaf(0));
            S.due("no other", -1, x.leaf(1));
        });
        S.of(1, "BITS 1 to 12 (6 at first), KEY 0 to 65535 (1 at first), FOLD or not (not at first)", () -> {
            Shelf x = new Shelf();
            S.due("BITS", 6, x.count(5));
            S.due("KEY", 1, x.count(6));
            S.due("FOLD", 0, x.count(7));
        });
        S.of(1, "READERS (4, numbered from 0 on): each OPEN or not (not at first), a COOKIE, LISTED, a BATCH", () -> {
            Shelf x = new Shelf();
            for (int reader = 0; reader < 4; reader++) {
                for (int what = 0; what < 4; what++) {
                    S.due("reader " + reader + " " + what, 0, x.reader(reader, what));
                }
                S.due("batch " + reader, -1, x.batch(reader, 0));
            }
        });
        S.of(1, "WHY (0 at first)", () -> {
            Shelf x = new Shelf();
            S.due("why", 0, x.why());
            S.due("fault", -1, x.fault());
            S.due("nothing is remembered", 0, x.count(8));
            S.due("nothing to be taken back", Shelf.ISE, x.undo());
            S.due("no IMAGE", 0, x.back());
            S.due("an empty TAPE", 20, x.feedTwenty(BLANK));
        });
        S.of(1, "An object is used for at most 512 calls after it has been made", TapeSentences::allCalls);
    }

    private static void allCalls() {
        Shelf x = new Shelf();
        Prepared.full(x);
        x.image();
        x.open(0, true);
        while (x.calls < Shelf.MOST_CALLS - 6) {
            S.due("a KEY among twenty", 1, x.best(0, 20));
        }
        S.due("back", 1, x.back());
        S.due("put", Shelf.ISE, x.put("q", 1));
        S.due("why", 3, x.why());
        S.due("the 512th call", 150, x.count(0));
        S.due("that was it", Shelf.MOST_CALLS, x.calls);
        S.due("another object has nothing of it", 0, new Shelf().count(0));
    }

    private static void feed() {
        S.of(2, "Twenty bytes come behind the TAPE, of each number the highest first: how many it has", () -> {
            Shelf x = new Shelf();
            // "put abcd 789;cut abcd" told as numbers, then one number more by its last bytes.
            S.due("twenty", 20, x.feed(0x70757420, 0x61626364, 0x20373839, 0x3b637574, 0x20616263));
            S.due("twenty more", 40, x.feed(0x64202020, 0x20202020, 0x20202020, 0x20202020, 0x20202021));
            S.due("the last byte is wrong", Shelf.IAE, x.acts());
            S.due("it is the fortieth", 39, x.fault());
            x.feed(0x70757420, 0x61626364, 0x20373839, 0x20202020, 0x20202020);
            S.due("put", 1, x.acts());
            S.due("its NODE", 789, x.entry(0, 0, 0));
            for (int k = 0; k < 4; k++) {
                S.due("letter " + k, 'a' + k, x.letter(0, 0, k));
            }
        });
        S.of(2, "of each number the highest first", () -> {
            int[] places = {0, 3, 4, 7, 8, 11, 12, 15, 16, 19};
            for (int place : places) {
                int[] five = {0x20202020, 0x20202020, 0x20202020, 0x20202020, 0x20202020};
                five[place / 4] ^= 0xdf << (8 * (3 - place % 4));
                Shelf x = new Shelf();
                x.feed(five[0], five[1], five[2], five[3], five[4]);
                S.due("a byte 255 at " + place, Shelf.IAE, x.acts());
                S.due("stands at " + place, place, x.fault());
            }
        });
        S.of(2, "NONE, and none come, if it would have more than 400", () -> {
            Shelf x = new Shelf();
            for (int many = 20; many <= 400; many += 20) {
                S.due("feed", many, x.feedTwenty(BLANK));
            }
            S.due("beyond 400", -1, x.feedTwenty('x'));
            S.due("400 are there", 1, x.end(400));
            S.due("no more", 0, x.end(401));
            S.due("all are blanks", 0, x.acts());
        });
        S.of(2, "if it would have more than 400", () -> {
            Shelf x = new Shelf();
            x.tape(blanks(381));
            S.due("381 and 20", -1, x.feedTwenty('x'));
            S.due("none of them came", 0, x.end(382));
            S.due("one less", 1, x.end(380));
            S.due("380 and 20", 400, x.feedTwenty('x'));
            S.due("the text is wrong", Shelf.IAE, x.acts());
            S.due("where they began", 380, x.fault());
            S.due("a new TAPE", 20, x.feedTwenty(BLANK));
        });
    }

    private static void end() {
        S.of(3, "The TAPE has its first n bytes alone: true", () -> {
            Shelf x = new Shelf();
            S.due("0 of none", 1, x.end(0));
            x.tape("abcdefgh");
            S.due("all of them", 1, x.end(8));
            S.due("one less", 1, x.end(7));
            S.due("what went is gone", 0, x.end(8));
            S.due("three", 1, x.end(3));
            S.due("the first three", 0, x.put(5));
            S.due("letters", 3, x.entry(0, 0, 2));
            S.due("the first one", 'a', x.letter(0, 0, 0));
            S.due("the last one", 'c', x.letter(0, 0, 2));
            x.tape("xyz");
            S.due("nothing is left", 1, x.end(0));
            S.due("a text of nothing", 0, x.acts());
            x.tape("ab");
            x.end(1);
            S.due("more comes behind what is left", 21, x.feedTwenty('c'));
            S.due("a long word", Shelf.IAE, x.cut());
            S.due("from its begin", 0, x.fault());
        });
        S.of(3, "its first n bytes alone", TapeSentences::endOfTexts);
        S.of(3, "false, and nothing happens, if it has fewer, or n is below 0", () -> {
            int[] wrong = {5, 21, Integer.MAX_VALUE, -1, Integer.MIN_VALUE};
            for (int n : wrong) {
                S.changesNothing("end " + n, Prepared::lived, x -> x.end(n), 0);
            }
            Shelf x = new Shelf();
            S.due("1 of none", 0, x.end(1));
            S.due("-1 of none", 0, x.end(-1));
            x.tape(blanks(400));
            S.due("401 of 400", 0, x.end(401));
            S.due("400 of 400", 1, x.end(400));
        });
    }

    /** What is cut off does not go on with what is left, though it may be a blank, a letter or a digit. */
    private static void endOfTexts() {
        Shelf x = new Shelf();
        x.tape("put a 12");
        x.end(7);
        S.due("a digit", 1, x.acts());
        S.due("its NODE", 1, x.entry(0, 0, 0));
        x.tape("abcdefghi");
        x.end(8);
        S.due("a letter", 0, x.put(2));
        S.due("its letters", 8, x.entry(0, 1, 2));
        x.tape("build;build");
        x.end(5);
        S.due("an ACT", 1, x.acts());
        String[] texts = {"put    a 1", "build;    build", "put a     1"};
        int[] ends = {3, 4, 6, 6, 7, 9, 5, 6, 9};
        for (int k = 0; k < ends.length; k++) {
            x.tape(texts[k / 3]);
            x.end(ends[k]);
            S.due("'" + texts[k / 3] + "' up to " + ends[k], Shelf.IAE, x.acts());
            S.due("more must come", ends[k], x.fault());
        }
        for (int n = 1; n < 4; n++) {
            x.tape("a    b");
            x.end(n);
            S.due("a blank", Shelf.IAE, x.turn());
            S.due("more must come", n, x.fault());
        }
        x.tape("a    b");
        x.end(5);
        S.due("what was cut off does not come back", 25, x.feedTwenty(BLANK));
        S.due("all blanks but one letter", 1, x.cut());
        x.tape(blanks(380) + "put a 1;put b 2;cut?");
        S.due("a long text", Shelf.IAE, x.acts());
        x.tape("put");
        S.due("a short one behind a long one", Shelf.IAE, x.acts());
        S.due("more must come", 3, x.fault());
    }

    private static void acts() {
        S.of(4, "Uses the TAPE up: ACTS are told, and done: how many.", () -> {
            Shelf x = new Shelf();
            S.due("nine", 9, x.acts("put a 1;put b 2;turn a c;cut b;bits 3;key 9;fold;plain;build"));
            S.due("used up", 20, x.feedTwenty(BLANK));
            x.end(0);
            S.due("one ENTRY", 1, x.count(0));
            S.due("c", 1, x.find("c", 0));
            S.due("BITS", 3, x.count(5));
            S.due("KEY", 9, x.count(6));
            S.due("none", 0, x.acts());
        });
        S.of(4, "ACTS are told in texts: [ ACT { ; ACT } ], at most 14", () -> {
            right("", 0);
            right("    ", 0);
            right(blanks(400), 0);
            right("build", 1);
            right("build;build", 2);
            right(builds(13), 13);
            right(builds(14), 14);
            wrong(builds(15), 84);
            wrong("put a 1;" + builds(14), 86);
            wrong(builds(14) + "; put a 1", 85);
        });
        S.of(4, "put NAME N | cut NAME | turn NAME NAME | bits N | key N | fold | plain | tear N | build", () -> {
            String[] ones = {"put a 1", "bits 2", "key 3", "fold", "plain", "build"};
            for (String one : ones) {
                right(one, 1);
                wrong(one + " x", one.length() + 1);
                wrong(one + " 7", one.length() + 1);
            }
            Shelf x = new Shelf();
            S.due("cut of what was put", 2, x.acts("put a 1;cut a"));
            S.due("turn of what was put", 2, x.acts("put a 1;turn a b"));
            Prepared.six(x);
            S.due("tear of what was built", Shelf.IAE, x.acts("tear 0"));
            x.acts("cut b");
            Prepared.six(x);
            S.due("tear of what was built", 2, x.acts("build;tear 0"));
        });
        S.of(4, "They are done one behind another.", () -> {
            Shelf x = new Shelf();
            S.due("each needs the one ahead", 5, x.acts("put a 1;turn a b;cut b;put b 2;turn b a"));
            S.due("a", 2, x.find("a", 0));
            S.due("the SLOT of the last one", 0, x.find("a", 3));
            S.due("the latest KEY counts", 2, x.acts("key 9;key 5"));
            S.due("KEY", 5, x.count(6));
        });
        actsNumbers();
        actsWords();
        actsRefused();
    }

    private static void actsNumbers() {
        S.of(4, "an ENTRY: a NAME, a NODE 0 to 999", () -> {
            right("put a 0", 1);
            right("put a 999", 1);
            wrong("put a 1000", 6);
            wrong("put a 99999", 6);
            wrong("put a -1", 6);
        });
        S.of(4, "BITS 1 to 12 (6 at first), KEY 0 to 65535 (1 at first)", () -> {
            wrong("bits 0", 5);
            right("bits 1", 1);
            right("bits 12", 1);
            wrong("bits 13", 5);
            right("key 0", 1);
            right("key 65535", 1);
            wrong("key 65536", 4);
            wrong("key 99999", 4);
        });
        S.of(4, "tear: a BLOCK 0 to 39", () -> {
            refused("tear 0", 5, 0);
            refused("tear 39", 5, 0);
            wrong("tear 40", 5);
            wrong("tear -1", 5);
        });
        S.of(4, "numbers are of 1 to 5 digits", () -> {
            right("put a 00999", 1);
            wrong("put a 000999", 6);
            wrong("put a 0000000000000000000001", 6);
            right("key 00000", 1);
            wrong("key 000000", 4);
            right("bits 00012", 1);
            wrong("bits 000012", 5);
            refused("tear 00039", 5, 0);
            wrong("tear 000039", 5);
            wrong("key 4294967297", 4);
            wrong("key x", 4);
            wrong("key /", 4);
            wrong("key :", 4);
        });
    }

    private static void actsWords() {
        S.of(4, "Words are as long as letters go on", () -> {
            wrong("puta 1", 0);
            wrong("putx a 1", 0);
            wrong("pu a 1", 0);
            wrong("builds", 0);
            wrong("buildfold", 0);
            wrong("foldplain", 0);
            right("put a1", 1);
            right("key5;bits7", 2);
            wrong("put a 1b", 7);
        });
        S.of(4, "what stands first is one of these words, small", () -> {
            String[] words = {"Put a 1", "PUT a 1", "puT a 1", "Build", "FOLD", "a", "name", "abcdefghij", "1", ";", "?"};
            for (String word : words) {
                wrong(word, 0);
            }
            right("put put 1;put build 2;cut put", 3);
        });
        S.of(4, "between all there may be blanks (32), also ahead and behind", () -> {
            right("   put   a   1   ;   cut   a   ", 2);
            right("put a1;cut a;key5;fold;plain;build", 6);
            right("put a 1" + blanks(393), 1);
            right(blanks(393) + "put a 1", 1);
            int[] others = {0, 9, 10, 13, 31, 33, 160, 255};
            for (int other : others) {
                wrong("build" + (char) other, 5);
                wrong((char) other + "build", 0);
                wrong("put" + (char) other + "a 1", 3);
                wrong("put a" + (char) other + "1", 5);
            }
        });
        S.of(4, "NAMES: 1 to 8 letters A to Z, a to z.", () -> {
            right("put a 1;put abcdefgh 2", 2);
            right("put A 1;put Z 2;put z 3", 3);
            wrong("put abcdefghi 1", 4);
            wrong("cut abcdefghi", 4);
            wrong("turn abcdefghi b", 5);
            wrong("put a 1;turn a abcdefghi", 15);
            wrong("put 1", 4);
            char[] beside = {'@', '[', '`', '{', '0', '_', (char) 225};
            for (char sign : beside) {
                wrong("put " + sign + " 1", 4);
                wrong("put a" + sign + "b 1", sign == '0' ? 6 : 5);
                wrong("cut " + sign, 4);
                wrong("turn " + sign + " b", 5);
                wrong("put a 1;turn a " + sign, 15);
            }
        });
    }

    private static void actsRefused() {
        S.of(4, "Of a wrong text nothing stays.", () -> {
            String[] ends = {"", " ?", "; put", ";pat", ";put x 1000", ";bits 0", ";" + builds(10)};
            String much = "bits 3;key 77;cut A;fold;put x 1";
            for (String end : ends) {
                String text = end.isEmpty() ? much + ";" : much + end;
                S.textLeavesRest("'" + text + "'", Prepared::lived, x -> x.acts(text), Shelf.IAE, Sentences.SAME,
                    faultOf(text, end, much.length()));
            }
        });
        S.of(4, "IllegalArgumentException: the text is wrong.", () -> {
            refusedOnLived("put x 1;put a 2", 1, 8);
            refusedOnLived("tear 0;put x 1", 2, 7);
            refusedOnLived("tear 0;turn a x", 2, 7);
            refusedOnLived("key 5; cut x", 4, 7);
            refusedOnLived("turn x y", 4, 0);
            refusedOnLived("put x 1;turn x a", 1, 8);
            refusedOnLived("build;cut a;tear 1", 5, 12);
            refusedOnLived("bits 2;cut A;fold;put A 1", 1, 18);
            refusedOnLived("put B 1;put b 2;fold", 1, 16);
            S.textLeavesRest("put on a full one", Prepared::livedFull, x -> x.acts("put q 1"), Shelf.IAE, 3, 0);
            S.textLeavesRest("build of a full one", Prepared::livedFull, x -> x.acts("cut " + Prepared.nameOf(3) + ";build"),
                Shelf.IAE, 3, 8);
        });
    }

    private static void refusedOnLived(String text, int why, int fault) {
        S.textLeavesRest("'" + text + "'", Prepared::lived, x -> x.acts(text), Shelf.IAE, why, fault);
    }

    /** Where a text becomes wrong that is right up to some place. */
    private static int faultOf(String text, String end, int place) {
        switch (end) {
            case "":
            case "; put":
                return text.length();
            case " ?":
            case ";pat":
                return place + 1;
            case ";put x 1000":
                return place + 7;
            case ";bits 0":
                return place + 6;
            default:
                return text.lastIndexOf("build");
        }
    }

    private static void fault() {
        S.of(5, "The first wrong byte of the latest text that was read; NONE without one, and ahead of any.", () -> {
            Shelf x = new Shelf();
            S.due("ahead of any", -1, x.fault());
            x.acts("build?");
            S.due("of acts", 5, x.fault());
            x.acts("build");
            S.due("without one", -1, x.fault());
            x.put("a?", 1);
            S.due("of put", 1, x.fault());
            x.put("a", 1);
            S.due("without one", -1, x.fault());
            x.cut("ab?");
            S.due("of cut", 2, x.fault());
            x.cut("a");
            S.due("without one", -1, x.fault());
            x.turn("a b?");
            S.due("of turn", 3, x.fault());
            x.turn("a b");
            S.due("of one that is right, and refused", -1, x.fault());
            x.find("abc?", 0);
            S.due("of find", 3, x.fault());
            x.find("abc", 0);
            S.due("without one", -1, x.fault());
            x.way("abcd?", 0);
            S.due("of way", 4, x.fault());
            x.way("abcd", 0);
            S.due("without one", -1, x.fault());
            x.way("", 0);
            S.due("of nothing", 0, x.fault());
            x.acts("");
            S.due("of a text that has none", -1, x.fault());
        });
        S.of(5, "of the latest text that was read", () -> {
            S.textLeavesRest("put of no NODE", Prepared::lived, x -> x.put("ab?", 1000), Shelf.IAE, Sentences.SAME,
                Sentences.SAME);
            S.textLeavesRest("find of another what", Prepared::lived, x -> x.find("ab?", 9), Shelf.NSE, Sentences.SAME,
                Sentences.SAME);
            S.changesNothing("feed", Prepared::lived, x -> x.feedTwenty('?') > 0 && x.end(4) == 1 ? 1 : 0, 1);
            S.changesNothing("a question", Prepared::lived, x -> x.block(0, 0), 2);
        });
        S.of(5, "the begin of the first thing that cannot stand there", TapeSentences::faultThings);
        S.of(5, "a number of more digits, or out of its bounds", () -> {
            wrong("put a   000001 ;", 8);
            wrong("put a   1000 ;", 8);
            wrong("key   65536", 6);
            wrong("key   655350", 6);
            wrong("bits  00 ", 6);
            wrong("tear  99", 6);
        });
        S.of(5, "a word of more than 8 letters, where a NAME must stand", () -> {
            wrong("put   abcdefghi", 6);
            wrong("put abcdefghijklmnopqrstuvwxyz 1", 4);
            Shelf x = new Shelf();
            S.due("cut", Shelf.IAE, x.cut("  abcdefghi"));
            S.due("fault", 2, x.fault());
            S.due("turn", Shelf.IAE, x.turn(" a  abcdefghi b"));
            S.due("fault", 4, x.fault());
            S.due("both are wrong", Shelf.IAE, x.turn(" abcdefghi abcdefghi"));
            S.due("the first one", 1, x.fault());
        });
        S.of(5, "of an ACT too many, or one that is refused, the first word", () -> {
            wrong(builds(14) + ";build", 84);
            wrong(builds(14) + ";   build", 87);
            wrong(builds(14) + " ; pat", 86);
            wrong(builds(14) + ";;", 84);
            wrong(builds(14) + "; 5", 85);
            refused("  cut   a", 4, 2);
            refused("build;  turn   a b ;build", 4, 8);
            refused("put a 1;put a 2;pat", 1, 8);
            refused("put a 1; cut b 5", 4, 9);
            wrong("put a 1;cut a 5", 14);
        });
        S.of(5, "or the text's length, if more must come", TapeSentences::faultLengths);
    }

    private static void faultThings() {
        wrong("?", 0);
        wrong("  ?", 2);
        wrong(";build", 0);
        wrong("build;;build", 6);
        wrong("build build", 6);
        wrong("build , build", 6);
        wrong("build;5", 6);
        wrong("put ; 1", 4);
        wrong("put a ; 1", 6);
        wrong("put a b", 6);
        wrong("put a 1 2", 8);
        wrong("put a 1 b", 8);
        wrong("put 5 a", 4);
        wrong("cut 7", 4);
        wrong("cut ;", 4);
        wrong("turn ;", 5);
        wrong("turn a ; b", 7);
        wrong("turn a 1", 7);
        wrong("bits a", 5);
        wrong("bits ;", 5);
        wrong("key -1", 4);
        wrong("fold 1", 5);
        wrong("plain fold", 6);
        wrong("tear a", 5);
        wrong("build 1", 6);
        wrong(blanks(399) + "?", 399);
        wrong(blanks(392) + "build;?", 398);
    }

    private static void faultLengths() {
        String[] cuts = {"put", "put ", "put a", "put a ", "put a 1;", "put a 1; ", "put a 1;cut", "put a 1;cut ", "cut",
            "turn", "turn ", "turn a", "turn a  ", "bits", "bits ", "key", "key  ", "tear", "tear ", "build;", "build; "};
        for (String text : cuts) {
            wrong(text, text.length());
        }
        wrong(builds(14) + ";", 84);
        wrong(builds(14) + ";  ", 86);
        wrong(blanks(397) + "put", 400);
        wrong("build;" + blanks(394), 400);
        String[] names = {"", " ", "   "};
        for (String text : names) {
            List<Integer> answers = new ArrayList<>();
            Shelf x = new Shelf();
            answers.add(x.put(text, 1));
            answers.add(x.fault());
            answers.add(x.cut(text));
            answers.add(x.fault());
            answers.add(x.turn(text));
            answers.add(x.fault());
            answers.add(x.find(text, 0));
            answers.add(x.fault());
            answers.add(x.way(text, 0));
            answers.add(x.fault());
            for (int k = 0; k < answers.size(); k++) {
                S.due("a NAME that is '" + text + "', " + k, k % 2 == 0 ? Shelf.IAE : text.length(), answers.get(k));
            }
            S.due("one of two", Shelf.IAE, x.turn(text + "a" + text));
            S.due("fault", 2 * text.length() + 1, x.fault());
        }
    }

    private static void why() {
        S.of(6, "WHY (0 at first): of the latest ACT by a call, or of a text that was wrong by it, the number by which it"
            + " was refused", () -> {
            S.due("at first", 0, new Shelf().why());
            Shelf x = new Shelf();
            Prepared.seven(x);
            whyIs(x, "put of one that is there", Shelf.ISE, x.put("a", 1), 1);
            whyIs(x, "tear of a LEAF", Shelf.ISE, x.tear(1), 5);
            whyIs(x, "cut of one that is not there", Shelf.ISE, x.cut("q"), 4);
            whyIs(x, "turn into one that is there", Shelf.ISE, x.turn("a b"), 1);
            whyIs(x, "turn of one that is not there", Shelf.ISE, x.turn("q b"), 4);
            whyIs(x, "tear", 1, x.tear(0), 0);
            whyIs(x, "put with one TORN", Shelf.ISE, x.put("q", 1), 2);
            whyIs(x, "cut", 1, x.cut("a"), 0);
            whyIs(x, "turn with one TORN", Shelf.ISE, x.turn("b q"), 2);
            whyIs(x, "a text", Shelf.IAE, x.acts("cut b;cut b"), 4);
            whyIs(x, "a text", Shelf.IAE, x.acts("tear 1"), 5);
            whyIs(x, "a text", Shelf.IAE, x.acts("put b 1"), 1);
            whyIs(x, "a text", Shelf.IAE, x.acts("put q 1"), 2);
            whyIs(x, "build", 3, x.build(), 0);
            x.put("B", 1);
            whyIs(x, "fold", Shelf.ISE, x.tune(2, 1), 1);
            whyIs(x, "plain", 0, x.tune(2, 0), 0);
            Shelf y = new Shelf();
            Prepared.full(y);
            whyIs(y, "put", Shelf.ISE, y.put("q", 1), 3);
            y.cut("q");
            whyIs(y, "build", Shelf.ISE, y.build(), 3);
            y.cut("q");
            whyIs(y, "tune", Shelf.ISE, y.tune(0, 12), 3);
            y.cut("q");
            whyIs(y, "a text", Shelf.IAE, y.acts("key 2"), 3);
        });
        S.of(6, "0, if it was done, or by a text of ACTS that was right", () -> {
            Shelf x = new Shelf();
            Prepared.seven(x);
            int[] done = {x.cut("q"), x.put("h", 8), x.why(), x.cut("q"), x.cut("h"), x.why(), x.cut("q"), x.turn("a h"),
                x.why(), x.cut("q"), x.tear(0), x.why(), x.cut("q"), x.build(), x.why(), x.cut("q"), x.tune(0, 6), x.why(),
                x.cut("q"), x.tune(1, 1), x.why(), x.cut("q"), x.tune(2, 0), x.why(), x.cut("q"), x.acts("build"), x.why()};
            for (int k = 0; k < done.length; k += 3) {
                S.due("refused " + k, Shelf.ISE, done[k]);
                S.yes("done " + k, done[k + 1] >= 0);
                S.due("why " + k, 0, done[k + 2]);
            }
        });
        S.of(6, "(one that has none, or that is wrong otherwise, leaves WHY)", TapeSentences::whyStays);
    }

    private static void whyIs(Shelf x, String what, int want, int got, int why) {
        S.due(what, want, got);
        S.due(what + ": why", why, x.why());
    }

    private static void whyStays() {
        Shelf x = new Shelf();
        Prepared.lived(x);
        S.due("refused", 4, x.why());
        whyIs(x, "a text that has none", 0, x.acts(""), 4);
        whyIs(x, "a text of blanks", 0, x.acts("  "), 4);
        whyIs(x, "a text that is wrong otherwise", Shelf.IAE, x.acts("put q 1;pat"), 4);
        whyIs(x, "a text of too many", Shelf.IAE, x.acts(builds(15)), 4);
        whyIs(x, "a wrong NAME", Shelf.IAE, x.put("?", 1), 4);
        whyIs(x, "no NODE", Shelf.IAE, x.put("q", -1), 4);
        whyIs(x, "a wrong NAME", Shelf.IAE, x.cut("?"), 4);
        whyIs(x, "wrong NAMES", Shelf.IAE, x.turn("a"), 4);
        whyIs(x, "another what", Shelf.NSE, x.tune(3, 0), 4);
        whyIs(x, "no BITS", Shelf.IAE, x.tune(0, 0), 4);
        whyIs(x, "no BLOCK", Shelf.IOOBE, x.tear(40), 4);
        whyIs(x, "an IMAGE", 1, x.back(), 4);
        whyIs(x, "nothing to be taken back", Shelf.ISE, x.undo(), 4);
        whyIs(x, "no READER that is OPEN", Shelf.ISE, x.next(3), 4);
        x.put("q", 1);
        x.put("q", 1);
        whyIs(x, "what is taken back", 0, x.undo(), 1);
        whyIs(x, "a question of a NAME that is not there", 0, x.find("q", 7), 1);
    }

    public static void main(String[] args) {
        newObject();
        feed();
        end();
        acts();
        fault();
        why();
        S.end();
    }
}
