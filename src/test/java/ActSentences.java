import java.util.ArrayList;
import java.util.List;

/** What the document says at its edges of put, cut, turn, build, tune, tear and undo. */
public final class ActSentences {
    private static final Sentences S = Sentences.from(7, 13);
    private static final int SAME = Sentences.SAME;

    private ActSentences() {
    }

    /** The NODES in the six SLOTS of a LEAF. */
    private static void slots(Shelf x, int block, int... nodes) {
        for (int slot = 0; slot < 6; slot++) {
            S.due("BLOCK " + block + " SLOT " + slot, slot < nodes.length ? nodes[slot] : -1, x.entry(block, slot, 0));
        }
    }

    private static void row(Shelf x, int block, int row, int limit, int mark, int target) {
        S.due("LIMIT of ROW " + row + " of " + block, limit, x.row(block, row, 0));
        S.due("MARK of ROW " + row + " of " + block, mark, x.row(block, row, 1));
        S.due("BLOCK of ROW " + row + " of " + block, target, x.row(block, row, 2));
    }

    private static void refused(String what, Whole.Run ahead, Whole.Question call, int why) {
        S.textLeavesRest(what, ahead, call, Shelf.ISE, why, -1);
    }

    private static void put() {
        S.of(7, "IllegalArgumentException: the NODE is none (then no text is read)", () -> {
            int[] none = {-1, 1000, Integer.MIN_VALUE, Integer.MAX_VALUE};
            for (int node : none) {
                S.textLeavesRest("NODE " + node, Prepared::lived, x -> x.put("h", node), Shelf.IAE, SAME, SAME);
                S.textLeavesRest("NODE " + node + " and a wrong text", Prepared::lived, x -> x.put("h?", node), Shelf.IAE,
                    SAME, SAME);
                S.textLeavesRest("NODE " + node + " of one that is there", Prepared::lived, x -> x.put("a", node),
                    Shelf.IAE, SAME, SAME);
            }
            Shelf x = new Shelf();
            S.due("NODE 0", 0, x.put("a", 0));
            S.due("NODE 999", 0, x.put("b", 999));
            slots(x, 0, 0, 999);
        });
        S.of(7, "or the text is wrong", () -> {
            String[] texts = {"", "  ", "h i", "h?", "?h", "h;", "1", "h 1", "abcdefghi", "put h 1", "h\u0000"};
            int[] faults = {0, 2, 2, 1, 0, 1, 0, 2, 0, 4, 1};
            for (int k = 0; k < texts.length; k++) {
                String text = texts[k];
                S.textLeavesRest("'" + text + "'", Prepared::lived, x -> x.put(text, 5), Shelf.IAE, SAME, faults[k]);
            }
        });
        S.of(7, "NAMES: 1 to 8 letters A to Z, a to z.", () -> {
            String[] names = {"A", "Z", "a", "z", "AZazAZaz", "abcdefg"};
            for (String name : names) {
                Shelf x = new Shelf();
                S.due("put " + name, 0, x.put("  " + name + "  ", 1));
                S.due("letters of " + name, name.length(), x.entry(0, 0, 2));
                for (int k = 0; k < name.length(); k++) {
                    S.due(name + " " + k, name.charAt(k), x.letter(0, 0, k));
                }
            }
        });
        S.of(7, "Two are ONE, if all letters are; with FOLD also if they differ in great and small ones alone.", () -> {
            Shelf x = new Shelf();
            S.due("abc", 0, x.put("abc", 1));
            S.due("ab", 0, x.put("ab", 2));
            S.due("abcd", 0, x.put("abcd", 3));
            S.due("aBc", 0, x.put("aBc", 4));
            refused("abc once more", y -> y.acts("put abc 1;put aBc 2"), y -> y.put("abc", 5), 1);
            refused("another one with FOLD", y -> y.acts("fold;put abC 1"), y -> y.put("ABc", 5), 1);
            S.due("fewer with FOLD", 0, foldOf("abcd").put("abc", 1));
            S.due("more with FOLD", 0, foldOf("abcd").put("abcde", 1));
            S.due("another letter with FOLD", 0, foldOf("abcd").put("abcz", 1));
        });
        putSlots();
        putSplits();
        putLevels();
        putRefused();
    }

    private static Shelf foldOf(String name) {
        Shelf x = new Shelf();
        x.acts("fold;put " + name + " 0");
        return x;
    }

    private static void putSlots() {
        S.of(7, "into the first empty SLOT of the first LEAF of its WAY that has one", () -> {
            Shelf x = new Shelf();
            for (int k = 0; k < 6; k++) {
                S.due("SLOT " + k, 0, x.put("" + (char) ('a' + k), k));
            }
            x.acts("cut d;cut b;cut f");
            slots(x, 0, 0, -1, 2, -1, 4, -1);
            S.due("h", 0, x.put("h", 17));
            slots(x, 0, 0, 17, 2, -1, 4, -1);
            S.due("i", 0, x.put("i", 18));
            S.due("j", 0, x.put("j", 19));
            slots(x, 0, 0, 17, 2, 18, 4, 19);
        });
        S.of(7, "of the first LEAF of its WAY that has one", () -> {
            List<String> names = Names.twoLetters(0, 1);
            Shelf x = new Shelf();
            Prepared.oneHash(x, 0, 10);
            S.due("the first LEAF is full", 6, x.block(2, 1));
            S.due("the second is not", 4, x.block(1, 1));
            S.due("into the second", 0, x.put(names.get(10), 10));
            S.due("its BLOCK", 1, x.find(names.get(10), 2));
            S.due("its SLOT", 4, x.find(names.get(10), 3));
            S.due("cut from the first", 0, x.cut(names.get(0)));
            S.due("into the first", 0, x.put(names.get(11), 11));
            S.due("its BLOCK", 2, x.find(names.get(11), 2));
            S.due("the first three stayed", 0, x.find(names.get(11), 3));
            S.due("the last SLOT of all", 0, x.put(names.get(12), 12));
            S.due("its SLOT", 5, x.find(names.get(12), 3));
            S.due("none has one", 1, x.put(names.get(13), 13));
        });
        S.of(7, "A LEAF has 6 SLOTS (numbered from 0 on)", () -> {
            Shelf x = new Shelf();
            Prepared.six(x);
            S.due("six", 6, x.block(0, 1));
            S.due("LEVELS", 0, x.count(2));
            S.due("the seventh", 2, x.put("g", 7));
            S.due("LEVELS", 1, x.count(2));
        });
    }

    /** Six ENTRIES in a ROOT that is a LEAF, and a seventh: what lies in the two LEAVES, and the ROW between them. */
    private static void splitOf(String six, String seventh, String stay, String go, int limit, int mark) {
        Shelf x = new Shelf();
        List<String> acts = new ArrayList<>();
        for (String name : six.split(" ")) {
            acts.add("put " + name + " " + (int) name.charAt(0));
        }
        x.actsOf(acts);
        S.due("put " + seventh, 2, x.put(seventh, seventh.charAt(0)));
        S.due("ROWS", 2, x.block(0, 1));
        row(x, 0, 0, 0, 0, 2);
        row(x, 0, 1, limit, mark, 1);
        namesIn(x, 2, stay.split(" "));
        namesIn(x, 1, go.split(" "));
    }

    private static void namesIn(Shelf x, int block, String... names) {
        S.due("ENTRIES of " + block, names.length, x.block(block, 1));
        for (int slot = 0; slot < names.length; slot++) {
            S.due("BLOCK " + block + " SLOT " + slot, names[slot].charAt(0), x.entry(block, slot, 0));
            S.due("letters of " + names[slot], names[slot].length(), x.entry(block, slot, 2));
            int last = names[slot].length() - 1;
            S.due(names[slot], names[slot].charAt(last), x.letter(block, slot, last));
        }
    }

    private static void putSplits() {
        S.of(7, "its six ENTRIES and the new one, by HASH, then by NAME: the first three stay, in SLOTS 0 to 2, the last"
            + " four go to a new LEAF, in SLOTS 0 to 3", () -> {
            splitOf("a b c d e f", "g", "b a d", "c f e g", 3, 0);
            splitOf("c d e f g h", "b", "b d c", "f e h g", 4, 0);
            splitOf("a b d e f g", "c", "b a d", "c f e g", 3, 0);
            splitOf("a b c e f g", "d", "b a d", "c f e g", 3, 0);
            splitOf("Z Y X W V U", "T", "T U V", "W X Y Z", 54, 0);
        });
        S.of(7, "LIMIT is the HASH of the first of these four, with a MARK, if the last one that stays has that HASH,"
            + " too", () -> {
            // B and ab have HASH 33.
            splitOf("a b B ab C D", "E", "b a B", "ab C D E", 33, 1);
            splitOf("a b d B ab C", "D", "b a d", "B ab C D", 33, 0);
            splitOf("b B ab C D E", "F", "b B ab", "C D E F", 34, 0);
        });
        S.of(7, "NAMES are ordered by letters (A to Z, then a to z; one that ends sooner ahead).", () -> {
            Shelf x = new Shelf();
            x.acts("bits 1");
            // By BITS 1 all of these have HASH 0.
            String[] sorted = {"A", "AC", "C", "W", "b", "bc", "bca"};
            for (String name : sorted) {
                S.due("HASH of " + name, 0, x.find(name, 4));
            }
            int[] order = {4, 2, 6, 0, 5, 3};
            for (int k : order) {
                x.put(sorted[k], k);
            }
            S.due("split", 2, x.put(sorted[1], 1));
            slots(x, 2, 0, 1, 2);
            slots(x, 1, 3, 4, 5, 6);
            row(x, 0, 1, 0, 1, 1);
        });
        S.of(7, "right behind it in order: a new ROW behind the one that leads to the first", () -> {
            Shelf x = new Shelf();
            Prepared.seven(x);
            List<String> zeros = Names.twoLetters(0, 6);
            for (int k = 0; k < 3; k++) {
                S.due("room in front", 0, x.put(zeros.get(k), 50 + k));
            }
            S.due("the front is split", 1, x.put(zeros.get(3), 53));
            row(x, 0, 0, 0, 0, 2);
            row(x, 0, 1, 0, 1, 3);
            row(x, 0, 2, 3, 0, 1);
            S.due("three ROWS", 3, x.block(0, 1));
            S.due("first LEAF", 2, x.leaf(0));
            S.due("the new one", 3, x.leaf(1));
            S.due("the last one", 1, x.leaf(2));
            slots(x, 1, 3, 6, 5, 7);
        });
    }

    /** How many BLOCKS each of rising HASHES takes: each third one splits the last LEAF. */
    private static int dueOfRising(int nth) {
        return nth == 7 ? 2 : nth == 19 ? 3 : nth == 28 || nth == 37 || nth == 46 ? 2 : nth > 7 && nth % 3 == 1 ? 1 : 0;
    }

    private static void putLevels() {
        S.of(7, "a NAME is PUT: how many BLOCKS it took", () -> {
            Shelf x = new Shelf();
            x.acts("bits 12");
            for (int k = 0; k < 54; k++) {
                S.due("put " + k, dueOfRising(k + 1), x.put(Prepared.nameOf(k), k));
            }
            S.due("one more", Shelf.ISE, x.put(Prepared.nameOf(54), 54));
            S.due("3", 3, x.why());
            S.due("LEAVES", 17, x.count(3));
            S.due("BLOCKS", 23, x.count(1));
        });
        S.of(7, "(LEVELS 0: the ROOT becomes an INDEX of two ROWS, what was in it goes to a new LEAF.)", () -> {
            Shelf x = new Shelf();
            Prepared.seven(x);
            S.due("an INDEX", 2, x.block(0, 0));
            S.due("two ROWS", 2, x.block(0, 1));
            slots(x, 0);
            row(x, 0, 0, 0, 0, 2);
            row(x, 0, 1, 3, 0, 1);
            slots(x, 2, 2, 1, 4);
            slots(x, 1, 3, 6, 5, 7);
            S.due("three BLOCKS", 3, x.count(1));
        });
        S.of(7, "(Of the ROOT: LEVELS is 1 more, it has two ROWS, what stays goes to a new INDEX.)", () -> {
            Shelf x = new Shelf();
            Prepared.rising(x, 18);
            S.due("five ROWS", 5, x.block(0, 1));
            S.due("LEVELS", 1, x.count(2));
            S.due("the sixth", 3, x.put(Prepared.nameOf(18), 18));
            S.due("LEVELS", 2, x.count(2));
            S.due("two ROWS", 2, x.block(0, 1));
            row(x, 0, 0, 0, 0, 8);
            row(x, 0, 1, 9 * Prepared.STEP, 0, 7);
            int[] front = {2, 1, 3};
            int[] behind = {4, 5, 6};
            for (int k = 0; k < 3; k++) {
                row(x, 8, k, 3 * k * Prepared.STEP, 0, front[k]);
                row(x, 7, k, 3 * (k + 3) * Prepared.STEP, 0, behind[k]);
            }
            S.due("three ROWS", 3, x.block(8, 1));
            S.due("three ROWS", 3, x.block(7, 1));
        });
        S.of(7, "An INDEX of six ROWS so: the first three stay, the last three go to a new INDEX, right behind it in the"
            + " one above: a new ROW with LIMIT and MARK of the first of these.", () -> {
            Shelf x = new Shelf();
            Prepared.rising(x, 27);
            S.due("five ROWS", 5, x.block(7, 1));
            S.due("the sixth", 2, x.put(Prepared.nameOf(27), 27));
            S.due("three ROWS", 3, x.block(7, 1));
            S.due("three ROWS", 3, x.block(12, 1));
            S.due("three above", 3, x.block(0, 1));
            row(x, 0, 1, 9 * Prepared.STEP, 0, 7);
            row(x, 0, 2, 18 * Prepared.STEP, 0, 12);
            row(x, 12, 0, 18 * Prepared.STEP, 0, 9);
            row(x, 12, 2, 24 * Prepared.STEP, 0, 11);
            S.due("LEVELS", 2, x.count(2));
        });
        S.of(7, "right behind it in the one above", ActSentences::splitOfFirstIndex);
        S.of(7, "If none has: the first LEAF of the WAY is SPLIT", () -> {
            Shelf x = new Shelf();
            Prepared.oneHash(x, 0, 12);
            S.due("the second LEAF is full", 6, x.block(1, 1));
            S.due("the thirteenth", 1, x.put(Names.twoLetters(0, 1).get(12), 12));
            S.due("the first LEAF", 3, x.block(2, 1));
            S.due("the new one behind it", 4, x.block(3, 1));
            S.due("the last one stays", 6, x.block(1, 1));
            int[] leaves = {2, 3, 1, -1};
            for (int k = 0; k < leaves.length; k++) {
                S.due("leaf " + k, leaves[k], x.leaf(k));
            }
        });
        S.of(7, "A new BLOCK is the least one that is free, taken as they come about: the new LEAF behind, then of the"
            + " ROOT, if it was a LEAF, the one in front; the new INDEX behind, then of the ROOT the one in front.", () -> {
            Shelf x = new Shelf();
            Prepared.rising(x, 28);
            int[] kinds = {2, 1, 1, 1, 1, 1, 1, 2, 2, 1, 1, 1, 2, 0};
            for (int block = 0; block < kinds.length; block++) {
                S.due("BLOCK " + block, kinds[block], x.block(block, 0));
            }
            int[] leaves = {2, 1, 3, 4, 5, 6, 9, 10, 11, -1};
            for (int k = 0; k < leaves.length; k++) {
                S.due("leaf " + k, leaves[k], x.leaf(k));
            }
        });
        S.of(7, "A new BLOCK is the least one that is free", () -> {
            Shelf x = new Shelf();
            Prepared.rising(x, 28);
            x.build();
            S.due("BLOCKS", 10, x.count(1));
            S.due("room in the last LEAF", 2, x.acts("put " + Prepared.nameOf(28) + " 1;put " + Prepared.nameOf(29) + " 1"));
            S.due("split", 1, x.put(Prepared.nameOf(30), 1));
            S.due("the least one", 10, x.leaf(7));
        });
    }

    private static void splitOfFirstIndex() {
        Shelf x = new Shelf();
        Prepared.oneHash(x, 0, 48);
        S.due("five ROWS", 5, x.block(8, 1));
        S.due("the sixth", 2, x.put(Names.twoLetters(0, 1).get(48), 48));
        S.due("three above", 3, x.block(0, 1));
        row(x, 0, 0, 0, 0, 8);
        row(x, 0, 1, 0, 1, 12);
        row(x, 0, 2, 0, 1, 7);
        row(x, 12, 0, 0, 1, 9);
        row(x, 8, 0, 0, 0, 2);
        int[] leaves = {2, 11, 10, 9, 6, 5, 4, 3, 1, -1};
        for (int k = 0; k < leaves.length; k++) {
            S.due("leaf " + k, leaves[k], x.leaf(k));
        }
    }

    private static void putRefused() {
        S.of(7, "1: there is ONE already", () -> {
            refused("a", Prepared::lived, x -> x.put("a", 99), 1);
            refused("A", Prepared::lived, x -> x.put("A", 99), 1);
            refused("one of a full directory", Prepared::livedFull, x -> x.put(Prepared.nameOf(149), 99), 1);
            refused("one by FOLD", x -> {
                Prepared.lived(x);
                x.cut("A");
                x.tune(2, 1);
            }, x -> x.put("A", 99), 1);
        });
        S.of(7, "2: an INDEX is TORN", () -> {
            refused("h", Prepared::torn, x -> x.put("h", 99), 2);
            refused("1 goes ahead", Prepared::torn, x -> x.put("a", 99), 1);
            refused("an INDEX beside the WAY", x -> {
                Prepared.rising(x, 19);
                x.tear(7);
            }, x -> x.put("b", 99), 2);
            refused("2 goes ahead of 3", x -> {
                Prepared.livedFull(x);
                x.tear(0);
            }, x -> x.put("q", 99), 2);
        });
        S.of(7, "3: the ROOT would need a third level", () -> {
            refused("a full directory", Prepared::livedFull, x -> x.put("q", 99), 3);
            refused("the last LEAF of rising ones", x -> Prepared.rising(x, 54), x -> x.put(Prepared.nameOf(54), 99), 3);
            refused("one HASH", x -> Prepared.oneHash(x, 0, Prepared.ONE_HASH_FULL),
                x -> x.put(Names.twoLetters(0, 1).get(Prepared.ONE_HASH_FULL), 99), 3);
            Shelf x = new Shelf();
            Prepared.rising(x, 54);
            S.due("another LEAF has room", 0, x.put(Prepared.otherName(1), 1));
            Shelf y = new Shelf();
            Prepared.livedFull(y);
            S.due("cut", 70, y.cut(Prepared.nameOf(70)));
            S.due("the SLOT that is empty then", 0, y.put(Prepared.otherName(70 * Prepared.STEP + 1), 999));
            S.due("a full one", 150, y.count(0));
        });
    }

    private static void cut() {
        S.of(8, "a NAME is CUT: its NODE", () -> {
            Shelf x = new Shelf();
            x.acts("put a 0;put b 999;put c 5");
            S.due("NODE 999", 999, x.cut("b"));
            S.due("NODE 0", 0, x.cut("  a  "));
            slots(x, 0, -1, -1, 5);
            S.due("the last one", 5, x.cut("c"));
            S.due("nothing is left", 0, x.count(0));
            S.due("nothing to cut", Shelf.ISE, x.cut("c"));
        });
        S.of(8, "its SLOT is empty (also with a TORN INDEX)", () -> {
            Shelf x = new Shelf();
            Prepared.seven(x);
            S.due("f", 6, x.cut("f"));
            slots(x, 1, 3, -1, 5, 7);
            S.due("tear", 1, x.tear(0));
            S.due("a", 1, x.cut("a"));
            slots(x, 2, 2, -1, 4);
            S.due("b", 2, x.cut("b"));
            S.due("d", 4, x.cut("d"));
            S.due("the LEAF stays", 1, x.block(2, 0));
            S.due("it is empty", 0, x.block(2, 1));
            S.due("BLOCKS", 3, x.count(1));
            S.due("ROWS", 2, x.block(0, 1));
            S.due("still TORN", 1, x.count(4));
        });
        S.of(8, "its SLOT is empty", () -> {
            Shelf x = new Shelf();
            Prepared.oneHash(x, 0, Prepared.ONE_HASH_FULL);
            List<String> names = Names.twoLetters(0, 1);
            int last = x.entry(x.leaf(16), 3, 0);
            S.due("one in the last LEAF of its WAY", last, x.cut(names.get(last)));
            S.due("its SLOT", -1, x.entry(x.leaf(16), 3, 0));
            S.due("it is FOUND no more", -1, x.find(names.get(last), 0));
            Shelf y = new Shelf();
            y.acts("fold;put aB 7");
            S.due("by FOLD", 7, y.cut("Ab"));
        });
        S.of(8, "It is refused: 4: it is not FOUND", () -> {
            refused("of nothing", x -> x.cut("1"), x -> x.cut("a"), 4);
            refused("h", Prepared::lived, x -> x.cut("h"), 4);
            refused("one that was cut", Prepared::lived, x -> x.cut("b"), 4);
            refused("a great one", Prepared::lived, x -> x.cut("C"), 4);
            refused("one with more letters", Prepared::lived, x -> x.cut("aa"), 4);
            refused("with one TORN", Prepared::torn, x -> x.cut("h"), 4);
            refused("of a full directory", Prepared::livedFull, x -> x.cut(Prepared.otherName(1)), 4);
        });
        S.of(8, "IllegalArgumentException: the text is wrong", () -> {
            String[] texts = {"", "  ", "a b", "a?", "1", "abcdefghi", "a;"};
            int[] faults = {0, 2, 2, 1, 0, 0, 1};
            for (int k = 0; k < texts.length; k++) {
                String text = texts[k];
                S.textLeavesRest("'" + text + "'", Prepared::lived, x -> x.cut(text), Shelf.IAE, SAME, faults[k]);
            }
        });
    }

    private static void turn() {
        S.of(9, "the first is TURNED into the second: its NODE", () -> {
            Shelf x = new Shelf();
            x.acts("put a 0;put b 999");
            S.due("NODE 0", 0, x.turn(" a  A "));
            S.due("NODE 999", 999, x.turn("b abcdefgh"));
            slots(x, 0, 0, 999);
            S.due("letters", 8, x.entry(0, 1, 2));
            S.due("a great one", 'A', x.letter(0, 0, 0));
            S.due("two ACTS are remembered", 2, x.count(8));
        });
        S.of(9, "the ENTRY is CUT, and PUT with the other NAME and its NODE", () -> {
            Shelf x = new Shelf();
            Prepared.six(x);
            S.due("the SLOT that CUT leaves", 4, x.turn("d h"));
            slots(x, 0, 1, 2, 3, 4, 5, 6);
            x.cut("b");
            S.due("the first empty SLOT", 4, x.turn("h i"));
            slots(x, 0, 1, 4, 3, -1, 5, 6);
            S.due("into itself", 6, x.turn("f f"));
            slots(x, 0, 1, 4, 3, 6, 5, -1);
            S.due("no empty SLOT ahead", 1, x.turn("a a"));
            slots(x, 0, 1, 4, 3, 6, 5, -1);
        });
        S.of(9, "PUT with the other NAME", () -> {
            Shelf x = new Shelf();
            Prepared.seven(x);
            x.acts("put h 8;put i 9");
            S.due("into a LEAF that is full", 1, x.turn("a k"));
            S.due("a new LEAF", 4, x.count(1));
            S.due("in front", 2, x.block(2, 1));
            slots(x, 1, 3, 6, 5);
            slots(x, 3, 8, 7, 9, 1);
            S.due("one ACT behind the text", 1, x.count(8));
        });
        turnRefused();
        S.of(9, "IllegalArgumentException: the text is wrong", () -> {
            String[] texts = {"", "a", "a  ", "a b c", "a?", "a b?", "1 b", "a 1", "abcdefghi b", "a abcdefghi", "a;b"};
            int[] faults = {0, 1, 3, 4, 1, 3, 0, 2, 0, 2, 1};
            for (int k = 0; k < texts.length; k++) {
                String text = texts[k];
                S.textLeavesRest("'" + text + "'", Prepared::lived, x -> x.turn(text), Shelf.IAE, SAME, faults[k]);
            }
        });
    }

    private static void turnRefused() {
        S.of(9, "4: the first is not FOUND", () -> {
            refused("of nothing", x -> x.cut("1"), x -> x.turn("a b"), 4);
            refused("h", Prepared::lived, x -> x.turn("h i"), 4);
            refused("4 goes ahead of 1", Prepared::lived, x -> x.turn("h a"), 4);
            refused("4 goes ahead of 2", Prepared::torn, x -> x.turn("h i"), 4);
            refused("4 goes ahead of 3", Prepared::livedFull, x -> x.turn("q r"), 4);
            refused("into itself", Prepared::lived, x -> x.turn("h h"), 4);
        });
        S.of(9, "1: the other one is FOUND, and in another SLOT", () -> {
            refused("c", Prepared::lived, x -> x.turn("a c"), 1);
            refused("1 goes ahead of 2", Prepared::torn, x -> x.turn("a c"), 1);
            refused("1 goes ahead of 3", Prepared::livedFull,
                x -> x.turn(Prepared.nameOf(0) + " " + Prepared.nameOf(149)), 1);
            refused("by FOLD", x -> x.acts("fold;put a 1;put b 2"), x -> x.turn("a B"), 1);
            Shelf x = new Shelf();
            x.acts("fold;put ab 1;put b 2");
            S.due("in the same SLOT", 1, x.turn("AB Ab"));
            S.due("the first letter", 'A', x.letter(0, 0, 0));
            S.due("the second letter", 'b', x.letter(0, 0, 1));
        });
        S.of(9, "1: the other one is FOUND, and in another SLOT; 2; 3 (nothing happens then)", () -> {
            refused("2", Prepared::torn, x -> x.turn("a h"), 2);
            refused("2, into itself", Prepared::torn, x -> x.turn("a a"), 2);
            refused("2 goes ahead of 3", x -> {
                Prepared.livedFull(x);
                x.tear(0);
            }, x -> x.turn(Prepared.nameOf(0) + " " + Prepared.otherName(149 * Prepared.STEP)), 2);
            refused("3", Prepared::livedFull,
                x -> x.turn(Prepared.nameOf(0) + " " + Prepared.otherName(149 * Prepared.STEP)), 3);
            refused("3, into the next LEAF", Prepared::livedFull,
                x -> x.turn(Prepared.nameOf(5) + " " + Prepared.otherName(6 * Prepared.STEP)), 3);
            Shelf x = new Shelf();
            Prepared.livedFull(x);
            S.due("the SLOT that CUT leaves", 5, x.turn(Prepared.nameOf(5) + " " + Prepared.otherName(6 * Prepared.STEP - 1)));
            S.due("into itself", 77, x.turn(Prepared.nameOf(77) + " " + Prepared.nameOf(77)));
            S.due("a full one", 150, x.count(0));
        });
    }

    /** So many ENTRIES of rising HASHES, as a directory that may be cut down from the full one. */
    private static void sized(Shelf x, int many) {
        if (many <= 54) {
            Prepared.rising(x, many);
            return;
        }
        Prepared.full(x);
        List<String> cuts = new ArrayList<>();
        for (int k = many; k < Prepared.FULL; k++) {
            cuts.add("cut " + Prepared.nameOf(k));
        }
        x.actsOf(cuts);
    }

    private static int groups(int many) {
        return (many + 3) / 4;
    }

    /** BUILT of ENTRIES with HASHES 0, 27, 54, ..: each BLOCK of it. */
    private static void builtOf(int many) {
        int leaves = groups(many);
        int indexes = leaves > 5 ? groups(leaves) : 0;
        int blocks = leaves <= 1 ? 1 : leaves + indexes + 1;
        Shelf x = new Shelf();
        sized(x, many);
        S.due("build of " + many, blocks, x.build());
        S.due(many + ": BLOCKS", blocks, x.count(1));
        S.due(many + ": LEVELS", leaves <= 1 ? 0 : indexes == 0 ? 1 : 2, x.count(2));
        S.due(many + ": behind the last BLOCK", 0, x.block(blocks, 0));
        for (int k = 0; k < Math.max(1, leaves); k++) {
            int block = leaves <= 1 ? 0 : 1 + k;
            S.due(many + ": leaf " + k, block, x.leaf(k));
            S.due(many + ": ENTRIES of leaf " + k, Math.min(4, many - 4 * k), x.block(block, 1));
            S.due(many + ": NODE in leaf " + k, many == 0 ? -1 : 4 * k, x.entry(block, 0, 0));
        }
        S.due(many + ": no more LEAVES", -1, x.leaf(Math.max(1, leaves)));
        if (leaves > 1 && indexes == 0) {
            rowsOfBuilt(x, 0, 0, leaves);
        }
        for (int k = 0; k < indexes; k++) {
            rowsOfBuilt(x, 1 + leaves + k, 4 * k, Math.min(4 * k + 4, leaves));
            row(x, 0, k, 16 * k * Prepared.STEP, 0, 1 + leaves + k);
        }
        if (indexes > 0) {
            S.due(many + ": ROWS of the ROOT", indexes, x.block(0, 1));
        }
    }

    private static void rowsOfBuilt(Shelf x, int index, int from, int to) {
        S.due("ROWS of " + index, to - from, x.block(index, 1));
        for (int k = from; k < to; k++) {
            row(x, index, k - from, 4 * k * Prepared.STEP, 0, 1 + k);
        }
    }

    private static void build() {
        S.of(10, "BUILT: how many BLOCKS are not free then.", () -> {
            S.due("of nothing", 1, new Shelf().build());
            Shelf x = new Shelf();
            Prepared.seven(x);
            S.due("of seven", 3, x.build());
            S.due("once more", 3, x.build());
            S.due("BLOCKS", 3, x.count(1));
        });
        S.of(10, "without ENTRIES, and with four at most, the ROOT is a LEAF", () -> {
            int[] few = {0, 1, 3, 4, 5};
            for (int many : few) {
                builtOf(many);
            }
            Shelf x = new Shelf();
            Prepared.seven(x);
            x.acts("cut a;cut b;cut c");
            S.due("four of two LEAVES", 1, x.build());
            S.due("a LEAF", 1, x.block(0, 0));
            S.due("no ROWS", Shelf.IOOBE, x.row(0, 0, 0));
            slots(x, 0, 4, 6, 5, 7);
            x.acts("cut d;cut e;cut f;cut g");
            S.due("none", 1, x.build());
            slots(x, 0);
            Shelf y = new Shelf();
            y.acts("put a 1;put b 2;put c 3;put d 4;put e 5");
            S.due("five of one LEAF", 3, y.build());
            slots(y, 0);
            S.due("ENTRIES", 5, y.count(0));
        });
        S.of(10, "LEAVES of four (of the last one what is left), in order", () -> {
            int[] some = {7, 8, 9, 12, 13};
            for (int many : some) {
                builtOf(many);
            }
        });
        S.of(10, "else INDEXES of four ROWS (of the last one what is left) over LEAVES, if these are more than five, else"
            + " the ROOT over them", () -> {
            int[] more = {16, 17, 20, 21, 24, 32, 33, 36, 37, 48, 49, 64, 65};
            for (int many : more) {
                builtOf(many);
            }
        });
        S.of(10, "if these are more than five", () -> {
            Shelf x = new Shelf();
            Prepared.oneHash(x, 0, 30);
            S.due("five LEAVES that are full", 5, x.count(3));
            S.due("LEVELS", 1, x.count(2));
            S.due("build", 11, x.build());
            S.due("LEVELS", 2, x.count(2));
            S.due("eight LEAVES", 8, x.count(3));
            S.due("two INDEXES", 2, x.block(0, 1));
            S.due("one is FOUND", 29, x.find(Names.twoLetters(0, 1).get(29), 0));
        });
        S.of(10, "of the last one what is left", () -> {
            Shelf x = new Shelf();
            Prepared.rising(x, 15);
            S.due("fifteen", 5, x.build());
            S.due("cut", 1, x.acts("cut " + Prepared.nameOf(14)));
            S.due("fourteen", 5, x.build());
            slots(x, 4, 12, 13);
            S.due("cut", 1, x.acts("cut " + Prepared.nameOf(13)));
            S.due("thirteen", 5, x.build());
            slots(x, 4, 12);
            S.due("ENTRIES", 13, x.count(0));
        });
        S.of(10, "An INDEX has 1 to 5 ROWS (numbered from 0 on)", () -> {
            Shelf x = new Shelf();
            Prepared.rising(x, 33);
            x.build();
            S.due("an INDEX of one ROW", 1, x.block(12, 1));
            row(x, 12, 0, 32 * Prepared.STEP, 0, 9);
            S.due("no second", Shelf.IOOBE, x.row(12, 1, 0));
            S.due("one in it is FOUND", 32, x.find(Prepared.nameOf(32), 0));
            S.due("READ", 3, x.find(Prepared.nameOf(32), 1));
        });
        S.of(10, "all ENTRIES, by HASH, then by NAME, are laid anew", () -> {
            Shelf x = new Shelf();
            x.acts("bits 1;put W 2;put b 3;put AC 1;put A 0;put C 5;put bc 4");
            S.due("six", 3, x.build());
            slots(x, 1, 0, 1, 5, 2);
            slots(x, 2, 3, 4);
        });
        S.of(10, "LIMIT of each but the first LEAF is the HASH of its first ENTRY, with a MARK, if the last one of the LEAF"
            + " ahead has it, too", () -> {
            marksOf("a b c d", "f e", 4, 0);
            marksOf("a b d B", "ab C", 33, 1);
            marksOf("a b c d", "B ab", 33, 0);
            marksOf("a b B ab", "C D", 34, 0);
        });
        S.of(10, "LIMIT of the first ROW of all is 0 without MARK; of each other INDEX the first ROW has LIMIT and MARK of"
            + " the ROW that leads to it.", ActSentences::firstRows);
        S.of(10, "BLOCKS: LEAVES have 1, 2, .. in order, INDEXES those behind; all others are free.", () -> {
            Shelf x = new Shelf();
            Prepared.full(x);
            S.due("31 BLOCKS", 31, x.count(1));
            sizedDown(x, 17);
            S.due("build", 6, x.build());
            for (int block = 0; block < 40; block++) {
                S.due("BLOCK " + block, block == 0 ? 2 : block < 6 ? 1 : 0, x.block(block, 0));
                S.due("ENTRIES or ROWS of " + block, block == 0 ? 5 : block < 5 ? 4 : block == 5 ? 1 : 0, x.block(block, 1));
            }
        });
        S.of(10, "(BUILT: nothing is TORN.)", () -> {
            Shelf x = new Shelf();
            Prepared.rising(x, 28);
            x.tear(0);
            x.tear(7);
            S.due("all are TORN", 3, x.tear(12));
            S.due("build", 10, x.build());
            S.due("none is", 0, x.count(4));
            for (int block = 0; block < 40; block++) {
                S.due("TORN " + block, 0, x.block(block, 2));
            }
            S.due("put again", 0, x.put(Prepared.otherName(1), 1));
        });
        buildRefused();
    }

    private static void sizedDown(Shelf x, int many) {
        List<String> cuts = new ArrayList<>();
        for (int k = many; k < Prepared.FULL; k++) {
            cuts.add("cut " + Prepared.nameOf(k));
        }
        x.actsOf(cuts);
    }

    /** Two LEAVES that BUILT makes, and LIMIT and MARK of the second. */
    private static void marksOf(String first, String second, int limit, int mark) {
        Shelf x = new Shelf();
        List<String> acts = new ArrayList<>();
        for (String name : (second + " " + first).split(" ")) {
            acts.add("put " + name + " " + (int) name.charAt(0));
        }
        x.actsOf(acts);
        S.due("build of " + first + " and " + second, 3, x.build());
        row(x, 0, 0, 0, 0, 1);
        row(x, 0, 1, limit, mark, 2);
        S.due("in the second", second.length() - second.replace(" ", "").length() + 1, x.block(2, 1));
        S.due("the first of the second", second.charAt(0), x.entry(2, 0, 0));
    }

    private static void firstRows() {
        Shelf x = new Shelf();
        x.acts("put U 1;put V 2;put W 3;put X 4;put Y 5");
        S.due("build", 3, x.build());
        row(x, 0, 0, 0, 0, 1);
        row(x, 0, 1, 56, 0, 2);
        S.due("one below all of them", 1, x.way("a", 1));
        Shelf y = new Shelf();
        Prepared.oneHash(y, 1, 80);
        S.due("build", 26, y.build());
        for (int k = 0; k < 5; k++) {
            row(y, 0, k, k == 0 ? 0 : 1, k == 0 ? 0 : 1, 21 + k);
            row(y, 21 + k, 0, k == 0 ? 0 : 1, k == 0 ? 0 : 1, 1 + 4 * k);
            row(y, 21 + k, 3, 1, 1, 4 + 4 * k);
        }
    }

    private static void buildRefused() {
        S.of(10, "It is refused: 3: there would be more than five INDEXES.", () -> {
            builtOf(79);
            builtOf(80);
            Whole.Run ahead = x -> {
                sized(x, 81);
                x.image();
                x.open(3, true);
                x.next(3);
                x.cut("q");
            };
            S.callLeavesRest("81", ahead, x -> x.build(), Shelf.ISE, 3);
            S.callLeavesRest("a full one", Prepared::livedFull, x -> x.build(), Shelf.ISE, 3);
            S.callLeavesRest("81, TORN", x -> {
                ahead.on(x);
                x.tear(0);
            }, x -> x.build(), Shelf.ISE, 3);
            Shelf x = new Shelf();
            ahead.on(x);
            S.due("cut", 80, x.cut(Prepared.nameOf(80)));
            S.due("then it is not", 26, x.build());
        });
    }

    private static void tune() {
        S.of(11, "What 0 BITS, 1 KEY, 2 FOLD (0, 1) is told: what it was.", () -> {
            Shelf x = new Shelf();
            S.due("BITS 1", 6, x.tune(0, 1));
            S.due("BITS 12", 1, x.tune(0, 12));
            S.due("BITS 12 once more", 12, x.tune(0, 12));
            S.due("KEY 0", 1, x.tune(1, 0));
            S.due("KEY 65535", 0, x.tune(1, 65535));
            S.due("KEY 65535 once more", 65535, x.tune(1, 65535));
            S.due("not FOLD", 0, x.tune(2, 0));
            S.due("FOLD", 0, x.tune(2, 1));
            S.due("FOLD once more", 1, x.tune(2, 1));
            S.due("not FOLD", 1, x.tune(2, 0));
            S.due("eight are remembered", 8, x.count(8));
            S.due("BITS", 12, x.count(5));
            S.due("KEY", 65535, x.count(6));
            S.due("FOLD", 0, x.count(7));
        });
        S.of(11, "NoSuchElementException: another what", () -> {
            int[] others = {-1, 3, Integer.MIN_VALUE, Integer.MAX_VALUE};
            for (int what : others) {
                S.callLeavesRest("what " + what, Prepared::lived, x -> x.tune(what, 1), Shelf.NSE, SAME);
                S.callLeavesRest("what " + what + ", and n is none", Prepared::lived, x -> x.tune(what, -1), Shelf.NSE,
                    SAME);
                S.callLeavesRest("what " + what + ", and it cannot be", Prepared::livedFull, x -> x.tune(what, 1),
                    Shelf.NSE, SAME);
            }
        });
        S.of(11, "IllegalArgumentException: n is none", () -> {
            int[][] none = {{0, 0}, {0, 13}, {0, -1}, {1, -1}, {1, 65536}, {2, -1}, {2, 2}, {0, Integer.MIN_VALUE},
                {0, Integer.MAX_VALUE}, {1, Integer.MIN_VALUE}, {1, Integer.MAX_VALUE}, {2, Integer.MAX_VALUE}};
            for (int[] one : none) {
                S.callLeavesRest("tune " + one[0] + " " + one[1], Prepared::lived, x -> x.tune(one[0], one[1]), Shelf.IAE,
                    SAME);
                S.callLeavesRest("tune " + one[0] + " " + one[1] + " of a full one", Prepared::livedFull,
                    x -> x.tune(one[0], one[1]), Shelf.IAE, SAME);
            }
        });
        S.of(11, "BITS, KEY, FOLD told (by bits, key, fold, plain): BUILT by these", () -> {
            Shelf x = new Shelf();
            Prepared.seven(x);
            x.tear(0);
            S.due("BITS 1", 6, x.tune(0, 1));
            S.due("nothing is TORN", 0, x.count(4));
            slots(x, 1, 2, 4, 6, 1);
            slots(x, 2, 3, 5, 7);
            row(x, 0, 1, 1, 1, 2);
            S.due("the same once more", 1, x.tune(0, 1));
            slots(x, 1, 2, 4, 6, 1);
            S.due("BITS 6", 1, x.tune(0, 6));
            S.due("KEY 0", 1, x.tune(1, 0));
            // By KEY 0 a letter's HASH is its code: 97 is left of 64 by 33.
            slots(x, 1, 1, 2, 3, 4);
            row(x, 0, 1, 37, 0, 2);
            S.due("KEY 65535", 0, x.tune(1, 65535));
            S.due("HASH of a", 2, x.find("a", 4));
        });
        S.of(11, "BUILT by these", () -> {
            Shelf x = new Shelf();
            x.acts("put A 1;put b 2;put C 3;put d 4;put e 5;put F 6");
            S.due("FOLD", 0, x.tune(2, 1));
            slots(x, 1, 2, 1, 4, 3);
            slots(x, 2, 6, 5);
            S.due("letters stay", 'A', x.letter(1, 1, 0));
            S.due("HASH of A", 1, x.entry(1, 1, 1));
            S.due("plain", 1, x.tune(2, 0));
            slots(x, 1, 2, 4, 5, 1);
            S.due("HASH of A", 32, x.entry(1, 3, 1));
        });
        tuneRefused();
        S.of(11, "BITS, KEY, FOLD told (and not refused): no READER is OPEN.", ActSentences::tuneReaders);
    }

    private static void tuneRefused() {
        S.of(11, "refused: 3; 1 (fold): two NAMES would be ONE; nothing happens then", () -> {
            int[][] told = {{0, 1}, {0, 12}, {1, 1}, {1, 2}, {2, 0}, {2, 1}};
            for (int[] one : told) {
                String what = "tune " + one[0] + " " + one[1];
                Whole.Question tune = x -> x.tune(one[0], one[1]);
                S.callLeavesRest(what + " of a full one", Prepared::livedFull, tune, Shelf.ISE, 3);
                S.callLeavesRest(what + " of 81", x -> sized(x, 81), tune, Shelf.ISE, 3);
                Shelf y = new Shelf();
                sized(y, 80);
                S.yes(what + " of 80", tune.to(y) >= 0);
                S.due("BLOCKS", 26, y.count(1));
            }
            S.callLeavesRest("fold of A and a", Prepared::lived, x -> x.tune(2, 1), Shelf.ISE, 1);
            S.callLeavesRest("fold of longer ones", x -> x.acts("put abCdefgh 1;put zz 2;put abcdefGh 3"),
                x -> x.tune(2, 1), Shelf.ISE, 1);
            Shelf y = new Shelf();
            y.acts("put a 1;put A 2");
            S.due("fold of two", Shelf.ISE, y.tune(2, 1));
            S.due("cut", 2, y.cut("A"));
            S.due("fold of the one that is left", 0, y.tune(2, 1));
            Shelf z = new Shelf();
            z.acts("put abcdefgh 1;build");
            S.due("fold of one alone", 0, z.tune(2, 1));
            Shelf x = new Shelf();
            x.acts("put ab 1;put Abc 2;put B 3;put bb 4");
            S.due("fold of such that are not", 0, x.tune(2, 1));
            S.due("fold of such that are FOLD already", 1, x.tune(2, 1));
        });
        S.of(11, "refused: 3; 1 (fold)", () -> S.callLeavesRest("3 goes ahead of 1", x -> {
            sized(x, 80);
            x.put(Prepared.nameOf(0).toUpperCase(), 1);
        }, x -> x.tune(2, 1), Shelf.ISE, 3));
    }

    private static void tuneReaders() {
        int[][] told = {{0, 6}, {0, 7}, {1, 1}, {1, 2}, {2, 0}, {2, 1}};
        for (int[] one : told) {
            Shelf x = new Shelf();
            Prepared.seven(x);
            for (int reader = 0; reader < 4; reader++) {
                x.open(reader, true);
                x.next(reader);
            }
            S.yes("tune " + one[0] + " " + one[1], x.tune(one[0], one[1]) >= 0);
            for (int reader = 0; reader < 4; reader++) {
                S.due("OPEN", 0, x.reader(reader, 0));
                S.due("COOKIE", 1, x.reader(reader, 1));
                S.due("LISTED", 1, x.reader(reader, 2));
                S.due("the BATCH", 2, x.batch(reader, 0));
                S.due("next", Shelf.ISE, x.next(reader));
            }
        }
        String[] texts = {"bits 6", "key 1", "fold", "plain", "put q 1;bits 2;cut q"};
        for (String text : texts) {
            Shelf x = new Shelf();
            x.open(0, true);
            x.open(3, true);
            S.yes("'" + text + "'", x.acts(text) > 0);
            S.due("OPEN", 0, x.reader(0, 0) + x.reader(3, 0));
        }
    }

    private static void tear() {
        S.of(12, "An INDEX is TORN: how many are then.", () -> {
            Shelf x = new Shelf();
            Prepared.rising(x, 19);
            S.due("the first one", 1, x.tear(8));
            S.due("once more", 1, x.tear(8));
            S.due("the ROOT", 2, x.tear(0));
            S.due("the last one", 3, x.tear(7));
            S.due("count", 3, x.count(4));
            int[] torn = {1, 0, 0, 0, 0, 0, 0, 1, 1, 0};
            for (int block = 0; block < torn.length; block++) {
                S.due("TORN " + block, torn[block], x.block(block, 2));
            }
            S.due("four ACTS", 4, x.count(8));
        });
        S.of(12, "IndexOutOfBoundsException: there is no such BLOCK (0 to 39)", () -> {
            int[] none = {-1, 40, Integer.MIN_VALUE, Integer.MAX_VALUE};
            for (int block : none) {
                S.callLeavesRest("BLOCK " + block, Prepared::lived, x -> x.tear(block), Shelf.IOOBE, SAME);
            }
        });
        S.of(12, "refused: 5: the BLOCK is no INDEX", () -> {
            S.callLeavesRest("a LEAF", Prepared::lived, x -> x.tear(1), Shelf.ISE, 5);
            S.callLeavesRest("a LEAF", Prepared::lived, x -> x.tear(2), Shelf.ISE, 5);
            S.callLeavesRest("the first that is free", Prepared::lived, x -> x.tear(3), Shelf.ISE, 5);
            S.callLeavesRest("the last BLOCK", Prepared::lived, x -> x.tear(39), Shelf.ISE, 5);
            S.callLeavesRest("with one TORN", Prepared::torn, x -> x.tear(1), Shelf.ISE, 5);
            S.callLeavesRest("the ROOT that is a LEAF", x -> x.acts(""), x -> x.tear(0), Shelf.ISE, 5);
            S.callLeavesRest("the last INDEX of a full one and one more", Prepared::livedFull, x -> x.tear(31), Shelf.ISE,
                5);
        });
    }

    private static void undo() {
        S.of(13, "(8 are remembered)", () -> {
            Shelf x = new Shelf();
            for (int k = 0; k < 8; k++) {
                x.put("" + (char) ('a' + k), k);
                S.due("remembered", k + 1, x.count(8));
            }
            x.put("i", 8);
            S.due("the ninth", 8, x.count(8));
            for (int k = 7; k >= 0; k--) {
                S.due("undo", k, x.undo());
                S.due("count", k, x.count(8));
                S.due("ENTRIES", k + 1, x.count(0));
            }
            S.due("the first one stays", Shelf.ISE, x.undo());
            S.due("ENTRIES", 1, x.count(0));
        });
        S.of(13, "the latest ACT that was done by a call and not refused, not taken back yet", () -> {
            Shelf x = new Shelf();
            for (int k = 0; k < 12; k++) {
                x.put("" + (char) ('a' + k), k);
            }
            x.undo();
            x.undo();
            S.due("three are taken back", 5, x.undo());
            S.due("i is there", 8, x.find("i", 0));
            S.due("j is not", -1, x.find("j", 0));
            x.put("y", 20);
            S.due("refused", Shelf.ISE, x.put("y", 21));
            S.due("wrong", Shelf.IAE, x.put("?", 21));
            S.due("not among them", 6, x.count(8));
            x.put("z", 21);
            x.put("Y", 22);
            x.put("Z", 23);
            S.due("eight again", 8, x.count(8));
            for (int k = 7; k >= 0; k--) {
                S.due("undo", k, x.undo());
                S.due("ENTRIES", 5 + k, x.count(0));
            }
            S.due("none", Shelf.ISE, x.undo());
            S.due("e is there", 4, x.find("e", 0));
            S.due("f is not", -1, x.find("f", 0));
        });
        S.of(13, "all is as ahead of it (but for the TAPE, fault(), WHY, THE IMAGE and what READERS are)",
            ActSentences::undoOfEach);
        S.of(13, "A text, going back: none are remembered.", () -> {
            forgets("a text", x -> x.acts("put q 1"), 1);
            forgets("a text that has none", x -> x.acts(" "), 0);
            forgets("going back", x -> x.back(), 1);
            Whole.Run noImage = x -> {
                Prepared.six(x);
                x.put("g", 7);
            };
            S.changesNothing("no IMAGE", noImage, x -> x.back(), 0);
            S.textLeavesRest("a wrong text", Prepared::lived, x -> x.acts("build;cut q"), Shelf.IAE, 4, 6);
            Shelf x = new Shelf();
            Prepared.seven(x);
            x.image();
            S.due("THE IMAGE leaves them", 1, x.count(8));
        });
        S.of(13, "IllegalStateException: there is none.", () -> {
            S.callLeavesRest("a new one", x -> x.cut("a"), x -> x.undo(), Shelf.ISE, SAME);
            S.callLeavesRest("behind a text", x -> {
                Prepared.lived(x);
                x.acts("put q 1");
                x.cut("b");
            }, x -> x.undo(), Shelf.ISE, SAME);
        });
    }

    private static void forgets(String what, Whole.Question call, int answer) {
        Shelf x = new Shelf();
        Prepared.lived(x);
        S.due(what + ": remembered ahead", 4, x.count(8));
        S.due(what, answer, call.to(x));
        S.due(what + ": remembered", 0, x.count(8));
        S.due(what + ": undo", Shelf.ISE, x.undo());
    }

    private static void undoOfEach() {
        takenBack("put", Prepared::lived, x -> x.put("h", 8));
        takenBack("put that splits", Prepared::six, x -> x.put("g", 7));
        takenBack("put that splits the ROOT", x -> Prepared.rising(x, 18), x -> x.put(Prepared.nameOf(18), 18));
        takenBack("put that splits an INDEX", x -> Prepared.rising(x, 27), x -> x.put(Prepared.nameOf(27), 27));
        takenBack("cut", Prepared::lived, x -> x.cut("a"));
        takenBack("turn", Prepared::lived, x -> x.turn("a h"));
        takenBack("turn into itself", Prepared::lived, x -> x.turn("e e"));
        takenBack("build", Prepared::torn, x -> x.build());
        takenBack("BITS", Prepared::torn, x -> x.tune(0, 3));
        takenBack("KEY", Prepared::lived, x -> x.tune(1, 3));
        takenBack("FOLD", Prepared::seven, x -> x.tune(2, 1));
        takenBack("BITS of two levels", Prepared::marked, x -> x.tune(0, 12));
        takenBack("KEY of two levels", x -> Prepared.rising(x, 28), x -> x.tune(1, 77));
        takenBack("build of two levels", x -> Prepared.rising(x, 28), x -> x.build());
        takenBack("tear", Prepared::lived, x -> x.tear(0));
        takenBack("tear of one that is TORN", Prepared::torn, x -> x.tear(0));
        takenBack("cut of a full one", Prepared::livedFull, x -> x.cut(Prepared.nameOf(149)));
    }

    /** An ACT and undo: the directory is as ahead, and READERS, THE IMAGE, WHY, fault() and the TAPE as the ACT left them. */
    private static void takenBack(String what, Whole.Run ahead, Whole.Question act) {
        Whole.Run done = x -> {
            ahead.on(x);
            S.yes(what + " is done", act.to(x) >= 0);
            x.cut("nosuch");
            x.find("ab?", 0);
            x.tape("Tape");
        };
        Whole.Run back = Sentences.then(done, x -> x.undo());
        S.same(what + ": the directory", Whole.directory(ahead), Whole.directory(back));
        S.same(what + ": READERS", Whole.readers(done), Whole.readers(back));
        S.same(what + ": THE IMAGE", Whole.image(done), Whole.image(back));
        S.same(what + ": the TAPE", Whole.tape(Sentences.then(ahead, x -> tell(x, "Tape"))), Whole.tape(back));
        S.same(what + ": what is remembered", Whole.remembered(ahead), Whole.remembered(back));
        Shelf x = new Shelf();
        back.on(x);
        S.due(what + ": why", 4, x.why());
        S.due(what + ": fault", 2, x.fault());
    }

    private static int tell(Shelf x, String text) {
        x.tape(text);
        return text.length();
    }

    public static void main(String[] args) {
        put();
        cut();
        turn();
        build();
        tune();
        tear();
        undo();
        S.end();
    }
}
