import java.util.ArrayList;
import java.util.List;

/** What the document says at its edges of find, way, block, entry, letter, row, leaf, shape, crowds and best. */
public final class AskSentences {
    private static final Sentences S = Sentences.from(14, 23);
    private static final int SAME = Sentences.SAME;
    private static final int LOWEST = Integer.MIN_VALUE;
    private static final int HIGHEST = Integer.MAX_VALUE;
    private static final List<String> ZEROS = Names.twoLetters(0, 1);
    private static final List<String> ONES = Names.twoLetters(1, 1);

    private AskSentences() {
    }

    private static Shelf told(String text) {
        Shelf x = new Shelf();
        S.yes("'" + text + "' is right", x.acts(text) >= 0);
        return x;
    }

    private static Shelf after(Whole.Run run) {
        Shelf x = new Shelf();
        run.on(x);
        return x;
    }

    /** What find answers for a NAME, from the first what on. */
    private static void found(Shelf x, String name, int... answers) {
        for (int what = 0; what < answers.length; what++) {
            S.due("find " + name + " " + what, answers[what], x.find(name, what));
        }
    }

    private static void find() {
        S.of(14, "NoSuchElementException: another what (then no text is read)", () -> {
            int[] others = {-1, 9, LOWEST, HIGHEST};
            for (int what : others) {
                S.textLeavesRest("what " + what, Prepared::lived, x -> x.find("a", what), Shelf.NSE, SAME, SAME);
                S.textLeavesRest("what " + what + " and a wrong text", Prepared::lived, x -> x.find("a?", what), Shelf.NSE,
                    SAME, SAME);
            }
        });
        S.of(14, "IllegalArgumentException: the text is wrong", () -> {
            String[] texts = {"", " ", "a b", "a?", "7", "abcdefghi", "a;"};
            int[] faults = {0, 1, 2, 1, 0, 0, 1};
            for (int what = 0; what < 9; what++) {
                int asked = what;
                for (int k = 0; k < texts.length; k++) {
                    Shelf x = after(Prepared::lived);
                    S.due("find " + what + " of '" + texts[k] + "'", Shelf.IAE, x.find(texts[k], what));
                    S.due("fault", faults[k], x.fault());
                    S.due("why", 4, x.why());
                    S.due("the TAPE is used up", 20, x.feedTwenty(0));
                }
                S.textLeavesRest("find " + what, Prepared::lived, x -> x.find("a?", asked), Shelf.IAE, SAME, 1);
            }
        });
        S.of(14, "a NAME, what 0: its NODE (NONE, if it is not FOUND), 1 READ, 2 the BLOCK, 3 the SLOT where it lies (NONE),"
            + " 4 its HASH, 5 MEETS, 6 ROOM, 7 NEEDS (NONE), 8 MATE (NONE)", () -> {
            found(new Shelf(), "a", -1, 1, -1, -1, 1, 0, 6, 0);
            found(after(Prepared::six), "a", 1, 1, 0, 0, 1, 1, 0, -1);
            found(after(Prepared::six), "f", 6, 1, 0, 5, 4, 1, 0, -1);
            found(after(Prepared::six), "g", -1, 1, -1, -1, 7, 0, 0, 2);
            found(after(Prepared::seven), "b", 2, 2, 2, 0, 0, 1, 3, -1);
            found(after(Prepared::seven), "g", 7, 2, 1, 3, 7, 1, 2, -1);
            found(after(Prepared::seven), "h", -1, 2, -1, -1, 6, 0, 2, 0);
            found(after(Prepared::livedFull), Prepared.nameOf(149), 149, 3, 19, 5, 149 * Prepared.STEP, 1, 0, -1);
            found(after(Prepared::livedFull), Prepared.otherName(4095), -1, 3, -1, -1, 4095, 0, 0, -1);
            int[] ofA = {1, 2, 2, 1, 1, 1, 5, -1};
            for (int k = 0; k < ofA.length; k++) {
                int what = k;
                S.textLeavesRest("find " + what, Prepared::lived, x -> x.find("a", what), ofA[k], SAME, -1);
            }
            S.textLeavesRest("find 8", Prepared::lived, x -> x.find("a", 8), mate(1, 6, 0), SAME, -1);
        });
        findHash();
        findRead();
        findRoom();
        findMate();
    }

    /** The MATE of a HASH, if so many of its NAMES are FOUND. */
    private static int mate(int hash, int bits, int taken) {
        List<String> names = Names.twoLetters(hash, bits);
        return taken < names.size() ? Names.asMate(names.get(taken)) : -1;
    }

    private static void findHash() {
        S.of(14, "h becomes what is left of 31 times h and the code, together, by 65536, then that with each bit turned that"
            + " the same by 128, rounded down, has; HASH is what is left of h by 2 to the BITS", () -> {
            hashes(told("bits 12"), "a 129 b 128 db 0 brp 4095 zzzzzzzz 3093 AAAAAAAA 328 abcdefgh 1867");
            hashes(told("bits 6"), "a 1 b 0 zzzzzzzz 21 AAAAAAAA 8 abcdefgh 11 ab 33 B 33 Z 57 z 24");
            hashes(told("bits 1"), "a 1 b 0 zzzzzzzz 1 AAAAAAAA 0 abcdefgh 1");
            hashes(told("bits 12;key 0"), "a 97 z 122 A 65 ab 3129");
            hashes(told("bits 12;key 65535"), "a 66 z 91 A 34 ab 2160");
            hashes(told("bits 12;key 65534"), "a 35 z 60 A 3 ab 1174");
            hashes(told("bits 12;key 32768"), "a 353 z 378 A 321 ab 2679");
        });
        S.of(14, "(with FOLD of each the small one; by codes: A 65, a 97)", () -> {
            hashes(told("bits 12;fold"), "A 129 B 128 DB 0 Brp 4095 ZZzzZZzz 3093 ABCDEFGH 1867");
            hashes(told("bits 12;fold;plain"), "A 96 a 129");
        });
    }

    private static void hashes(Shelf x, String pairs) {
        String[] parts = pairs.split(" ");
        for (int k = 0; k < parts.length; k += 2) {
            S.due("HASH of " + parts[k], Integer.parseInt(parts[k + 1]), x.find(parts[k], 4));
        }
    }

    private static void reads(Shelf x, String name, int read) {
        S.due("READ of " + name, read, x.find(name, 1));
    }

    private static void findRead() {
        S.of(14, "READ: how many BLOCKS were looked at (INDEXES of the WAY down to its first LEAF, and LEAVES; if one is"
            + " TORN: the ROOT, and LEAVES), up to the one where it is, or all of them.", () -> {
            reads(new Shelf(), "a", 1);
            reads(after(Prepared::six), "f", 1);
            reads(after(Prepared::seven), "a", 2);
            reads(after(Prepared::seven), "z", 2);
            reads(after(y -> Prepared.rising(y, 19)), Prepared.nameOf(18), 3);
            reads(after(y -> Prepared.rising(y, 19)), Prepared.otherName(1), 3);
            Shelf x = after(y -> Prepared.oneHash(y, 0, Prepared.ONE_HASH_FULL));
            for (int k = 0; k < 17; k++) {
                reads(x, ZEROS.get(x.entry(x.leaf(k), 5, 0)), 3 + k);
            }
            reads(x, ZEROS.get(Prepared.ONE_HASH_FULL), 19);
            reads(x, "a", 3);
        });
        S.of(14, "If an INDEX is TORN (any one): all BLOCKS that are LEAVES are looked at, by numbers, in place of that.",
            () -> {
                Shelf x = after(Prepared::seven);
                x.tear(0);
                found(x, "c", 3, 2, 1, 0);
                found(x, "b", 2, 3, 2, 0);
                found(x, "z", -1, 3, -1, -1);
                Shelf y = after(z -> Prepared.rising(z, 19));
                y.tear(7);
                // Its LEAVES are 2 1 3 4 5 6 in order, each with three ENTRIES, the last with four.
                found(y, Prepared.nameOf(3), 3, 2, 1, 0);
                found(y, Prepared.nameOf(0), 0, 3, 2, 0);
                found(y, Prepared.nameOf(8), 8, 4, 3, 2);
                found(y, Prepared.nameOf(18), 18, 7, 6, 3);
                found(y, Prepared.otherName(1), -1, 7, -1, -1);
                S.due("the ROOT, too", 2, y.tear(0));
                found(y, Prepared.nameOf(18), 18, 7, 6, 3);
                S.due("build", 6, y.build());
                found(y, Prepared.nameOf(18), 18, 2, 5, 2);
            });
        S.of(14, "SLOTS of the LEAVES of its WAY are looked at, LEAF by LEAF, SLOT by SLOT, up to the ENTRY whose NAME is ONE"
            + " with it.", () -> {
            Shelf x = told("put abc 1;put ab 2;put abC 3");
            found(x, "abC", 3, 1, 0, 2);
            found(x, "ab", 2, 1, 0, 1);
            found(x, "a", -1, 1, -1, -1);
            found(x, "abcd", -1, 1, -1, -1);
            found(x, "ABC", -1, 1, -1, -1);
            Shelf y = told("fold;put abC 3");
            found(y, "ABc", 3, 1, 0, 0);
            found(y, "ABcd", -1, 1, -1, -1);
        });
    }

    private static void findRoom() {
        S.of(14, "MEETS of a NAME: how many ENTRIES have its HASH.", () -> {
            Shelf x = after(y -> Prepared.oneHash(y, 0, Prepared.ONE_HASH_FULL));
            S.due("one that is there", 102, x.find(ZEROS.get(0), 5));
            S.due("one that is not", 102, x.find("b", 5));
            S.due("the other HASH", 0, x.find("a", 5));
            x.put("a", 1);
            S.due("itself alone", 1, x.find("a", 5));
        });
        S.of(14, "ROOM of a NAME: how many empty SLOTS the LEAVES of its WAY have.", () -> {
            Shelf x = after(y -> Prepared.oneHash(y, 0, 13));
            // LEAVES of 3, 4 and 6 ENTRIES.
            S.due("of three LEAVES", 5, x.find("b", 6));
            S.due("of the last one", 0, x.find("a", 6));
            S.due("tear", 1, x.tear(0));
            S.due("of its WAY, though one is TORN", 5, x.find("b", 6));
            S.due("cut", 1, x.acts("cut " + ZEROS.get(x.entry(x.leaf(2), 0, 0))));
            S.due("of three LEAVES", 6, x.find("b", 6));
            S.due("of the last one", 1, x.find("a", 6));
            S.due("of a full one", 0, after(Prepared::full).find("q", 6));
        });
        S.of(14, "NEEDS of a NAME that is told: how many BLOCKS that are free PUT would take; none, if it would be refused.",
            () -> {
                needs("an empty one", y -> { }, "a", 0);
                needs("six", Prepared::six, "g", 2);
                needs("six, ONE is there", Prepared::six, "a", -1);
                needs("a LEAF with room", Prepared::seven, "h", 0);
                needs("a full LEAF", y -> Prepared.rising(y, 9), Prepared.nameOf(9), 1);
                needs("five LEAVES", y -> Prepared.rising(y, 18), Prepared.nameOf(18), 3);
                needs("five ROWS below", y -> Prepared.rising(y, 27), Prepared.nameOf(27), 2);
                needs("the last one", y -> Prepared.rising(y, 53), Prepared.nameOf(53), 0);
                needs("a third level", y -> Prepared.rising(y, 54), Prepared.nameOf(54), -1);
                needs("an INDEX is TORN", Prepared::torn, "h", -1);
                needs("a full one", Prepared::livedFull, "q", -1);
                needs("a second LEAF with room", y -> Prepared.oneHash(y, 0, 11), "b", 0);
                needs("no LEAF with room", y -> Prepared.oneHash(y, 0, 12), "b", 1);
            });
    }

    /** NEEDS, and that PUT does so. */
    private static void needs(String what, Whole.Run ahead, String name, int needs) {
        Shelf x = after(ahead);
        S.due(what + ": NEEDS of " + name, needs, x.find(name, 7));
        S.due(what + ": put " + name, needs < 0 ? Shelf.ISE : needs, x.put(name, 1));
    }

    private static void findMate() {
        S.of(14, "MATE of a NAME: the first of two-letter NAMES aa, ab, .. az, ba, .. zz with its HASH that is not FOUND (as"
            + " 26 times the first letter and the second one, a 0): none.", () -> {
            Shelf x = told("bits 12");
            S.due("aa", 0, x.find("aa", 8));
            S.due("zz", 675, x.find("zz", 8));
            S.due("az", 25, x.find("az", 8));
            S.due("ba", 26, x.find("ba", 8));
            S.due("no such one", -1, x.find("brp", 8));
            S.due("put", 0, x.put("aa", 1));
            S.due("the only one is FOUND", -1, x.find("aa", 8));
            S.due("put", 0, x.put("zz", 1));
            S.due("the only one is FOUND", -1, x.find("zz", 8));
            S.due("another one is not", 1, x.find("ab", 8));
        });
        S.of(14, "the first of two-letter NAMES aa, ab, .. az, ba, .. zz", () -> {
            Shelf x = told("bits 12");
            Shelf y = told("bits 12");
            for (char sign = '`'; sign <= '{'; sign++) {
                // What stands beside a and z is no letter, though it has a HASH, too.
                int behind = Names.hash("" + sign + '{', 1, 12, false);
                S.due("MATE of HASH " + behind, mate(behind, 12, 0), x.find(Prepared.otherName(behind), 8));
                int ahead = Names.hash("" + sign + '`', 1, 12, false);
                S.due("MATE of HASH " + ahead, mate(ahead, 12, 0), x.find(Prepared.otherName(ahead), 8));
                int above = Names.hash("{" + sign, 1, 12, false);
                S.due("MATE of HASH " + above, mate(above, 12, 0), y.find(Prepared.otherName(above), 8));
            }
        });
        S.of(14, "with its HASH that is not FOUND", () -> {
            Shelf x = told("bits 1");
            for (int k = 0; k < 10; k++) {
                S.due("MATE " + k, Names.asMate(ZEROS.get(k)), x.find("b", 8));
                x.put(ZEROS.get(k), k);
            }
            S.due("of the other HASH", Names.asMate(ONES.get(0)), x.find("a", 8));
            S.due("cut", 4, x.cut(ZEROS.get(4)));
            S.due("the first one", Names.asMate(ZEROS.get(4)), x.find("b", 8));
            x.tear(0);
            S.due("with one TORN", Names.asMate(ZEROS.get(4)), x.find("b", 8));
            Shelf y = told("bits 1;put " + ZEROS.get(0).toUpperCase() + " 1");
            S.due("a great one is another", Names.asMate(ZEROS.get(0)), y.find("b", 8));
            y.tune(2, 1);
            S.due("with FOLD it is not", Names.asMate(ZEROS.get(1)), y.find("b", 8));
            S.due("of a great one", Names.asMate(ZEROS.get(1)), y.find("B", 8));
            Shelf z = told("bits 12;key 0");
            S.due("by another KEY", 1, z.find("ab", 8));
        });
    }

    /** All BLOCKS of the WAY of a NAME, and none ahead and behind. */
    private static void ways(Shelf x, String name, int... blocks) {
        S.due("way " + name + " -1", -1, x.way(name, -1));
        for (int k = 0; k < blocks.length; k++) {
            S.due("way " + name + " " + k, blocks[k], x.way(name, k));
        }
        S.due("way " + name + " behind", -1, x.way(name, blocks.length));
    }

    private static void way() {
        S.of(15, "the k-th BLOCK (0 the ROOT) of its WAY, INDEXES down to its first LEAF, then LEAVES; NONE without", () -> {
            ways(new Shelf(), "a", 0);
            ways(after(Prepared::seven), "a", 0, 2);
            ways(after(Prepared::livedFull), Prepared.nameOf(149), 0, 20, 19);
            Shelf x = after(Prepared::seven);
            S.due("the lowest k", -1, x.way("a", LOWEST));
            S.due("the highest k", -1, x.way("a", HIGHEST));
            S.textLeavesRest("way 1", Prepared::lived, y -> y.way("c", 1), 1, SAME, -1);
            S.textLeavesRest("way 2", Prepared::lived, y -> y.way("c", 2), -1, SAME, -1);
        });
        S.of(15, "in an INDEX the last ROW with a LIMIT below the HASH, or like it without MARK", () -> {
            Shelf x = after(Prepared::seven);
            ways(x, "d", 0, 2);
            ways(x, "c", 0, 1);
            ways(x, "f", 0, 1);
            ways(x, "Z", 0, 1);
            Shelf y = after(z -> Prepared.rising(z, 19));
            ways(y, Prepared.otherName(0), 0, 8, 2);
            ways(y, Prepared.otherName(80), 0, 8, 2);
            ways(y, Prepared.otherName(81), 0, 8, 1);
            ways(y, Prepared.otherName(242), 0, 8, 3);
            ways(y, Prepared.otherName(243), 0, 7, 4);
            ways(y, Prepared.otherName(4095), 0, 7, 6);
        });
        S.of(15, "on from there to each next LEAF in order as long as LIMIT of the ROW to it is the HASH and has a MARK", () -> {
            // By BITS 1: four of HASH 0 fill the first LEAF that BUILT lays, six of HASH 1 the next two.
            Shelf x = told("bits 1;put b 1;put d 2;put f 3;put h 4;put a 5;put c 6;put e 7;put g 8;put i 9;put k 10;build");
            ways(x, "b", 0, 1);
            ways(x, "a", 0, 2, 3);
            S.due("one of HASH 0 less", 2, x.acts("cut h;build"));
            ways(x, "b", 0, 1);
            ways(x, "a", 0, 1, 2, 3);
            Shelf y = after(z -> Prepared.oneHash(z, 0, 49));
            ways(y, "b", 0, 8, 2, 11, 10, 9, 6, 5, 4, 3, 1);
            ways(y, "a", 0, 7, 1);
            y.tear(0);
            ways(y, "b", 0, 8, 2, 11, 10, 9, 6, 5, 4, 3, 1);
        });
        S.of(15, "as long as LIMIT of the ROW to it is the HASH and has a MARK", () -> {
            Shelf x = after(y -> Prepared.oneHash(y, 0, 13));
            ways(x, "b", 0, 2, 3, 1);
            x.acts("cut " + ZEROS.get(0) + ";cut " + ZEROS.get(1) + ";cut " + ZEROS.get(2) + ";cut " + ZEROS.get(3) + ";cut "
                + ZEROS.get(4) + ";build");
            ways(x, "b", 0, 1, 2);
            ways(x, "a", 0, 2);
            S.due("READ", 3, x.find("b", 1));
            S.due("ROOM", 4, x.find("b", 6));
            S.due("CHAIN", 2, x.shape(1));
            S.due("ENTRIES behind", 4, x.shape(6));
        });
        S.of(15, "(LEVELS 0: the ROOT alone.)", () -> {
            ways(new Shelf(), "zzzzzzzz", 0);
            ways(after(Prepared::six), "Z", 0);
        });
        S.of(15, "IllegalArgumentException: the text is wrong.", () -> {
            String[] texts = {"", "a b", "a?", "7", "abcdefghi"};
            int[] faults = {0, 2, 1, 0, 0};
            for (int k = 0; k < texts.length; k++) {
                String text = texts[k];
                S.textLeavesRest("'" + text + "'", Prepared::lived, x -> x.way(text, 0), Shelf.IAE, SAME, faults[k]);
                S.textLeavesRest("'" + text + "'", Prepared::lived, x -> x.way(text, -1), Shelf.IAE, SAME, faults[k]);
            }
        });
    }

    private static void leavesAll(String what, Whole.Question call, int answer) {
        S.changesNothing(what, Prepared::lived, call, answer);
    }

    private static void block() {
        S.of(16, "IndexOutOfBoundsException: there is no such BLOCK (0 to 39)", () -> {
            int[] none = {-1, 40, LOWEST, HIGHEST};
            for (int block : none) {
                leavesAll("BLOCK " + block, x -> x.block(block, 0), Shelf.IOOBE);
                leavesAll("BLOCK " + block + " and another what", x -> x.block(block, 3), Shelf.IOOBE);
            }
            leavesAll("BLOCK 0", x -> x.block(0, 0), 2);
            leavesAll("BLOCK 39", x -> x.block(39, 0), 0);
        });
        S.of(16, "NoSuchElementException: another what.", () -> {
            int[] others = {-1, 3, LOWEST, HIGHEST};
            for (int what : others) {
                leavesAll("what " + what, x -> x.block(0, what), Shelf.NSE);
                leavesAll("what " + what + " of a free one", x -> x.block(39, what), Shelf.NSE);
            }
        });
        S.of(16, "what 0 0 free, 1 a LEAF, 2 an INDEX, 1 ENTRIES or ROWS (0 of a free one), 2 1 if TORN", () -> {
            Shelf x = after(Prepared::torn);
            // b was cut, d became D: HASH 35, behind.
            int[][] blocks = {{2, 2, 1}, {1, 6, 0}, {1, 1, 0}, {0, 0, 0}};
            for (int block = 0; block < blocks.length; block++) {
                for (int what = 0; what < 3; what++) {
                    S.due("block " + block + " " + what, blocks[block][what], x.block(block, what));
                }
            }
            Shelf y = after(Prepared::full);
            for (int block = 0; block < 40; block++) {
                int kind = y.block(block, 0);
                S.due("ENTRIES or ROWS of " + block, kind == 0 ? 0 : kind == 1 ? 6 : 5, y.block(block, 1));
                S.due("a free one behind the last", block > 30 ? 0 : 1, kind == 0 ? 0 : 1);
            }
        });
    }

    private static void entry() {
        S.of(17, "IndexOutOfBoundsException: there is no such BLOCK (0 to 39), SLOT (0 to 5)", () -> {
            int[][] none = {{-1, 0}, {40, 0}, {0, -1}, {0, 6}, {1, -1}, {1, 6}, {39, 6}, {LOWEST, 0}, {HIGHEST, 0},
                {1, LOWEST}, {1, HIGHEST}};
            for (int[] one : none) {
                leavesAll("entry " + one[0] + " " + one[1], x -> x.entry(one[0], one[1], 0), Shelf.IOOBE);
                leavesAll("entry " + one[0] + " " + one[1] + " 3", x -> x.entry(one[0], one[1], 3), Shelf.IOOBE);
            }
        });
        S.of(17, "NoSuchElementException: another what.", () -> {
            int[] others = {-1, 3, LOWEST, HIGHEST};
            for (int what : others) {
                leavesAll("of an ENTRY", x -> x.entry(2, 1, what), Shelf.NSE);
                leavesAll("of an empty SLOT", x -> x.entry(2, 0, what), Shelf.NSE);
                leavesAll("of an INDEX", x -> x.entry(0, 0, what), Shelf.NSE);
                leavesAll("of a free one", x -> x.entry(39, 5, what), Shelf.NSE);
            }
        });
        S.of(17, "Of the ENTRY in a SLOT of a LEAF what 0 NODE, 1 HASH, 2 how many letters; NONE of an empty SLOT, and of a"
            + " BLOCK that is no LEAF.", () -> {
            Shelf x = told("put a 0;put abcdefgh 999;put Z 5;put q 6;put r 7;put s 8;cut q");
            int[][] slots = {{0, 1, 1}, {999, 11, 8}, {5, 57, 1}, {-1, -1, -1}, {7, 16, 1}, {8, 19, 1}};
            for (int slot = 0; slot < 6; slot++) {
                for (int what = 0; what < 3; what++) {
                    S.due("entry " + slot + " " + what, slots[slot][what], x.entry(0, slot, what));
                }
            }
            for (int what = 0; what < 3; what++) {
                int asked = what;
                for (int slot = 0; slot < 6; slot++) {
                    int at = slot;
                    leavesAll("of an INDEX", y -> y.entry(0, at, asked), -1);
                    leavesAll("of a free one", y -> y.entry(3, at, asked), -1);
                }
            }
            S.due("another KEY", 1, x.tune(1, 0));
            S.due("the least HASH is that of Z", 5, x.entry(1, 0, 0));
            S.due("its code by 64", 26, x.entry(1, 0, 1));
        });
    }

    private static void letter() {
        S.of(18, "IndexOutOfBoundsException: there is no such BLOCK (0 to 39), SLOT (0 to 5)", () -> {
            int[][] none = {{-1, 0}, {40, 0}, {0, -1}, {0, 6}, {1, -1}, {1, 6}, {39, 6}, {LOWEST, 0}, {HIGHEST, 0},
                {1, LOWEST}, {1, HIGHEST}};
            for (int[] one : none) {
                leavesAll("letter " + one[0] + " " + one[1], x -> x.letter(one[0], one[1], 0), Shelf.IOOBE);
                leavesAll("letter " + one[0] + " " + one[1] + " -1", x -> x.letter(one[0], one[1], -1), Shelf.IOOBE);
            }
        });
        S.of(18, "The code of the k-th letter of the NAME there; NONE without.", () -> {
            Shelf x = told("put AZazBYby 1;put q 2;put rs 3;cut q");
            String name = "AZazBYby";
            for (int k = 0; k < 8; k++) {
                S.due("letter " + k, name.charAt(k), x.letter(0, 0, k));
            }
            int[] without = {-1, 8, LOWEST, HIGHEST};
            for (int k : without) {
                S.due("letter " + k, -1, x.letter(0, 0, k));
            }
            S.due("an empty SLOT", -1, x.letter(0, 1, 0));
            S.due("the last letter", 's', x.letter(0, 2, 1));
            S.due("behind the last letter", -1, x.letter(0, 2, 2));
            S.due("a SLOT never used", -1, x.letter(0, 5, 0));
            for (int slot = 0; slot < 6; slot++) {
                int at = slot;
                leavesAll("of an INDEX", y -> y.letter(0, at, 0), -1);
                leavesAll("of a free one", y -> y.letter(39, at, 0), -1);
            }
        });
    }

    private static void row() {
        S.of(19, "Of a ROW of an INDEX (IndexOutOfBoundsException: also if it is none)", () -> {
            int[][] none = {{-1, 0}, {40, 0}, {0, -1}, {0, 2}, {1, 0}, {2, 0}, {3, 0}, {39, 0}, {LOWEST, 0}, {HIGHEST, 0},
                {0, LOWEST}, {0, HIGHEST}};
            for (int[] one : none) {
                leavesAll("row " + one[0] + " " + one[1], x -> x.row(one[0], one[1], 0), Shelf.IOOBE);
                leavesAll("row " + one[0] + " " + one[1] + " 3", x -> x.row(one[0], one[1], 3), Shelf.IOOBE);
            }
            S.due("the ROOT that is a LEAF", Shelf.IOOBE, new Shelf().row(0, 0, 0));
            Shelf x = after(Prepared::full);
            S.due("the fifth ROW", 4 * 30 * Prepared.STEP, x.row(0, 4, 0));
            S.due("no sixth", Shelf.IOOBE, x.row(0, 5, 0));
        });
        S.of(19, "NoSuchElementException: another what.", () -> {
            int[] others = {-1, 3, LOWEST, HIGHEST};
            for (int what : others) {
                leavesAll("what " + what, x -> x.row(0, 1, what), Shelf.NSE);
            }
        });
        S.of(19, "what 0 LIMIT, 1 1 if MARK, 2 the BLOCK", () -> {
            int[][] rows = {{0, 0, 2}, {3, 0, 1}};
            for (int row = 0; row < 2; row++) {
                for (int what = 0; what < 3; what++) {
                    int at = row;
                    int asked = what;
                    leavesAll("row " + row + " " + what, x -> x.row(0, at, asked), rows[row][what]);
                }
            }
            Shelf x = after(y -> Prepared.oneHash(y, 1, 7));
            S.due("LIMIT", 1, x.row(0, 1, 0));
            S.due("MARK", 1, x.row(0, 1, 1));
            S.due("LIMIT of the first", 0, x.row(0, 0, 0));
            S.due("MARK of the first", 0, x.row(0, 0, 1));
        });
        S.of(19, "else an INDEX (LEVELS 1: its ROWS lead to LEAVES; LEVELS 2: to INDEXES, and ROWS of these to LEAVES)",
            AskSentences::rootAsIndex);
        S.of(19, "LIMIT of the first ROW of all is 0 without MARK; of each other INDEX the first ROW has LIMIT and MARK of the"
            + " ROW that leads to it.", () -> {
            Shelf x = after(Prepared::full);
            for (int k = 0; k < 5; k++) {
                int index = x.row(0, k, 2);
                S.due("LIMIT above", 30 * k * Prepared.STEP, x.row(0, k, 0));
                S.due("MARK above", 0, x.row(0, k, 1));
                for (int row = 0; row < 5; row++) {
                    S.due("LIMIT", (30 * k + 6 * row) * Prepared.STEP, x.row(index, row, 0));
                    S.due("MARK", 0, x.row(index, row, 1));
                }
            }
            Shelf y = after(z -> Prepared.oneHash(z, 1, 31));
            S.due("LIMIT above", 1, y.row(0, 1, 0));
            S.due("MARK above", 1, y.row(0, 1, 1));
            S.due("LIMIT below", 1, y.row(7, 0, 0));
            S.due("MARK below", 1, y.row(7, 0, 1));
            S.due("LIMIT of the first below", 0, y.row(8, 0, 0));
            S.due("MARK of the first below", 0, y.row(8, 0, 1));
        });
    }

    private static void rootAsIndex() {
        Shelf x = after(Prepared::seven);
        S.due("LEVELS 1", 1, x.count(2));
        S.due("a LEAF", 1, x.block(x.row(0, 0, 2), 0));
        S.due("a LEAF", 1, x.block(x.row(0, 1, 2), 0));
        Shelf y = after(Prepared::full);
        S.due("LEVELS 2", 2, y.count(2));
        for (int row = 0; row < 5; row++) {
            int index = y.row(0, row, 2);
            S.due("an INDEX", 2, y.block(index, 0));
            for (int below = 0; below < 5; below++) {
                S.due("a LEAF", 1, y.block(y.row(index, below, 2), 0));
                S.due("in order", y.leaf(5 * row + below), y.row(index, below, 2));
            }
        }
    }

    private static void leaf() {
        S.of(20, "The BLOCK of the k-th LEAF in order (0 on); NONE without.", () -> {
            int[] without = {-1, 2, LOWEST, HIGHEST};
            for (int k : without) {
                leavesAll("leaf " + k, x -> x.leaf(k), -1);
            }
            leavesAll("leaf 0", x -> x.leaf(0), 2);
            leavesAll("leaf 1", x -> x.leaf(1), 1);
            Shelf empty = new Shelf();
            S.due("the ROOT", 0, empty.leaf(0));
            S.due("none but it", -1, empty.leaf(1));
            Shelf x = after(Prepared::full);
            for (int k = 0; k < 25; k++) {
                S.due("NODE in leaf " + k, 6 * k, x.entry(x.leaf(k), 0, 0));
            }
            S.due("behind the last", -1, x.leaf(25));
        });
        S.of(20, "LEAVES are in order as ROWS lead to them.", () -> {
            Shelf x = after(y -> Prepared.oneHash(y, 0, 49));
            int[] leaves = {2, 11, 10, 9, 6, 5, 4, 3, 1, -1};
            for (int k = 0; k < leaves.length; k++) {
                S.due("leaf " + k, leaves[k], x.leaf(k));
            }
            x.tear(0);
            S.due("though one is TORN", 11, x.leaf(1));
        });
    }

    private static void shapes(String what, Shelf x, int... answers) {
        for (int k = 0; k < answers.length; k++) {
            S.due(what + ": shape " + k, answers[k], x.shape(k));
        }
    }

    private static void shape() {
        S.of(21, "NoSuchElementException: another what.", () -> {
            int[] others = {-1, 9, LOWEST, HIGHEST};
            for (int what : others) {
                leavesAll("what " + what, x -> x.shape(what), Shelf.NSE);
            }
        });
        S.of(21, "CROWD (what 0), CHAIN (1), BUILDS (2), the fewest (3), the most ENTRIES (4) of a LEAF, the first LEAF in"
            + " order that has the most (5; its place), how many ENTRIES lie behind the first LEAF of their WAY (6), the"
            + " BLOCK of the INDEX that has the most ROWS, of several the least (7; NONE), the least HASH (0 to 2 to the"
            + " BITS, less 1) that no ENTRY has (8; NONE)", () -> {
            shapes("empty", new Shelf(), 0, 0, 1, 0, 0, 0, 0, -1, 0);
            shapes("one", told("put a 1"), 1, 1, 1, 1, 1, 0, 0, -1, 0);
            shapes("six", after(Prepared::six), 1, 1, 2, 6, 6, 0, 0, -1, 6);
            shapes("seven", after(Prepared::seven), 1, 1, 2, 3, 4, 1, 0, 0, 6);
            shapes("full", after(Prepared::full), 1, 1, 38, 6, 6, 0, 0, 0, 1);
            shapes("one HASH", after(y -> Prepared.oneHash(y, 0, Prepared.ONE_HASH_FULL)), 102, 17, 26, 6, 6, 0, 96, 0, 1);
            shapes("the other HASH", after(y -> Prepared.oneHash(y, 1, 13)), 13, 3, 4, 3, 6, 2, 10, 0, 0);
            int[] lived = {1, 1, 2, 1, 6, 1, 0, 0, 0};
            for (int k = 0; k < lived.length; k++) {
                int what = k;
                leavesAll("shape " + what, x -> x.shape(what), lived[k]);
            }
        });
        shapeCrowd();
        S.of(21, "the BLOCK of the INDEX that has the most ROWS, of several the least (7; NONE)", () -> {
            S.due("three below", 7, after(y -> Prepared.rising(y, 19)).shape(7));
            S.due("four in the first", 7, after(y -> Prepared.rising(y, 22)).shape(7));
            S.due("four in the second", 8, after(y -> Prepared.oneHash(y, 0, 37)).shape(7));
            S.due("as many above", 0, after(y -> Prepared.rising(y, 28)).shape(7));
            S.due("BUILT of 33", 10, built(33).shape(7));
            S.due("none BUILT", -1, built(4).shape(7));
            S.due("BUILT of five", 0, built(5).shape(7));
        });
        S.of(21, "the least HASH (0 to 2 to the BITS, less 1) that no ENTRY has (8; NONE)", () -> {
            Shelf x = told("bits 2");
            String[] names = {"b", "a", "d", "c"};
            for (int k = 0; k < 4; k++) {
                S.due("the least one", k, x.shape(8));
                x.put(names[k], k);
            }
            S.due("none", -1, x.shape(8));
            S.due("cut", 3, x.cut("c"));
            S.due("the last one", 3, x.shape(8));
            S.due("cut", 0, x.cut("b"));
            S.due("the first one", 0, x.shape(8));
            Shelf y = told("bits 1;put b 1;put a 2");
            S.due("none of two", -1, y.shape(8));
            y.tune(0, 2);
            S.due("of four", 2, y.shape(8));
            S.due("4096 of them", 0, told("bits 12;put a 1").shape(8));
        });
    }

    private static Shelf built(int many) {
        return after(y -> {
            Prepared.rising(y, many);
            y.build();
        });
    }

    private static void shapeCrowd() {
        S.of(21, "CROWD: the most ENTRIES of one HASH. CHAIN: the most LEAVES that the WAY of a HASH that some ENTRY has goes"
            + " over (0 without ENTRIES).", () -> {
            Shelf x = after(y -> Prepared.oneHash(y, 0, 13));
            x.put("a", 99);
            S.due("CROWD", 13, x.shape(0));
            S.due("CHAIN", 4, x.shape(1));
            S.due("ENTRIES behind", 10, x.shape(6));
            for (int k = 0; k < 13; k++) {
                x.acts("cut " + ZEROS.get(k));
            }
            S.due("CROWD of what is left", 1, x.shape(0));
            S.due("CHAIN of what is left", 1, x.shape(1));
            S.due("ENTRIES behind", 0, x.shape(6));
            x.cut("a");
            S.due("CROWD of nothing", 0, x.shape(0));
            S.due("CHAIN of nothing", 0, x.shape(1));
            S.yes("though there are LEAVES", x.count(3) > 2);
            S.due("the most", 0, x.shape(4));
            S.due("the first of all", 0, x.shape(5));
        });
        S.of(21, "BUILDS: how many LEAVES BUILT would have (1 at least).", () -> {
            int[] many = {0, 1, 4, 5, 8, 9, 54};
            int[] builds = {1, 1, 1, 2, 2, 3, 14};
            for (int k = 0; k < many.length; k++) {
                int entries = many[k];
                S.due("BUILDS of " + entries, builds[k], after(y -> Prepared.rising(y, entries)).shape(2));
            }
        });
        S.of(21, "the fewest (3), the most ENTRIES (4) of a LEAF, the first LEAF in order that has the most (5; its place)",
            () -> {
                Shelf x = after(Prepared::seven);
                x.acts("put " + Names.twoLetters(0, 6).get(0) + " 1");
                S.due("two LEAVES of four", 4, x.shape(3));
                S.due("two LEAVES of four", 4, x.shape(4));
                S.due("the first of them", 0, x.shape(5));
                x.acts("cut a;cut b");
                S.due("the fewest", 2, x.shape(3));
                S.due("the second", 1, x.shape(5));
                x.acts("cut d;cut " + Names.twoLetters(0, 6).get(0));
                S.due("none at all", 0, x.shape(3));
                S.due("the most", 4, x.shape(4));
            });
    }

    private static void crowds() {
        S.of(22, "CROWDS of a KEY. IllegalArgumentException: it is none.", () -> {
            int[] none = {-1, 65536, LOWEST, HIGHEST};
            for (int key : none) {
                leavesAll("KEY " + key, x -> x.crowds(key), Shelf.IAE);
                S.due("KEY " + key + " of nothing", Shelf.IAE, new Shelf().crowds(key));
            }
            leavesAll("KEY 0", x -> x.crowds(0), 1);
            leavesAll("KEY 65535", x -> x.crowds(65535), 1);
            leavesAll("KEY 1", x -> x.crowds(1), 1);
        });
        S.of(22, "CROWDS of a KEY: CROWD, were that the KEY.", () -> {
            int[] keys = {0, 1, 2, 77, 32768, 65534, 65535};
            Shelf empty = new Shelf();
            Shelf x = told("bits 3;put a 1;put A 2;put hello 3;put world 4;put zz 5;put Q 6;put abc 7;put bca 8");
            for (int key : keys) {
                S.due("of nothing", 0, empty.crowds(key));
                int crowds = x.crowds(key);
                S.due("KEY stays", 1, x.count(6));
                x.tune(1, key);
                S.due("CROWD by KEY " + key, crowds, x.shape(0));
                S.due("CROWDS of the KEY that is", crowds, x.crowds(key));
                x.tune(1, 1);
            }
            Shelf y = told("put aB 1;put Cd 2;fold");
            // By KEY 0 and FOLD these are as ab and cd.
            int meet = Names.hash("ab", 0, 6, true) == Names.hash("cd", 0, 6, true) ? 2 : 1;
            S.due("with FOLD", meet, y.crowds(0));
        });
    }

    private static void best() {
        S.of(23, "IllegalArgumentException: the KEY, or n is none.", () -> {
            int[][] none = {{-1, 1}, {65536, 1}, {0, 0}, {0, 21}, {65535, 0}, {65535, 21}, {0, -1}, {LOWEST, 1},
                {HIGHEST, 20}, {0, LOWEST}, {0, HIGHEST}};
            for (int[] one : none) {
                leavesAll("best " + one[0] + " " + one[1], x -> x.best(one[0], one[1]), Shelf.IAE);
            }
            leavesAll("best 0 1", x -> x.best(0, 1), 0);
            leavesAll("best 0 20", x -> x.best(0, 20), 0);
            leavesAll("best 65535 1", x -> x.best(65535, 1), 65535);
            leavesAll("best 65535 20", x -> x.best(65535, 20), 65535);
        });
        S.of(23, "of N KEYS from that one on (65535 at most) the one of the least CROWDS, the first of several", () -> {
            String told = "bits 4;put a 1;put e 2;put aa 3;put bb 4;put xyz 5;put hello 6;put world 7;put Q 8;put zz 9";
            Shelf x = told(told);
            Shelf y = told(told);
            int[] from = {0, 1, 500, 65515, 65516, 65517, 65534, 65535};
            for (int key : from) {
                int best = key;
                int least = HIGHEST;
                for (int n = 1; n <= 20; n++) {
                    int crowds = key + n - 1 <= 65535 ? x.crowds(key + n - 1) : HIGHEST;
                    best = crowds < least ? key + n - 1 : best;
                    least = Math.min(least, crowds);
                    S.due("best " + key + " " + n, best, y.best(key, n));
                }
            }
            S.due("KEY stays", 1, y.count(6));
            S.due("the first of several", 9, new Shelf().best(9, 20));
        });
        S.of(23, "(65535 at most)", () -> {
            List<String> names = new ArrayList<>();
            for (String name : ZEROS) {
                if (Names.hash(name, 65535, 4, false) == 0 && names.size() < 6) {
                    names.add(name);
                }
            }
            Shelf x = told("bits 4");
            S.due("all meet by KEY 65535", 6, x.actsOf(Prepared.puts(names)));
            S.due("CROWDS of 65535", 6, x.crowds(65535));
            S.yes("fewer meet by KEY 0", x.crowds(0) < 6);
            for (int n = 1; n <= 20; n++) {
                S.due("best 65535 " + n, 65535, x.best(65535, n));
                S.due("best 65534 " + n, 65534, x.best(65534, n));
            }
        });
    }

    public static void main(String[] args) {
        find();
        way();
        block();
        entry();
        letter();
        row();
        leaf();
        shape();
        crowds();
        best();
        S.end();
    }
}
