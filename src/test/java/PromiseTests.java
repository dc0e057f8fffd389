import java.util.ArrayList;
import java.util.List;
import java.util.NoSuchElementException;

/**
 * Each promise by itself: ordinary inputs, the edges that the document names, and wrong inputs.
 * With KEY 1 and BITS 6 the HASHES of b a d c f e h g j i l k are 0 1 2 3 4 5 6 7 8 9 10 11; with BITS 1 they are
 * 0 1 0 1 0 1 0 1 0 1 0 1; those of A, B, .. are 32, 33, ..
 */
public final class PromiseTests {
    private static final int IAE = -1001;
    private static final int ISE = -1002;
    private static final int IOOBE = -1003;
    private static final int NSE = -1004;

    private static int wrong = 0;
    private static int checks = 0;
    private static String promise = "";

    interface Call {
        int answer();
    }

    private static int of(Call call) {
        try {
            return call.answer();
        } catch (IllegalArgumentException e) {
            return e.getClass() == IllegalArgumentException.class ? IAE : -2000;
        } catch (IllegalStateException e) {
            return ISE;
        } catch (IndexOutOfBoundsException e) {
            return e.getClass() == IndexOutOfBoundsException.class ? IOOBE : -2000;
        } catch (NoSuchElementException e) {
            return NSE;
        }
    }

    private static void due(String what, int want, Call call) {
        int got = of(call);
        checks++;
        if (got != want) {
            wrong++;
            System.out.println(promise + ": " + what + " answered " + got + ", due is " + want);
        }
    }

    private static void yes(String what, boolean is) {
        due(what, 1, () -> is ? 1 : 0);
    }

    private static void tape(SteadyShelf x, String text) {
        for (int from = 0; from < text.length(); from += 20) {
            int[] five = new int[5];
            for (int k = 0; k < 20; k++) {
                int code = from + k < text.length() ? text.charAt(from + k) : 0;
                five[k / 4] = five[k / 4] << 8 | code;
            }
            x.feed(five[0], five[1], five[2], five[3], five[4]);
        }
        x.end(text.length());
    }

    private static int acts(SteadyShelf x, String text) {
        tape(x, text);
        return of(x::acts);
    }

    private static int put(SteadyShelf x, String text, int node) {
        tape(x, text);
        return of(() -> x.put(node));
    }

    private static int cut(SteadyShelf x, String text) {
        tape(x, text);
        return of(x::cut);
    }

    private static int turn(SteadyShelf x, String text) {
        tape(x, text);
        return of(x::turn);
    }

    private static int find(SteadyShelf x, String text, int what) {
        tape(x, text);
        return of(() -> x.find(what));
    }

    private static int way(SteadyShelf x, String text, int k) {
        tape(x, text);
        return of(() -> x.way(k));
    }

    /** What a text of ACTS is wrong at, with what it must answer looked at. */
    private static void faultOf(String text, int place) {
        SteadyShelf x = new SteadyShelf();
        due("acts '" + text + "'", IAE, () -> acts(x, text));
        due("fault of '" + text + "'", place, x::fault);
        due("entries behind '" + text + "'", 0, () -> x.count(0));
    }

    private static SteadyShelf told(String... texts) {
        SteadyShelf x = new SteadyShelf();
        for (String text : texts) {
            yes("'" + text + "' is right", acts(x, text) >= 0);
        }
        return x;
    }

    private static SteadyShelf sevenLetters() {
        SteadyShelf x = told("put a 1;put b 2;put c 3;put d 4;put e 5;put f 6");
        due("the seventh", 2, () -> put(x, "g", 7));
        return x;
    }

    /** Two-letter NAMES of one HASH (BITS 1, KEY 1), in order. */
    private static List<String> twoLettersOf(int hash) {
        List<String> names = new ArrayList<>();
        for (char a = 'a'; a <= 'z'; a++) {
            for (char b = 'a'; b <= 'z'; b++) {
                int h = (31 + a) ^ (31 + a) / 128;
                h = (31 * h + b) % 65536;
                h = h ^ h / 128;
                if (h % 2 == hash) {
                    names.add("" + a + b);
                }
            }
        }
        return names;
    }

    /** One HASH fills 17 LEAVES; then the first INDEX cannot be split any more. */
    private static SteadyShelf oneHash(int hash, int many) {
        SteadyShelf x = told("bits 1");
        List<String> names = twoLettersOf(hash);
        for (int k = 0; k < many; k++) {
            yes(names.get(k) + " is put", put(x, names.get(k), k) >= 0);
        }
        return x;
    }

    private static void newObject() {
        SteadyShelf x = new SteadyShelf();
        due("kind of the ROOT", 1, () -> x.block(0, 0));
        due("ENTRIES of the ROOT", 0, () -> x.block(0, 1));
        due("kind of BLOCK 39", 0, () -> x.block(39, 0));
        due("entries", 0, () -> x.count(0));
        due("BITS", 6, () -> x.count(5));
        due("KEY", 1, () -> x.count(6));
        due("FOLD", 0, () -> x.count(7));
        due("NONE", -1, () -> SteadyShelf.NONE);
        for (int r = 0; r < 4; r++) {
            int reader = r;
            due("OPEN", 0, () -> x.reader(reader, 0));
        }
        due("another object", 1, () -> acts(x, "put a 1"));
        due("has nothing of it", 0, () -> new SteadyShelf().count(0));
    }

    private static void feedIt() {
        SteadyShelf x = new SteadyShelf();
        int a = 'p' << 24 | 'u' << 16 | 't' << 8 | ' ';
        int b = 'a' << 24 | ' ' << 16 | '7' << 8 | ' ';
        int c = 0x20202020;
        due("feed", 20, () -> x.feed(a, b, c, c, c));
        due("acts", 1, x::acts);
        due("the NODE", 7, () -> x.entry(0, 0, 0));
        for (int k = 1; k <= 20; k++) {
            int many = 20 * k;
            due("feed", many, () -> x.feed(c, c, c, c, c));
        }
        due("feed beyond 400", -1, () -> x.feed(c, c, c, c, c));
        yes("none came", x.end(400));
        x.end(381);
        due("feed beyond 400 by one", -1, () -> x.feed(c, c, c, c, c));
        yes("none came", !x.end(382));
        x.end(380);
        due("feed up to 400", 400, () -> x.feed(-1, -1, -1, -1, -1));
        due("a byte 255 is no blank", IAE, x::acts);
        due("it stands at 380", 380, x::fault);
    }

    private static void endIt() {
        SteadyShelf x = new SteadyShelf();
        yes("end of nothing", x.end(0));
        yes("not of one", !x.end(1));
        yes("not below", !x.end(-1));
        tape(x, "abcdefgh");
        yes("not more", !x.end(9));
        yes("as many", x.end(8));
        yes("fewer", x.end(2));
        yes("gone", !x.end(3));
        due("put", 0, () -> x.put(4));
        due("two letters", 2, () -> x.entry(0, 0, 2));
        yes("used up", !x.end(1));
    }

    private static void actsIt() {
        SteadyShelf x = new SteadyShelf();
        due("nothing", 0, () -> acts(x, ""));
        due("blanks", 0, () -> acts(x, "    "));
        due("all of them", 9, () -> acts(x,
            " put a 1 ;put B2;turn a c;bits 12;key65535;fold;plain;build ; cut B "));
        due("what is there", 1, () -> find(x, "c", 0));
        due("BITS", 12, () -> x.count(5));
        due("KEY", 65535, () -> x.count(6));
        due("numbers of five digits", 2, () -> acts(x, "bits 00006;key 00001"));
        due("tear", 6, () -> acts(x, "put d 4;put e 5;put f 6;put g 7;build;tear 0"));
        due("torn", 1, () -> x.count(4));
        due("build", 1, () -> acts(x, "build"));
        due("fourteen", 14, () -> acts(x, "build;build;build;build;build;build;build;build;build;build;build;build;build;build"));
        String fifteen = "build;build;build;build;build;build;build;build;build;build;build;build;build;build; cut c";
        due("fifteen", IAE, () -> acts(x, fifteen));
        due("the first word of it", 85, x::fault);
        due("fourteen, and more must come", IAE, () -> acts(x, fifteen.substring(0, 84) + " "));
        due("the length", 85, x::fault);
        due("nothing stays", 1, () -> find(x, "c", 0));

        x.open(0, true);
        due("wrong behind a key", IAE, () -> acts(x, "key 5;cut c;cut c"));
        due("the refused one", 12, x::fault);
        due("why", 4, x::why);
        due("KEY stays", 1, () -> x.count(6));
        due("the ENTRY stays", 1, () -> find(x, "c", 0));
        due("READERS stay", 1, () -> x.reader(0, 0));
        due("a key told", 1, () -> acts(x, "key 5"));
        due("no READER is OPEN", 0, () -> x.reader(0, 0));
    }

    private static void faultIt() {
        due("ahead of any", -1, () -> new SteadyShelf().fault());
        faultOf("put", 3);
        faultOf("put ", 4);
        faultOf("put a", 5);
        faultOf("put a  ", 7);
        faultOf("put a 1;", 8);
        faultOf("put a 1; ", 9);
        faultOf("put a 1;;", 8);
        faultOf(";", 0);
        faultOf("  put a 1 put b 2", 10);
        faultOf("put a 1x", 7);
        faultOf("put 1 a", 4);
        faultOf("put abcdefghi 1", 4);
        faultOf("put a 1000", 6);
        faultOf("put a 000001", 6);
        faultOf("put a -1", 6);
        faultOf("Put a 1", 0);
        faultOf("puts a 1", 0);
        faultOf("abcdefghijkl", 0);
        faultOf("turn a", 6);
        faultOf("put a 1;turn a a b", 17);
        faultOf("bits 0", 5);
        faultOf("bits 13", 5);
        faultOf("bits", 4);
        faultOf("bits x", 5);
        faultOf("key 65536", 4);
        faultOf("key 100000", 4);
        faultOf("tear 40", 5);
        faultOf("tear 0", 0);
        faultOf("fold 1", 5);
        faultOf("build\t", 5);
        faultOf("put a\u00e91", 5);
        faultOf("put a 1; put a 2; pat", 9);
        faultOf("put a 1; cut b 5", 9);
        faultOf("put @ 1", 4);
        faultOf("put [ 1", 4);
        faultOf("put ` 1", 4);
        faultOf("put { 1", 4);
        faultOf("put a /", 6);
        faultOf("put a :", 6);
        SteadyShelf x = new SteadyShelf();
        due("wrong", IAE, () -> cut(x, " a b"));
        due("fault", 3, x::fault);
        due("another what reads no text", NSE, () -> find(x, "?", 9));
        due("a NODE that is none reads no text", IAE, () -> put(x, "?", 1000));
        due("fault stays", 3, x::fault);
        due("right", 0, () -> put(x, "a", 0));
        due("no fault", -1, x::fault);
        due("wrong", IAE, () -> find(x, "", 0));
        due("fault of nothing", 0, x::fault);
        due("a right one that is refused", ISE, () -> put(x, "a", 0));
        due("no fault", -1, x::fault);
        due("two NAMES", IAE, () -> turn(x, "a  "));
        due("more must come", 3, x::fault);
        due("two NAMES", IAE, () -> turn(x, "a b c"));
        due("one too many", 4, x::fault);
        due("two NAMES", IAE, () -> turn(x, "a abcdefghi"));
        due("one too long", 2, x::fault);
        due("nothing told", 0, () -> acts(x, ""));
        due("no fault", -1, x::fault);
    }

    private static void whyIt() {
        SteadyShelf x = new SteadyShelf();
        due("at first", 0, x::why);
        due("cut", ISE, () -> cut(x, "a"));
        due("4", 4, x::why);
        due("a text that has none", 0, () -> acts(x, " "));
        due("leaves it", 4, x::why);
        due("a text that is wrong otherwise", IAE, () -> acts(x, "put a 1; pat"));
        due("leaves it", 4, x::why);
        due("a wrong NAME", IAE, () -> put(x, "?", 1));
        due("leaves it", 4, x::why);
        due("a right text", 1, () -> acts(x, "put a 1"));
        due("0", 0, x::why);
        due("put", ISE, () -> put(x, "a", 1));
        due("1", 1, x::why);
        due("no such BLOCK", IOOBE, () -> x.tear(40));
        due("leaves it", 1, x::why);
        due("tear", ISE, () -> x.tear(0));
        due("5", 5, x::why);
        due("a refused text", IAE, () -> acts(x, "cut a;cut a"));
        due("4", 4, x::why);
        due("cut", 1, () -> cut(x, "a"));
        due("0", 0, x::why);
        due("refused", ISE, () -> cut(x, "a"));
        due("undo", 0, x::undo);
        due("leaves it", 4, x::why);
        x.image();
        yes("back", x.back());
        due("leaves it", 4, x::why);
    }

    private static void putIt() {
        SteadyShelf x = new SteadyShelf();
        due("NODE below", IAE, () -> put(x, "a", -1));
        due("NODE above", IAE, () -> put(x, "a", 1000));
        yes("the TAPE is used up", !x.end(1));
        due("NODE 0", 0, () -> put(x, "a", 0));
        due("NODE 999", 0, () -> put(x, "abcdefgh", 999));
        due("ONE is there", ISE, () -> put(x, "a", 5));
        due("great ones are others", 0, () -> put(x, "A", 5));
        due("two NAMES", IAE, () -> put(x, "q r", 5));

        SteadyShelf y = told("put a 1;put b 2;put c 3;put d 4;put e 5;put f 6");
        due("an empty SLOT is taken first", 3, () -> cut(y, "c"));
        due("put", 0, () -> put(y, "z", 9));
        due("there", 2, () -> find(y, "z", 3));
        due("cut", 9, () -> cut(y, "z"));
        due("put", 0, () -> put(y, "c", 3));
        due("split of the ROOT", 2, () -> put(y, "g", 7));
        due("LEVELS", 1, () -> y.count(2));
        due("behind", 1, () -> y.leaf(1));
        due("in front", 2, () -> y.leaf(0));
        due("LIMIT of the first", 0, () -> y.row(0, 0, 0));
        due("LIMIT of the second", 3, () -> y.row(0, 1, 0));
        due("without MARK", 0, () -> y.row(0, 1, 1));
        int[] front = {2, 1, 4, -1, -1, -1};
        int[] behind = {3, 6, 5, 7, -1, -1};
        for (int s = 0; s < 6; s++) {
            int slot = s;
            due("in front " + s, front[s], () -> y.entry(2, slot, 0));
            due("behind " + s, behind[s], () -> y.entry(1, slot, 0));
        }
        due("two more behind", 2, () -> acts(y, "put h 8;put i 9"));
        due("split of a LEAF", 1, () -> put(y, "j", 10));
        due("BLOCK 3", 3, () -> y.leaf(2));
        due("its LIMIT", 6, () -> y.row(0, 2, 0));
        due("its NODE", 8, () -> y.entry(3, 0, 0));

        markAndLevels();
        putRefused();
    }

    private static void markAndLevels() {
        SteadyShelf x = oneHash(0, 12);
        due("two LEAVES", 2, () -> x.count(3));
        due("MARK", 1, () -> x.row(0, 1, 1));
        due("LIMIT", 0, () -> x.row(0, 1, 0));
        List<String> names = twoLettersOf(0);
        for (int k = 12; k < 30; k++) {
            int node = k;
            due("put " + k, k % 6 == 0 ? 1 : 0, () -> put(x, names.get(node), node));
        }
        due("five LEAVES", 5, () -> x.block(0, 1));
        due("the ROOT is split", 3, () -> put(x, names.get(30), 30));
        due("LEVELS", 2, () -> x.count(2));
        due("the INDEX behind", 7, () -> x.row(0, 1, 2));
        due("the INDEX in front", 8, () -> x.row(0, 0, 2));
        due("MARK of the ROW above", 1, () -> x.row(0, 1, 1));
        due("MARK of the first of these", 1, () -> x.row(7, 0, 1));
        due("three ROWS", 3, () -> x.block(7, 1));
        due("three ROWS", 3, () -> x.block(8, 1));
        due("the LEAF behind the first", 6, () -> x.row(8, 1, 2));
        for (int k = 31; k < 48; k++) {
            int node = k;
            due("put " + k, k % 6 == 0 ? 1 : 0, () -> put(x, names.get(node), node));
        }
        due("an INDEX is split", 2, () -> put(x, names.get(48), 48));
        due("the new one is right behind", 12, () -> x.row(0, 1, 2));
        due("the old one", 7, () -> x.row(0, 2, 2));
    }

    private static void putRefused() {
        SteadyShelf x = oneHash(0, 102);
        due("17 LEAVES", 17, () -> x.count(3));
        due("23 BLOCKS", 23, () -> x.count(1));
        String more = twoLettersOf(0).get(102);
        due("a third level", ISE, () -> put(x, more, 1));
        due("3", 3, x::why);
        due("nothing happened", 102, () -> x.count(0));
        due("as a text", IAE, () -> acts(x, "put " + more + " 1"));
        due("3", 3, x::why);
        due("ONE is there goes ahead", ISE, () -> put(x, twoLettersOf(0).get(0), 1));
        due("1", 1, x::why);
        due("torn", 1, () -> x.tear(0));
        due("2 goes ahead of 3", ISE, () -> put(x, more, 1));
        due("2", 2, x::why);
        due("1 goes ahead of 2", ISE, () -> put(x, twoLettersOf(0).get(0), 1));
        due("1", 1, x::why);
        due("another HASH, torn", ISE, () -> put(x, twoLettersOf(1).get(0), 1));
        due("2", 2, x::why);
        due("undo", 7, x::undo);
        due("another HASH has a LEAF of its own", 1, () -> put(x, twoLettersOf(1).get(0), 1));
    }

    private static void cutIt() {
        SteadyShelf x = sevenLetters();
        due("cut", 4, () -> cut(x, "d"));
        due("its SLOT is empty", -1, () -> x.entry(2, 2, 0));
        due("no more", ISE, () -> cut(x, "d"));
        due("4", 4, x::why);
        due("a wrong text", IAE, () -> cut(x, ""));
        due("tear", 1, () -> x.tear(0));
        due("also with a TORN one", 5, () -> cut(x, " e "));
        due("5 are left", 5, () -> x.count(0));
        due("no BLOCK is free by that", 3, () -> x.count(1));
        due("fold", 0, () -> x.tune(2, 1));
        due("without regard to great ones", 7, () -> cut(x, "G"));
    }

    private static void turnIt() {
        SteadyShelf x = sevenLetters();
        due("not there", ISE, () -> turn(x, "z a"));
        due("4", 4, x::why);
        due("neither", ISE, () -> turn(x, "z y"));
        due("4", 4, x::why);
        due("the other is there", ISE, () -> turn(x, "a b"));
        due("1", 1, x::why);
        due("turn", 1, () -> turn(x, "a k"));
        due("its SLOT is empty", -1, () -> x.entry(2, 1, 0));
        due("it lies elsewhere", 1, () -> find(x, "k", 2));
        due("SLOT", 4, () -> find(x, "k", 3));
        due("into itself", 1, () -> turn(x, "k k"));
        due("cut and turned into itself", 3, () -> cut(x, "c"));
        due("into itself", 1, () -> turn(x, "k k"));
        due("the first empty SLOT", 0, () -> find(x, "k", 3));
        due("tear", 1, () -> x.tear(0));
        due("torn", ISE, () -> turn(x, "k m"));
        due("2", 2, x::why);
        due("4 goes ahead", ISE, () -> turn(x, "z m"));
        due("4", 4, x::why);
        due("1 goes ahead", ISE, () -> turn(x, "k b"));
        due("1", 1, x::why);
        due("nothing happened", 1, () -> find(x, "k", 0));
        due("one NAME", IAE, () -> turn(x, "k"));
        due("fold", 0, () -> x.tune(2, 1));
        due("into its great one", 1, () -> turn(x, "k K"));
        due("great", 'K', () -> x.letter(find(x, "k", 2), find(x, "k", 3), 0));

        SteadyShelf y = oneHash(0, 102);
        due("the SLOT that CUT leaves", 0, () -> turn(y, twoLettersOf(0).get(0) + " " + twoLettersOf(0).get(110)));
        due("102 are left", 102, () -> y.count(0));
        due("another HASH", 1, () -> turn(y, twoLettersOf(0).get(1) + " " + twoLettersOf(1).get(0)));

        SteadyShelf z = oneHash(1, 102);
        String behind = "";
        for (String name : twoLettersOf(1).subList(0, 102)) {
            if (find(z, name, 2) != z.leaf(0)) {
                behind = name;
            }
        }
        String last = behind;
        due("a third level", ISE, () -> turn(z, last + " " + twoLettersOf(0).get(0)));
        due("3", 3, z::why);
        yes("nothing happened", find(z, last, 0) >= 0);
        due("102 are left", 102, () -> z.count(0));
    }

    private static void buildIt() {
        SteadyShelf x = new SteadyShelf();
        due("without ENTRIES", 1, x::build);
        due("LEVELS", 0, () -> x.count(2));
        acts(x, "put a 1;put b 2;put c 3;put d 4");
        due("four", 1, x::build);
        int[] nodes = {2, 1, 4, 3, -1, -1};
        for (int s = 0; s < 6; s++) {
            int slot = s;
            due("SLOT " + s, nodes[s], () -> x.entry(0, slot, 0));
        }
        acts(x, "put e 5");
        due("five", 3, x::build);
        due("LEVELS", 1, () -> x.count(2));
        due("first LEAF", 1, () -> x.leaf(0));
        due("second LEAF", 2, () -> x.leaf(1));
        due("what is left", 1, () -> x.block(2, 1));
        due("LIMIT", 5, () -> x.row(0, 1, 0));
        due("the ROOT has no SLOTS", -1, () -> x.entry(0, 0, 0));
        acts(x, "put f 6;put g 7;put h 8;put i 9;put j 10;put k 11;put l 12;put m 13;put n 14;put o 15");
        acts(x, "put p 16;put q 17;put r 18;put s 19;put t 20");
        due("twenty", 6, x::build);
        due("LEVELS", 1, () -> x.count(2));
        acts(x, "put u 21");
        due("twentyone", 9, x::build);
        due("LEVELS", 2, () -> x.count(2));
        due("first INDEX", 7, () -> x.row(0, 0, 2));
        due("second INDEX", 8, () -> x.row(0, 1, 2));
        due("four ROWS", 4, () -> x.block(7, 1));
        due("what is left", 2, () -> x.block(8, 1));
        due("LIMIT above", x.row(8, 0, 0), () -> x.row(0, 1, 0));
        due("LIMIT of the fifth LEAF", 16, () -> x.row(0, 1, 0));
        due("all others are free", 0, () -> x.block(9, 0));
        due("tear", 1, () -> x.tear(7));
        due("tear", 2, () -> x.tear(0));
        due("build", 9, x::build);
        due("nothing is TORN", 0, () -> x.count(4));
        acts(x, "cut e;cut f;cut g;cut h;cut i;cut j;cut k;cut l;cut m;cut n;cut o;cut p;cut q;cut r");
        acts(x, "cut s;cut t;cut u");
        due("four are left", 1, x::build);
        due("LEVELS", 0, () -> x.count(2));
        due("the ROOT is a LEAF", 1, () -> x.block(0, 0));
        due("its ENTRIES", 4, () -> x.block(0, 1));
        due("no ROWS", IOOBE, () -> x.row(0, 0, 0));

        SteadyShelf y = oneHash(0, 80);
        due("eighty", 26, y::build);
        due("MARK above", 1, () -> y.row(0, 1, 1));
        due("LIMIT above", 0, () -> y.row(0, 1, 0));
        due("five INDEXES", 5, () -> y.block(0, 1));
        due("one more", 1, () -> put(y, twoLettersOf(1).get(0), 0) >= 0 ? 1 : 0);
        due("eightyone", ISE, y::build);
        due("3", 3, y::why);
        due("nothing happened", 81, () -> y.count(0));
    }

    private static void tuneIt() {
        SteadyShelf x = sevenLetters();
        due("no such what", NSE, () -> x.tune(3, 1));
        due("no such what", NSE, () -> x.tune(-1, 99));
        due("BITS 0", IAE, () -> x.tune(0, 0));
        due("BITS 13", IAE, () -> x.tune(0, 13));
        due("KEY -1", IAE, () -> x.tune(1, -1));
        due("KEY 65536", IAE, () -> x.tune(1, 65536));
        due("FOLD 2", IAE, () -> x.tune(2, 2));
        due("FOLD -1", IAE, () -> x.tune(2, -1));
        x.open(2, true);
        due("BITS 12", 6, () -> x.tune(0, 12));
        due("no READER is OPEN", 0, () -> x.reader(2, 0));
        due("BITS 1", 12, () -> x.tune(0, 1));
        due("MARK", 1, () -> x.row(0, 1, 1));
        due("built", 2, () -> x.entry(1, 0, 0));
        due("KEY 0", 1, () -> x.tune(1, 0));
        due("KEY 65535", 0, () -> x.tune(1, 65535));
        due("KEY", 65535, () -> x.count(6));
        due("FOLD", 0, () -> x.tune(2, 1));
        due("FOLD", 1, () -> x.tune(2, 1));
        due("ONE is there", ISE, () -> put(x, "A", 1));
        due("plain", 1, () -> x.tune(2, 0));
        due("A", 0, () -> put(x, "A", 1) >= 0 ? 0 : 1);
        x.open(1, true);
        due("fold", ISE, () -> x.tune(2, 1));
        due("1", 1, x::why);
        due("nothing happened", 0, () -> x.count(7));
        due("READERS are as they were", 1, () -> x.reader(1, 0));

        SteadyShelf z = told("put a 1;put A 2");
        due("fold of the first two", ISE, () -> z.tune(2, 1));
        due("1", 1, z::why);
        due("as a text", IAE, () -> acts(z, "fold"));
        due("cut", 2, () -> cut(z, "A"));
        due("fold", 0, () -> z.tune(2, 1));

        SteadyShelf y = oneHash(0, 81);
        due("81", ISE, () -> y.tune(0, 3));
        due("3", 3, y::why);
        due("BITS stay", 1, () -> y.count(5));
        due("81", ISE, () -> y.tune(1, 3));
        due("81", ISE, () -> y.tune(2, 0));
        String great = twoLettersOf(0).get(0).toUpperCase();
        yes("a great one", put(y, great, 1) >= 0);
        due("3 goes ahead of 1", ISE, () -> y.tune(2, 1));
        due("3", 3, y::why);
    }

    private static void tearIt() {
        SteadyShelf x = sevenLetters();
        due("below", IOOBE, () -> x.tear(-1));
        due("above", IOOBE, () -> x.tear(40));
        due("a LEAF", ISE, () -> x.tear(1));
        due("5", 5, x::why);
        due("a free one", ISE, () -> x.tear(39));
        due("the ROOT", 1, () -> x.tear(0));
        due("0", 0, x::why);
        due("once more", 1, () -> x.tear(0));
        due("TORN", 1, () -> x.block(0, 2));
        due("a LEAF is not", 0, () -> x.block(1, 2));
    }

    private static void undoIt() {
        SteadyShelf x = new SteadyShelf();
        due("none", ISE, x::undo);
        put(x, "a", 1);
        put(x, "b", 2);
        due("two", 2, () -> x.count(8));
        due("refused ones are not remembered", ISE, () -> put(x, "a", 1));
        due("two", 2, () -> x.count(8));
        due("undo", 1, x::undo);
        due("b is gone", -1, () -> find(x, "b", 0));
        due("undo", 0, x::undo);
        due("a is gone", 0, () -> x.count(0));
        due("none", ISE, x::undo);
        for (int k = 0; k < 9; k++) {
            put(x, "" + (char) ('a' + k), k);
        }
        due("eight are remembered", 8, () -> x.count(8));
        for (int k = 7; k >= 0; k--) {
            int left = k;
            due("undo", left, x::undo);
            due("entries", left + 1, () -> x.count(0));
        }
        due("none", ISE, x::undo);

        SteadyShelf y = sevenLetters();
        y.tear(0);
        y.open(0, true);
        y.tune(1, 77);
        y.open(1, true);
        y.build();
        cut(y, "a");
        turn(y, "b z");
        due("six", 6, () -> y.count(8));
        due("undo of turn", 5, y::undo);
        due("b", 2, () -> find(y, "b", 0));
        due("undo of cut", 4, y::undo);
        due("a", 1, () -> find(y, "a", 0));
        due("undo of build", 3, y::undo);
        due("undo of tune", 2, y::undo);
        due("KEY", 1, () -> y.count(6));
        due("TORN", 1, () -> y.count(4));
        due("READERS are what they are", 0, () -> y.reader(0, 0));
        due("READERS are what they are", 1, () -> y.reader(1, 0));
        due("undo of tear", 1, y::undo);
        due("TORN", 0, () -> y.count(4));
        due("a wrong text", IAE, () -> acts(y, "cut a;pat"));
        due("leaves them", 1, () -> y.count(8));
        due("a right text", 1, () -> acts(y, "cut a"));
        due("none are remembered", 0, () -> y.count(8));
        put(y, "a", 1);
        due("a text without ACTS", 0, () -> acts(y, ""));
        due("none are remembered", 0, () -> y.count(8));
        put(y, "q", 1);
        yes("no IMAGE", !y.back());
        due("one is remembered", 1, () -> y.count(8));
        y.image();
        due("the IMAGE leaves it", 1, () -> y.count(8));
        yes("back", y.back());
        due("none are remembered", 0, () -> y.count(8));
    }

    private static void findIt() {
        SteadyShelf x = sevenLetters();
        due("below", NSE, () -> find(x, "a", -1));
        yes("the TAPE is used up", !x.end(1));
        due("above", NSE, () -> find(x, "a", 9));
        due("wrong", IAE, () -> find(x, "a1", 0));
        int[] ofC = {3, 2, 1, 0, 3, 1, 2, -1};
        int[] ofI = {-1, 2, -1, -1, 9, 0, 2, 0};
        for (int k = 0; k < 8; k++) {
            int what = k;
            due("find c " + k, ofC[k], () -> find(x, "c", what));
            due("find i " + k, ofI[k], () -> find(x, "i", what));
        }
        due("HASH of two letters", 33, () -> find(x, "ab", 4));
        due("HASH with great ones", 32, () -> find(x, "A", 4));
        due("room in front", 3, () -> find(x, "b", 6));
        due("BITS 1", 6, () -> x.tune(0, 1));
        due("READ over two LEAVES", 3, () -> find(x, "g", 1));
        due("READ of one that is not there", 3, () -> find(x, "i", 1));
        due("READ of one in the first", 2, () -> find(x, "a", 1));
        due("READ over one", 2, () -> find(x, "j", 1));
        due("MEETS", 4, () -> find(x, "i", 5));
        due("ROOM", 5, () -> find(x, "i", 6));
        due("tear", 1, () -> x.tear(0));
        due("READ by numbers", 2, () -> find(x, "f", 1));
        due("READ by numbers", 3, () -> find(x, "g", 1));
        due("READ of all", 3, () -> find(x, "j", 1));
        due("NEEDS none", -1, () -> find(x, "j", 7));
        due("ROOM is of the WAY", 2, () -> find(x, "j", 6));
        due("build", 3, x::build);
        due("five of HASH 1", 5, () -> acts(x, "put i 9;put k 11;put m 13;put o 15;put q 17"));
        due("ROOM", 0, () -> find(x, "s", 6));
        due("NEEDS a LEAF", 1, () -> find(x, "s", 7));
        due("HASH with FOLD", 1, () -> x.tune(2, 1) + 1);
        due("is found", 1, () -> find(x, "A", 0));
        due("HASH is that of the small one", find(x, "a", 4), () -> find(x, "A", 4));
        mates();
        SteadyShelf y = oneHash(0, 102);
        due("a third level", -1, () -> find(y, twoLettersOf(0).get(102), 7));
        due("another HASH", 1, () -> find(y, twoLettersOf(1).get(0), 7));
        due("READ", 19, () -> find(y, twoLettersOf(0).get(102), 1));
        due("ONE is there", -1, () -> find(y, twoLettersOf(0).get(3), 7));
    }

    private static void mates() {
        SteadyShelf x = told("bits 1");
        List<String> even = twoLettersOf(0);
        for (int k = 0; k < 3; k++) {
            String name = even.get(k);
            int code = 26 * (name.charAt(0) - 'a') + name.charAt(1) - 'a';
            due("MATE", code, () -> find(x, "b", 8));
            due("MATE of itself", code, () -> find(x, name, 8));
            put(x, name, k);
        }
        due("fold", 0, () -> x.tune(2, 1));
        String third = even.get(2);
        due("turn", 2, () -> turn(x, third + " " + third.toUpperCase()));
        String fourth = even.get(3);
        due("MATE with FOLD", 26 * (fourth.charAt(0) - 'a') + fourth.charAt(1) - 'a', () -> find(x, "b", 8));
        SteadyShelf y = told("bits 12");
        int none = 0;
        for (char c = 'A'; c <= 'Z'; c++) {
            none += find(y, c + "zzzz", 8) == -1 ? 1 : 0;
        }
        yes("some have no MATE among 4096 HASHES", none > 0);
    }

    private static void wayIt() {
        SteadyShelf x = new SteadyShelf();
        due("the ROOT alone", 0, () -> way(x, "a", 0));
        due("none", -1, () -> way(x, "a", 1));
        due("none", -1, () -> way(x, "a", -1));
        due("wrong", IAE, () -> way(x, "a b", 0));
        due("fault", 2, x::fault);
        SteadyShelf y = sevenLetters();
        due("the ROOT", 0, () -> way(y, "c", 0));
        due("its LIMIT is in", 1, () -> way(y, "c", 1));
        due("one below is not", 2, () -> way(y, "d", 1));
        due("none", -1, () -> way(y, "c", 2));
        y.tune(0, 1);
        due("MARK: the LEAF ahead", 1, () -> way(y, "c", 1));
        due("and the next", 2, () -> way(y, "c", 2));
        due("no more", -1, () -> way(y, "c", 3));
        due("the lower HASH stays", -1, () -> way(y, "d", 2));
        y.tear(0);
        due("a TORN one leaves the WAY", 2, () -> way(y, "c", 2));
        SteadyShelf z = oneHash(0, 48);
        due("the ROOT", 0, () -> way(z, "b", 0));
        due("an INDEX", 8, () -> way(z, "b", 1));
        for (int k = 0; k < 8; k++) {
            int place = k;
            due("LEAF " + k, z.leaf(k), () -> way(z, "b", 2 + place));
        }
        due("no more", -1, () -> way(z, "b", 10));
        due("of the other HASH the last", z.leaf(7), () -> way(z, "a", 2));
        due("by the last INDEX", 7, () -> way(z, "a", 1));
    }

    private static void blockIt() {
        SteadyShelf x = sevenLetters();
        int[][] dueOf = {{2, 2, 0}, {1, 4, 0}, {1, 3, 0}, {0, 0, 0}};
        for (int b = 0; b < 4; b++) {
            for (int w = 0; w < 3; w++) {
                int block = b;
                int what = w;
                due("block " + b + " " + w, dueOf[b][w], () -> x.block(block, what));
            }
        }
        x.tear(0);
        due("TORN", 1, () -> x.block(0, 2));
        due("below", IOOBE, () -> x.block(-1, 0));
        due("above", IOOBE, () -> x.block(40, 9));
        due("another what", NSE, () -> x.block(39, 3));
        due("another what", NSE, () -> x.block(0, -1));
    }

    private static void entryIt() {
        SteadyShelf x = told("put abc 17");
        due("NODE", 17, () -> x.entry(0, 0, 0));
        due("HASH", find(x, "abc", 4), () -> x.entry(0, 0, 1));
        due("letters", 3, () -> x.entry(0, 0, 2));
        due("empty", -1, () -> x.entry(0, 5, 2));
        due("free", -1, () -> x.entry(39, 5, 0));
        due("BLOCK below", IOOBE, () -> x.entry(-1, 0, 0));
        due("BLOCK above", IOOBE, () -> x.entry(40, 0, 3));
        due("SLOT below", IOOBE, () -> x.entry(0, -1, 0));
        due("SLOT above", IOOBE, () -> x.entry(39, 6, 3));
        due("another what", NSE, () -> x.entry(39, 5, 3));
        due("another what", NSE, () -> x.entry(0, 0, -1));
        SteadyShelf y = sevenLetters();
        due("an INDEX", -1, () -> y.entry(0, 0, 0));
    }

    private static void letterIt() {
        SteadyShelf x = told("put aZbYcXdW 17;put q 1");
        String name = "aZbYcXdW";
        for (int k = 0; k < 8; k++) {
            int place = k;
            due("letter " + k, name.charAt(k), () -> x.letter(0, 0, place));
        }
        due("below", -1, () -> x.letter(0, 0, -1));
        due("behind", -1, () -> x.letter(0, 0, 8));
        due("behind a short one", -1, () -> x.letter(0, 1, 1));
        due("empty", -1, () -> x.letter(0, 2, 0));
        due("free", -1, () -> x.letter(7, 2, 0));
        due("BLOCK below", IOOBE, () -> x.letter(-1, 0, 0));
        due("BLOCK above", IOOBE, () -> x.letter(40, 0, 0));
        due("SLOT below", IOOBE, () -> x.letter(0, -1, 0));
        due("SLOT above", IOOBE, () -> x.letter(0, 6, 0));
        x.tune(2, 1);
        due("FOLD leaves the letters", 'Z', () -> x.letter(find(x, name, 2), find(x, name, 3), 1));
    }

    private static void rowIt() {
        SteadyShelf x = sevenLetters();
        int[][] dueOf = {{0, 0, 2}, {3, 0, 1}};
        for (int r = 0; r < 2; r++) {
            for (int w = 0; w < 3; w++) {
                int row = r;
                int what = w;
                due("row " + r + " " + w, dueOf[r][w], () -> x.row(0, row, what));
            }
        }
        due("no such ROW", IOOBE, () -> x.row(0, 2, 0));
        due("no such ROW", IOOBE, () -> x.row(0, -1, 0));
        due("a LEAF", IOOBE, () -> x.row(1, 0, 0));
        due("free", IOOBE, () -> x.row(9, 0, 9));
        due("BLOCK below", IOOBE, () -> x.row(-1, 0, 0));
        due("BLOCK above", IOOBE, () -> x.row(40, 0, 0));
        due("another what", NSE, () -> x.row(0, 0, 3));
        due("another what", NSE, () -> x.row(0, 1, -1));
        x.tune(0, 1);
        due("MARK", 1, () -> x.row(0, 1, 1));
    }

    private static void leafIt() {
        SteadyShelf x = new SteadyShelf();
        due("the ROOT", 0, () -> x.leaf(0));
        due("none", -1, () -> x.leaf(1));
        due("none", -1, () -> x.leaf(-1));
        SteadyShelf y = oneHash(0, 48);
        due("eight LEAVES", 8, () -> y.count(3));
        put(y, twoLettersOf(0).get(48), 1);
        // Each split laid its LEAF behind the first one; 2 was in front of the first split, 7 and 8 are INDEXES.
        int[] order = {2, 11, 10, 9, 6, 5, 4, 3, 1};
        for (int k = 0; k < 9; k++) {
            int place = k;
            due("leaf " + k, order[k], () -> y.leaf(place));
        }
        due("none", -1, () -> y.leaf(9));
        y.build();
        due("by numbers", 13, () -> y.leaf(12));
        due("none", -1, () -> y.leaf(13));
    }

    private static void shapeIt() {
        SteadyShelf x = new SteadyShelf();
        int[] empty = {0, 0, 1, 0, 0, 0, 0, -1, 0};
        SteadyShelf y = sevenLetters();
        int[] seven = {1, 1, 2, 3, 4, 1, 0, 0, 6};
        SteadyShelf z = sevenLetters();
        z.tune(0, 1);
        int[] met = {4, 2, 2, 3, 4, 0, 3, 0, -1};
        SteadyShelf w = oneHash(0, 102);
        int[] full = {102, 17, 26, 6, 6, 0, 96, 0, 1};
        for (int k = 0; k < 9; k++) {
            int what = k;
            due("empty " + k, empty[k], () -> x.shape(what));
            due("seven " + k, seven[k], () -> y.shape(what));
            due("met " + k, met[k], () -> z.shape(what));
            due("full " + k, full[k], () -> w.shape(what));
        }
        due("another what", NSE, () -> x.shape(-1));
        due("another what", NSE, () -> x.shape(9));
        SteadyShelf v = oneHash(0, 42);
        due("the widest INDEX", 8, () -> v.shape(7));
        due("the ROOT has two", 2, () -> v.block(0, 1));
        SteadyShelf u = told("put a 1;put b 2;put c 3;put d 4;put e 5");
        u.build();
        cut(u, "e");
        due("the least HASH that is not there", 4, () -> u.shape(8));
        put(u, "f", 6);
        due("the next one", 5, () -> u.shape(8));
        cut(u, "b");
        due("the least one", 0, () -> u.shape(8));
        acts(u, "put b 2;cut f");
        due("an empty LEAF", 0, () -> u.shape(3));
        due("the most", 4, () -> u.shape(4));
        due("its place", 0, () -> u.shape(5));
    }

    private static void crowdsIt() {
        SteadyShelf x = sevenLetters();
        x.tune(0, 1);
        due("KEY 1", 4, () -> x.crowds(1));
        // With KEY 0 letters stand for themselves: 97, 98, .. 103.
        due("KEY 0", 4, () -> x.crowds(0));
        due("nothing happens", 1, () -> x.count(6));
        due("below", IAE, () -> x.crowds(-1));
        due("above", IAE, () -> x.crowds(65536));
        due("the highest", 4, () -> x.crowds(65535));
        due("nothing", 0, () -> new SteadyShelf().crowds(5));
        SteadyShelf y = told("put a 1;put A 2;put b 3");
        due("plain", 1, () -> y.crowds(0));
        // 97, 65 and 98 by 32: with BITS 5 a and A meet.
        y.tune(0, 5);
        due("met", 2, () -> y.crowds(0));
    }

    private static void bestIt() {
        SteadyShelf x = told("bits 2;put a 1;put e 2;put aa 3;put bb 4;put xyz 5;put hello 6;put world 7");
        for (int key = 0; key < 60; key += 7) {
            for (int n = 1; n <= 20; n++) {
                int from = key;
                int many = n;
                int best = key;
                for (int k = key; k < key + n; k++) {
                    best = x.crowds(k) < x.crowds(best) ? k : best;
                }
                due("best " + key + " " + n, best, () -> x.best(from, many));
            }
        }
        int last = 65535;
        for (int k = 65535; k >= 65530; k--) {
            last = x.crowds(k) <= x.crowds(last) ? k : last;
        }
        due("65535 at most", last, () -> x.best(65530, 20));
        due("the highest alone", 65535, () -> x.best(65535, 20));
        due("the first of several", 9, () -> new SteadyShelf().best(9, 20));
        due("KEY below", IAE, () -> x.best(-1, 1));
        due("KEY above", IAE, () -> x.best(65536, 1));
        due("n below", IAE, () -> x.best(0, 0));
        due("n above", IAE, () -> x.best(0, 21));
    }

    private static void openIt() {
        SteadyShelf x = told("put a 1;put c 2");
        due("below", IOOBE, () -> x.open(-1, true) ? 1 : 0);
        due("above", IOOBE, () -> x.open(4, false) ? 1 : 0);
        yes("was not", !x.open(3, true));
        due("is", 1, () -> x.reader(3, 0));
        due("next", 1, () -> x.next(3));
        yes("was", x.open(3, true));
        due("COOKIE", 0, () -> x.reader(3, 1));
        due("LISTED", 0, () -> x.reader(3, 2));
        due("BATCH", 0, () -> x.reader(3, 3));
        due("next", 1, () -> x.next(3));
        yes("was", x.open(3, false));
        yes("was not", !x.open(3, false));
        due("is not", 0, () -> x.reader(3, 0));
        due("the rest stays", 2, () -> x.reader(3, 1));
        due("the BATCH stays", 1, () -> x.batch(3, 0));
        due("others are not", 0, () -> x.reader(2, 0));
    }

    private static void nextIt() {
        SteadyShelf x = told("bits 1;put e 5;put b 2;put A 3;put c 6;put a 1;put d 4");
        due("below", IOOBE, () -> x.next(-1));
        due("above", IOOBE, () -> x.next(4));
        due("not OPEN", ISE, () -> x.next(0));
        x.open(0, true);
        x.open(1, true);
        due("HASH 0", 3, () -> x.next(0));
        int[] even = {3, 2, 4, -1};
        for (int k = 0; k < 4; k++) {
            int place = k;
            due("NODE " + k, even[k], () -> x.batch(0, place));
        }
        due("COOKIE", 1, () -> x.reader(0, 1));
        due("another READER", 0, () -> x.reader(1, 1));
        acts(x, "put f 9;cut c");
        due("HASH 1, without what was cut", 2, () -> x.next(0));
        due("by NAME", 1, () -> x.batch(0, 0));
        due("by NAME", 5, () -> x.batch(0, 1));
        due("LISTED", 5, () -> x.reader(0, 2));
        due("no more", 0, () -> x.next(0));
        due("LISTED stays", 5, () -> x.reader(0, 2));
        due("COOKIE stays", 2, () -> x.reader(0, 1));
        due("the BATCH is empty", 0, () -> x.reader(0, 3));
        due("the other one has what came", 4, () -> x.next(1));
        due("build leaves READERS", 1, () -> x.build() > 0 ? x.reader(1, 0) : 0);
        SteadyShelf y = oneHash(0, 70);
        y.open(2, true);
        due("more than 60", 70, () -> y.next(2));
        due("60 NODES", 60, () -> y.reader(2, 3));
        due("LISTED", 70, () -> y.reader(2, 2));
        due("the first ones", 59, () -> y.batch(2, 59));
        due("no more", -1, () -> y.batch(2, 60));
        SteadyShelf z = told("put c 3;put a 1");
        z.open(0, true);
        due("the least HASH, not the first one", 1, () -> z.next(0));
        due("COOKIE", 2, () -> z.reader(0, 1));
        due("what is left out", 3, () -> z.next(0) == 1 ? z.batch(0, 0) : 0);
        due("COOKIE", 4, () -> z.reader(0, 1));
    }

    private static void readerIt() {
        SteadyShelf x = told("put a 1;put c 2");
        due("below", IOOBE, () -> x.reader(-1, 0));
        due("above", IOOBE, () -> x.reader(4, 9));
        due("another what", NSE, () -> x.reader(3, 4));
        due("another what", NSE, () -> x.reader(3, -1));
        int[] next = {1, 2, 1, 1};
        x.open(3, true);
        x.next(3);
        for (int k = 0; k < 4; k++) {
            int what = k;
            due("reader " + k, next[k], () -> x.reader(3, what));
            due("another one", 0, () -> x.reader(0, what));
        }
    }

    private static void batchIt() {
        SteadyShelf x = told("put a 7");
        due("below", IOOBE, () -> x.batch(-1, 0));
        due("above", IOOBE, () -> x.batch(4, 0));
        due("empty", -1, () -> x.batch(0, 0));
        x.open(0, true);
        x.next(0);
        due("NODE", 7, () -> x.batch(0, 0));
        due("below", -1, () -> x.batch(0, -1));
        due("behind", -1, () -> x.batch(0, 1));
        cut(x, "a");
        due("holds steady", 7, () -> x.batch(0, 0));
    }

    private static void imageAndBack() {
        SteadyShelf x = sevenLetters();
        yes("none was kept", !x.back());
        x.open(0, true);
        x.next(0);
        x.image();
        due("READERS are as they were", 1, () -> x.reader(0, 0));
        due("tune", 6, () -> x.tune(0, 2));
        due("acts", 3, () -> acts(x, "fold;key 9;cut a"));
        x.open(1, true);
        due("cut", IAE, () -> acts(x, " cut a a"));
        due("the TAPE", 20, () -> x.feed(0, 0, 0, 0, 0));
        yes("back", x.back());
        yes("the TAPE stays", x.end(20));
        due("fault stays", 1, x::fault);
        due("BITS", 6, () -> x.count(5));
        due("KEY", 1, () -> x.count(6));
        due("FOLD", 0, () -> x.count(7));
        x.end(0);
        due("a", 1, () -> find(x, "a", 0));
        due("as it lay", 2, () -> x.leaf(0));
        due("no READER is OPEN", 0, () -> x.reader(1, 0));
        due("COOKIE stays", 1, () -> x.reader(0, 1));
        due("BATCH stays", 2, () -> x.batch(0, 0));
        due("nothing is remembered", ISE, x::undo);
        cut(x, "a");
        yes("back once more", x.back());
        due("a", 1, () -> find(x, "a", 0));
        cut(x, "b");
        x.image();
        put(x, "b", 99);
        yes("the latest IMAGE", x.back());
        due("b", -1, () -> find(x, "b", 0));
        put(x, "y", 5);
        x.image();
        due("undo", 0, x::undo);
        yes("undo leaves the IMAGE", x.back());
        due("y", 5, () -> find(x, "y", 0));
    }

    private static void countIt() {
        SteadyShelf x = sevenLetters();
        int[] counts = {7, 3, 1, 2, 0, 6, 1, 0, 1, -1};
        for (int k = 0; k < 10; k++) {
            int what = k;
            due("count " + k, counts[k], () -> x.count(what));
        }
        due("below", -1, () -> x.count(-1));
        acts(x, "bits 3;key 5;fold;tear 0");
        due("TORN", 1, () -> x.count(4));
        due("BITS", 3, () -> x.count(5));
        due("KEY", 5, () -> x.count(6));
        due("FOLD", 1, () -> x.count(7));
        due("remembered", 0, () -> x.count(8));
        due("any other", -1, () -> x.count(Integer.MAX_VALUE));
    }

    private static void run(String name, Runnable test) {
        promise = name;
        test.run();
    }

    public static void main(String[] args) {
        run("1 a new object", PromiseTests::newObject);
        run("2 feed", PromiseTests::feedIt);
        run("3 end", PromiseTests::endIt);
        run("4 acts", PromiseTests::actsIt);
        run("5 fault", PromiseTests::faultIt);
        run("6 why", PromiseTests::whyIt);
        run("7 put", PromiseTests::putIt);
        run("8 cut", PromiseTests::cutIt);
        run("9 turn", PromiseTests::turnIt);
        run("10 build", PromiseTests::buildIt);
        run("11 tune", PromiseTests::tuneIt);
        run("12 tear", PromiseTests::tearIt);
        run("13 undo", PromiseTests::undoIt);
        run("14 find", PromiseTests::findIt);
        run("15 way", PromiseTests::wayIt);
        run("16 block", PromiseTests::blockIt);
        run("17 entry", PromiseTests::entryIt);
        run("18 letter", PromiseTests::letterIt);
        run("19 row", PromiseTests::rowIt);
        run("20 leaf", PromiseTests::leafIt);
        run("21 shape", PromiseTests::shapeIt);
        run("22 crowds", PromiseTests::crowdsIt);
        run("23 best", PromiseTests::bestIt);
        run("24 open", PromiseTests::openIt);
        run("25 next", PromiseTests::nextIt);
        run("26 reader", PromiseTests::readerIt);
        run("27 batch", PromiseTests::batchIt);
        run("28 image, 29 back", PromiseTests::imageAndBack);
        run("30 count", PromiseTests::countIt);
        System.out.println(checks + " answers, " + wrong + " not as due");
        if (wrong != 0) {
            System.exit(1);
        }
    }
}
