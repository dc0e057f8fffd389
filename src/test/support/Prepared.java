import java.util.ArrayList;
import java.util.List;

/**
 * Directories to begin with. By KEY 1 and BITS 6 the HASHES of b a d c f e .. z y are 0 1 2 3 4 5 .. 24 25, those of
 * A B .. Z are 32 33 .. 57; by BITS 1 they are 0 and 1 in turn.
 */
final class Prepared {
    /** How many ENTRIES of one HASH fill two levels: the first INDEX has five ROWS then, the others three. */
    static final int ONE_HASH_FULL = 102;
    static final int FULL = 150;
    /** HASHES of the full directory lie so far apart. */
    static final int STEP = 27;
    private static final List<String> FULL_NAMES = fullNames();

    private Prepared() {
    }

    /** The ROOT is a LEAF with no empty SLOT: a to f have NODES 1 to 6. */
    static void six(Shelf x) {
        x.acts("put a 1;put b 2;put c 3;put d 4;put e 5;put f 6");
    }

    /** LEVELS 1: b a d in BLOCK 2, then c f e g in BLOCK 1. */
    static void seven(Shelf x) {
        six(x);
        x.put("g", 7);
    }

    /** One where a call has something to spoil: READERS, an IMAGE, remembered ACTS, WHY 4 and fault 0. */
    static void lived(Shelf x) {
        six(x);
        x.open(1, true);
        x.next(1);
        x.next(1);
        x.put("g", 7);
        x.image();
        x.put("A", 8);
        x.cut("b");
        x.turn("d D");
        x.open(2, true);
        x.next(2);
        x.open(2, false);
        x.cut("q");
        x.find("1", 0);
    }

    /** As lived, with an INDEX that is TORN. */
    static void torn(Shelf x) {
        lived(x);
        x.tear(0);
        x.cut("q");
    }

    static List<String> puts(List<String> names) {
        List<String> acts = new ArrayList<>();
        for (int k = 0; k < names.size(); k++) {
            acts.add("put " + names.get(k) + " " + k);
        }
        return acts;
    }

    /** So many ENTRIES of one HASH by BITS 1, NODES from 0 on in the order of NAMES. */
    static void oneHash(Shelf x, int hash, int many) {
        x.acts("bits 1");
        x.actsOf(puts(Names.twoLetters(hash, 1).subList(0, many)));
    }

    /** LEVELS 2 with MARKS; BUILT anew, its ENTRIES need an INDEX in a BLOCK that is one here, too. */
    static void marked(Shelf x) {
        oneHash(x, 0, 31);
        List<String> names = Names.twoLetters(0, 1);
        x.acts("cut " + names.get(0) + ";cut " + names.get(1) + ";cut " + names.get(2));
    }

    /** So many ENTRIES of HASHES 0, 27, 54, .. by BITS 12, put in this order. */
    static void rising(Shelf x, int many) {
        x.acts("bits 12");
        x.actsOf(puts(FULL_NAMES.subList(0, many)));
    }

    /** The NAME of the k-th HASH of the full directory; its NODE is k. */
    static String nameOf(int k) {
        return FULL_NAMES.get(k);
    }

    /** A NAME that is not in the full directory, by its HASH. */
    static String otherName(int hash) {
        List<String> names = Names.threeLetters(hash, 12);
        return names.get(names.size() - 1);
    }

    /** No SLOT is empty, and no INDEX has room: 25 LEAVES of 6, 5 INDEXES of 5 ROWS, and the ROOT of 5. */
    static void full(Shelf x) {
        x.acts("bits 12");
        List<String> acts = new ArrayList<>();
        for (int k : fullOrder()) {
            acts.add("put " + FULL_NAMES.get(k) + " " + k);
        }
        x.actsOf(acts);
    }

    /** The full directory with READERS, an IMAGE, remembered ACTS, WHY 4 and fault 0. */
    static void livedFull(Shelf x) {
        full(x);
        x.image();
        x.open(0, true);
        x.next(0);
        x.cut(nameOf(0));
        x.put(nameOf(0), 0);
        x.cut("q");
        x.find("1", 0);
    }

    private static List<String> fullNames() {
        List<String> names = new ArrayList<>();
        for (int k = 0; k < FULL; k++) {
            names.add(Names.threeLetters(STEP * k, 12).get(0));
        }
        return names;
    }

    /**
     * Rising HASHES split each LEAF into three and four, and the last INDEX into three and three: 46 of them make
     * 15 LEAVES in 5 INDEXES; then two LEAVES of each INDEX are split, and all are filled.
     */
    private static List<Integer> fullOrder() {
        List<Integer> order = new ArrayList<>();
        int[] begins = {0, 12, 24};
        for (int index = 0; index < 5; index++) {
            for (int begin : begins) {
                add(order, 30 * index + begin, 0, 3);
            }
        }
        add(order, 144, 3, 4);
        for (int index = 0; index < 5; index++) {
            add(order, 30 * index, 6, 10);
            add(order, 30 * index + 12, 6, 10);
        }
        for (int index = 0; index < 5; index++) {
            add(order, 30 * index, 3, 6);
            add(order, 30 * index, 10, 12);
            add(order, 30 * index + 12, 3, 6);
            add(order, 30 * index + 12, 10, 12);
            add(order, 30 * index + 24, index < 4 ? 3 : 4, 6);
        }
        return order;
    }

    private static void add(List<Integer> order, int begin, int from, int to) {
        for (int k = from; k < to; k++) {
            order.add(begin + k);
        }
    }
}
