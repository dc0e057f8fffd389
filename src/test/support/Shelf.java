import java.util.List;
import java.util.NoSuchElementException;
import java.util.function.IntSupplier;

/** A SteadyShelf whose calls are counted, since nothing is promised behind the 512th; what a call throws is a number. */
final class Shelf {
    static final int MOST_CALLS = 512;
    static final int IAE = -1001;
    static final int ISE = -1002;
    static final int IOOBE = -1003;
    static final int NSE = -1004;
    /** An exception that no call may throw, one below those that may be thrown too. */
    static final int OTHER = -2000;

    private final SteadyShelf x = new SteadyShelf();
    int calls = 0;

    private int of(IntSupplier call) {
        calls++;
        if (calls > MOST_CALLS) {
            throw new AssertionError("a test makes more than 512 calls on one object");
        }
        try {
            return call.getAsInt();
        } catch (RuntimeException e) {
            return numberOf(e.getClass());
        }
    }

    private static int numberOf(Class<?> thrown) {
        return thrown == IllegalArgumentException.class ? IAE
            : thrown == IllegalStateException.class ? ISE
            : thrown == IndexOutOfBoundsException.class ? IOOBE
            : thrown == NoSuchElementException.class ? NSE : OTHER;
    }

    int feed(int a, int b, int c, int d, int e) {
        return of(() -> x.feed(a, b, c, d, e));
    }

    int end(int n) {
        return of(() -> x.end(n) ? 1 : 0);
    }

    /** Twenty bytes, all the same. */
    int feedTwenty(int code) {
        int four = code << 24 | code << 16 | code << 8 | code;
        return feed(four, four, four, four, four);
    }

    /** Tells a text on a TAPE that is empty. */
    void tape(String text) {
        for (int from = 0; from < text.length(); from += 20) {
            int[] five = new int[5];
            for (int k = 0; k < 20; k++) {
                int code = from + k < text.length() ? text.charAt(from + k) : 0;
                five[k / 4] = five[k / 4] << 8 | code;
            }
            feed(five[0], five[1], five[2], five[3], five[4]);
        }
        if (text.length() % 20 > 0) {
            end(text.length());
        }
    }

    int acts() {
        return of(x::acts);
    }

    int acts(String text) {
        tape(text);
        return acts();
    }

    /** Many ACTS, in as few texts as they fit into: how many were done. */
    int actsOf(List<String> all) {
        int done = 0;
        for (int from = 0; from < all.size(); from += 14) {
            done += acts(String.join(";", all.subList(from, Math.min(from + 14, all.size()))));
        }
        return done;
    }

    int fault() {
        return of(x::fault);
    }

    int why() {
        return of(x::why);
    }

    int put(int node) {
        return of(() -> x.put(node));
    }

    int put(String text, int node) {
        tape(text);
        return put(node);
    }

    int cut() {
        return of(x::cut);
    }

    int cut(String text) {
        tape(text);
        return cut();
    }

    int turn() {
        return of(x::turn);
    }

    int turn(String text) {
        tape(text);
        return turn();
    }

    int build() {
        return of(x::build);
    }

    int tune(int what, int n) {
        return of(() -> x.tune(what, n));
    }

    int tear(int block) {
        return of(() -> x.tear(block));
    }

    int undo() {
        return of(x::undo);
    }

    int find(int what) {
        return of(() -> x.find(what));
    }

    int find(String text, int what) {
        tape(text);
        return find(what);
    }

    int way(int k) {
        return of(() -> x.way(k));
    }

    int way(String text, int k) {
        tape(text);
        return way(k);
    }

    int block(int block, int what) {
        return of(() -> x.block(block, what));
    }

    int entry(int block, int slot, int what) {
        return of(() -> x.entry(block, slot, what));
    }

    int letter(int block, int slot, int k) {
        return of(() -> x.letter(block, slot, k));
    }

    int row(int block, int row, int what) {
        return of(() -> x.row(block, row, what));
    }

    int leaf(int k) {
        return of(() -> x.leaf(k));
    }

    int shape(int what) {
        return of(() -> x.shape(what));
    }

    int crowds(int key) {
        return of(() -> x.crowds(key));
    }

    int best(int key, int n) {
        return of(() -> x.best(key, n));
    }

    int open(int reader, boolean is) {
        return of(() -> x.open(reader, is) ? 1 : 0);
    }

    int next(int reader) {
        return of(() -> x.next(reader));
    }

    int reader(int reader, int what) {
        return of(() -> x.reader(reader, what));
    }

    int batch(int reader, int k) {
        return of(() -> x.batch(reader, k));
    }

    void image() {
        of(() -> {
            x.image();
            return 0;
        });
    }

    int back() {
        return of(() -> x.back() ? 1 : 0);
    }

    int count(int what) {
        return of(() -> x.count(what));
    }
}
