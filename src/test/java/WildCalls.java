import java.util.ArrayList;
import java.util.List;
import java.util.NoSuchElementException;
import java.util.Random;

/** Calls with any arguments in any state: none throws but what the document names for it, and never by the machine. */
public final class WildCalls {
    private static final int[] EDGES = {Integer.MIN_VALUE, Integer.MIN_VALUE + 1, -65536, -41, -2, -1, 0, 1, 2, 3, 4, 5,
        6, 7, 8, 9, 11, 12, 13, 20, 21, 39, 40, 41, 60, 399, 400, 401, 999, 1000, 65535, 65536, Integer.MAX_VALUE};
    private static final String[] WORDS = {"put", "cut", "turn", "bits", "key", "fold", "plain", "tear", "build", ";",
        ";", ";", "a", "b", "A", "abcdefgh", "abcdefghi", "0", "1", "7", "999", "99999", "100000", "40", "?", "\u0000"};

    private final Random random;
    private final SteadyShelf x = new SteadyShelf();
    private final List<String> calls = new ArrayList<>();

    private WildCalls(int run) {
        random = new Random(31L * run + 5);
    }

    private int wild() {
        return random.nextInt(3) == 0 ? EDGES[random.nextInt(EDGES.length)] : random.nextInt(14) - 2;
    }

    private void tape() {
        StringBuilder b = new StringBuilder();
        int many = random.nextInt(30);
        for (int k = 0; k < many; k++) {
            if (random.nextInt(3) > 0) {
                b.append(k > 0 ? ";" : "").append("put ").append(name()).append(' ').append(random.nextInt(1000));
            } else {
                b.append(WORDS[random.nextInt(WORDS.length)]).append(random.nextInt(4) == 0 ? "" : " ");
            }
        }
        if (random.nextBoolean()) {
            b.setLength(0);
            b.append(name()).append(random.nextBoolean() ? "" : " " + name());
        }
        say(b.toString());
    }

    private String name() {
        StringBuilder b = new StringBuilder();
        int many = 1 + random.nextInt(random.nextInt(6) == 0 ? 9 : 2);
        for (int k = 0; k < many; k++) {
            b.append((char) ((random.nextInt(4) == 0 ? 'A' : 'a') + random.nextInt(26)));
        }
        return b.toString();
    }

    private void say(String text) {
        for (int from = 0; from < text.length(); from += 20) {
            int[] five = new int[5];
            for (int k = 0; k < 20; k++) {
                five[k / 4] = five[k / 4] << 8 | (from + k < text.length() ? text.charAt(from + k) : ' ');
            }
            x.feed(five[0], five[1], five[2], five[3], five[4]);
        }
        x.end(text.length());
        calls.add("tape '" + text + "'");
    }

    private void call(int which) {
        int a = wild();
        int b = wild();
        int c = wild();
        calls.add(which + ": " + a + " " + b + " " + c);
        switch (which) {
            case 0: x.feed(a, b, c, a, b); break;
            case 1: x.end(a); break;
            case 2: x.fault(); break;
            case 3: x.why(); break;
            case 4: x.leaf(a); break;
            case 5: x.image(); break;
            case 6: x.back(); break;
            case 7: x.count(a); break;
            case 8: x.acts(); break;
            case 9: x.way(a); break;
            case 10: x.crowds(a); break;
            case 11: x.best(a, b); break;
            case 12: x.put(a); break;
            case 13: x.cut(); break;
            case 14: x.turn(); break;
            case 15: x.build(); break;
            case 16: x.undo(); break;
            case 17: x.tune(a, b); break;
            case 18: x.tear(a); break;
            case 19: x.find(a); break;
            case 20: x.block(a, b); break;
            case 21: x.entry(a, b, c); break;
            case 22: x.letter(a, b, c); break;
            case 23: x.row(a, b, c); break;
            case 24: x.shape(a); break;
            case 25: x.open(a, b > 3); break;
            case 26: x.next(a); break;
            case 27: x.reader(a, b); break;
            default: x.batch(a, b); break;
        }
    }

    /** Which exceptions a call may throw: a IllegalArgument, s IllegalState, i IndexOutOfBounds, n NoSuchElement. */
    private static final String[] MAY = {"", "", "", "", "", "", "", "", "a", "a", "a", "a", "as", "as", "as", "s", "s",
        "nas", "is", "na", "in", "in", "i", "in", "n", "i", "is", "in", "i"};

    private boolean step() {
        if (random.nextInt(3) == 0) {
            tape();
        }
        int which = random.nextInt(MAY.length);
        try {
            call(which);
            return true;
        } catch (RuntimeException e) {
            Class<?> c = e.getClass();
            String sign = c == IllegalArgumentException.class ? "a" : c == IllegalStateException.class ? "s"
                : c == IndexOutOfBoundsException.class ? "i" : c == NoSuchElementException.class ? "n" : "?";
            boolean ours = e.getStackTrace().length > 0 && e.getStackTrace()[0].getClassName().startsWith("SteadyShelf");
            if (ours && MAY[which].contains(sign)) {
                return true;
            }
            System.out.println("thrown: " + e);
            for (String s : calls) {
                System.out.println("    " + s);
            }
            return false;
        }
    }

    public static void main(String[] args) {
        for (int run = 0; run < 400; run++) {
            WildCalls w = new WildCalls(run);
            for (int k = 0; k < 500; k++) {
                if (!w.step()) {
                    System.exit(1);
                }
            }
        }
        System.out.println("200000 wild calls threw nothing by themselves");
    }
}
