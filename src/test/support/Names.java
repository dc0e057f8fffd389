import java.util.ArrayList;
import java.util.List;

/** HASHES told once more, straight from the document's words, and NAMES that have them. */
final class Names {
    private Names() {
    }

    static int hash(String name, int key, int bits, boolean fold) {
        int h = key;
        for (char c : (fold ? name.toLowerCase() : name).toCharArray()) {
            h = (31 * h + c) % 65536;
            h = h ^ h / 128;
        }
        return h % (1 << bits);
    }

    /** All NAMES of two small letters with this HASH by KEY 1, in order. */
    static List<String> twoLetters(int hash, int bits) {
        List<String> names = new ArrayList<>();
        for (char a = 'a'; a <= 'z'; a++) {
            for (char b = 'a'; b <= 'z'; b++) {
                addIf(names, "" + a + b, hash, bits);
            }
        }
        return names;
    }

    /** All NAMES of three small letters with this HASH by KEY 1, in order. */
    static List<String> threeLetters(int hash, int bits) {
        List<String> names = new ArrayList<>();
        for (char a = 'a'; a <= 'z'; a++) {
            for (char b = 'a'; b <= 'z'; b++) {
                for (char c = 'a'; c <= 'z'; c++) {
                    addIf(names, "" + a + b + c, hash, bits);
                }
            }
        }
        return names;
    }

    private static void addIf(List<String> names, String name, int hash, int bits) {
        if (hash(name, 1, bits, false) == hash) {
            names.add(name);
        }
    }

    /** What MATE answers for a NAME of two small letters. */
    static int asMate(String two) {
        return 26 * (two.charAt(0) - 'a') + two.charAt(1) - 'a';
    }
}
