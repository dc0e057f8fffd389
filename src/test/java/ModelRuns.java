import java.util.ArrayDeque;
import java.util.ArrayList;
import java.util.Arrays;
import java.util.Collections;
import java.util.Comparator;
import java.util.Deque;
import java.util.HashMap;
import java.util.List;
import java.util.Map;
import java.util.NoSuchElementException;
import java.util.Random;
import java.util.Set;
import java.util.TreeMap;
import java.util.TreeSet;
import java.util.function.IntSupplier;

/** Random runs of calls, each answer beside that of a plain model of the document built from lists, maps and texts. */
public final class ModelRuns {
    /** Thrown by the model where an ACT is refused. */
    static final class Refused extends RuntimeException {
        private static final long serialVersionUID = 1L;
        final int number;

        Refused(int number) {
            super("refused " + number);
            this.number = number;
        }
    }

    /** Thrown by the model where a text is wrong. */
    static final class Wrong extends RuntimeException {
        private static final long serialVersionUID = 1L;
        final int place;

        Wrong(int place) {
            super("wrong " + place);
            this.place = place;
        }
    }

    static final class Entry {
        final String name;
        final int node;

        Entry(String name, int node) {
            this.name = name;
            this.node = node;
        }
    }

    static final class Row {
        final int limit;
        final boolean mark;
        final int block;

        Row(int limit, boolean mark, int block) {
            this.limit = limit;
            this.mark = mark;
            this.block = block;
        }
    }

    static final class Block {
        Entry[] slots;
        List<Row> rows;
        boolean torn;

        static Block leaf() {
            Block b = new Block();
            b.slots = new Entry[6];
            return b;
        }

        static Block index() {
            Block b = new Block();
            b.rows = new ArrayList<>();
            return b;
        }

        boolean isLeaf() {
            return slots != null;
        }

        Block copy() {
            Block b = new Block();
            b.slots = slots == null ? null : slots.clone();
            b.rows = rows == null ? null : new ArrayList<>(rows);
            b.torn = torn;
            return b;
        }

        int size() {
            return rows != null ? rows.size() : (int) Arrays.stream(slots).filter(e -> e != null).count();
        }
    }

    static final class State {
        int bits = 6;
        int key = 1;
        boolean fold;
        TreeMap<Integer, Block> blocks = new TreeMap<>();

        State() {
            blocks.put(0, Block.leaf());
        }

        State copy() {
            State s = new State();
            s.bits = bits;
            s.key = key;
            s.fold = fold;
            s.blocks = new TreeMap<>();
            blocks.forEach((n, b) -> s.blocks.put(n, b.copy()));
            return s;
        }

        int hash(String name, int byKey) {
            long h = byKey;
            for (char c : (fold ? name.toLowerCase() : name).toCharArray()) {
                h = (31 * h + c) % 65536;
                h = h ^ (h / 128);
            }
            return (int) (h % (1L << bits));
        }

        int hash(String name) {
            return hash(name, key);
        }

        boolean one(String a, String b) {
            return fold ? a.equalsIgnoreCase(b) : a.equals(b);
        }

        int levels() {
            int n = 0;
            Block b = blocks.get(0);
            while (!b.isLeaf()) {
                n++;
                b = blocks.get(b.rows.get(0).block);
            }
            return n;
        }

        /** ROWS to LEAVES in order. */
        List<Row> leafRows() {
            List<Row> all = new ArrayList<>();
            if (blocks.get(0).isLeaf()) {
                all.add(new Row(0, false, 0));
            } else {
                collect(0, all);
            }
            return all;
        }

        private void collect(int index, List<Row> all) {
            for (Row r : blocks.get(index).rows) {
                if (blocks.get(r.block).isLeaf()) {
                    all.add(r);
                } else {
                    collect(r.block, all);
                }
            }
        }

        List<Integer> indexesOfWay(int hash) {
            List<Integer> path = new ArrayList<>();
            int at = 0;
            while (!blocks.get(at).isLeaf()) {
                path.add(at);
                at = rowOfWay(at, hash).block;
            }
            return path;
        }

        Row rowOfWay(int index, int hash) {
            Row taken = blocks.get(index).rows.get(0);
            for (Row r : blocks.get(index).rows) {
                if (r.limit < hash || r.limit == hash && !r.mark) {
                    taken = r;
                }
            }
            return taken;
        }

        List<Integer> leavesOfWay(int hash) {
            List<Integer> path = indexesOfWay(hash);
            int first = path.isEmpty() ? 0 : rowOfWay(path.get(path.size() - 1), hash).block;
            List<Integer> leaves = new ArrayList<>();
            leaves.add(first);
            List<Row> order = leafRows();
            int place = 0;
            while (order.get(place).block != first) {
                place++;
            }
            for (Row r : order.subList(place + 1, order.size())) {
                if (r.limit != hash || !r.mark) {
                    break;
                }
                leaves.add(r.block);
            }
            return leaves;
        }

        int torn() {
            return (int) blocks.values().stream().filter(b -> b.torn).count();
        }

        /** BLOCK, SLOT (or nothing), and READ. */
        int[] found(String name) {
            List<Integer> leaves = new ArrayList<>();
            int read;
            if (torn() > 0) {
                blocks.forEach((n, b) -> {
                    if (b.isLeaf()) {
                        leaves.add(n);
                    }
                });
                read = 1;
            } else {
                leaves.addAll(leavesOfWay(hash(name)));
                read = indexesOfWay(hash(name)).size();
            }
            for (int leaf : leaves) {
                read++;
                Entry[] slots = blocks.get(leaf).slots;
                for (int s = 0; s < 6; s++) {
                    if (slots[s] != null && one(slots[s].name, name)) {
                        return new int[] {leaf, s, read};
                    }
                }
            }
            return new int[] {-1, -1, read};
        }

        List<Entry> entries() {
            List<Entry> all = new ArrayList<>();
            for (Block b : blocks.values()) {
                if (b.isLeaf()) {
                    for (Entry e : b.slots) {
                        if (e != null) {
                            all.add(e);
                        }
                    }
                }
            }
            return sorted(all);
        }

        List<Entry> sorted(List<Entry> list) {
            list.sort(Comparator.<Entry>comparingInt(e -> hash(e.name)).thenComparing(e -> e.name));
            return list;
        }

        int free() {
            int n = 0;
            while (blocks.containsKey(n)) {
                n++;
            }
            if (n >= 40) {
                throw new IllegalStateException("the model ran out of BLOCKS");
            }
            return n;
        }

        /** Changes this state; how many BLOCKS it took. A refused one may leave it half done: work on a copy. */
        int put(String name, int node) {
            if (found(name)[0] >= 0) {
                throw new Refused(1);
            }
            if (torn() > 0) {
                throw new Refused(2);
            }
            int before = blocks.size();
            Entry fresh = new Entry(name, node);
            List<Integer> leaves = leavesOfWay(hash(name));
            for (int leaf : leaves) {
                Entry[] slots = blocks.get(leaf).slots;
                for (int s = 0; s < 6; s++) {
                    if (slots[s] == null) {
                        slots[s] = fresh;
                        return 0;
                    }
                }
            }
            split(leaves.get(0), fresh);
            return blocks.size() - before;
        }

        private void split(int leaf, Entry fresh) {
            List<Integer> path = indexesOfWay(hash(fresh.name));
            List<Entry> seven = new ArrayList<>(Arrays.asList(blocks.get(leaf).slots));
            seven.add(fresh);
            sorted(seven);
            Block stay = Block.leaf();
            Block go = Block.leaf();
            for (int k = 0; k < 7; k++) {
                if (k < 3) {
                    stay.slots[k] = seven.get(k);
                } else {
                    go.slots[k - 3] = seven.get(k);
                }
            }
            int limit = hash(seven.get(3).name);
            boolean mark = hash(seven.get(2).name) == limit;
            int behind = free();
            blocks.put(behind, go);
            if (leaf == 0) {
                int front = free();
                blocks.put(front, stay);
                newRoot(front, behind, limit, mark);
                return;
            }
            blocks.put(leaf, stay);
            addBehind(path, path.size() - 1, leaf, new Row(limit, mark, behind));
        }

        private void newRoot(int front, int behind, int limit, boolean mark) {
            Block root = Block.index();
            root.rows.add(new Row(0, false, front));
            root.rows.add(new Row(limit, mark, behind));
            blocks.put(0, root);
            if (levels() > 2) {
                throw new Refused(3);
            }
        }

        private void addBehind(List<Integer> path, int depth, int child, Row row) {
            int number = path.get(depth);
            Block index = blocks.get(number);
            int place = 0;
            while (index.rows.get(place).block != child) {
                place++;
            }
            index.rows.add(place + 1, row);
            if (index.rows.size() < 6) {
                return;
            }
            Block go = Block.index();
            go.rows.addAll(index.rows.subList(3, 6));
            Block stay = Block.index();
            stay.rows.addAll(index.rows.subList(0, 3));
            Row first = go.rows.get(0);
            int behind = free();
            blocks.put(behind, go);
            if (number == 0) {
                int front = free();
                blocks.put(front, stay);
                newRoot(front, behind, first.limit, first.mark);
                return;
            }
            blocks.put(number, stay);
            addBehind(path, depth - 1, number, new Row(first.limit, first.mark, behind));
        }

        int cut(String name) {
            int[] at = found(name);
            if (at[0] < 0) {
                throw new Refused(4);
            }
            Entry[] slots = blocks.get(at[0]).slots;
            int node = slots[at[1]].node;
            slots[at[1]] = null;
            return node;
        }

        int turn(String name, String other) {
            int[] at = found(name);
            if (at[0] < 0) {
                throw new Refused(4);
            }
            int[] there = found(other);
            if (there[0] >= 0 && (there[0] != at[0] || there[1] != at[1])) {
                throw new Refused(1);
            }
            int node = cut(name);
            put(other, node);
            return node;
        }

        int build() {
            List<Entry> all = entries();
            int leaves = (int) Math.ceil(all.size() / 4.0);
            if (leaves > 5 && Math.ceil(leaves / 4.0) > 5) {
                throw new Refused(3);
            }
            blocks.clear();
            List<Row> rows = new ArrayList<>();
            for (int k = 0; k < Math.max(1, leaves); k++) {
                Block leaf = Block.leaf();
                for (int s = 0; s < 4 && 4 * k + s < all.size(); s++) {
                    leaf.slots[s] = all.get(4 * k + s);
                }
                blocks.put(leaves < 2 ? 0 : k + 1, leaf);
                int limit = k == 0 ? 0 : hash(all.get(4 * k).name);
                boolean mark = k > 0 && hash(all.get(4 * k - 1).name) == limit;
                rows.add(new Row(limit, mark, k + 1));
            }
            if (leaves < 2) {
                return 1;
            }
            Block root = Block.index();
            if (leaves < 6) {
                root.rows.addAll(rows);
            } else {
                for (int k = 0; k < leaves; k += 4) {
                    Block index = Block.index();
                    index.rows.addAll(rows.subList(k, Math.min(leaves, k + 4)));
                    int number = 1 + leaves + k / 4;
                    blocks.put(number, index);
                    root.rows.add(new Row(rows.get(k).limit, rows.get(k).mark, number));
                }
            }
            blocks.put(0, root);
            return blocks.size();
        }

        int tune(int what, int n) {
            int was = what == 0 ? bits : what == 1 ? key : fold ? 1 : 0;
            if (what == 0) {
                bits = n;
            } else if (what == 1) {
                key = n;
            } else {
                fold = n == 1;
            }
            List<Entry> all = entries();
            build();
            for (Entry a : all) {
                for (Entry b : all) {
                    if (a != b && one(a.name, b.name)) {
                        throw new Refused(1);
                    }
                }
            }
            return was;
        }

        int tear(int block) {
            Block b = blocks.get(block);
            if (b == null || b.isLeaf()) {
                throw new Refused(5);
            }
            b.torn = true;
            return torn();
        }

        int crowd(int byKey) {
            Map<Integer, Integer> many = new HashMap<>();
            for (Entry e : entries()) {
                many.merge(hash(e.name, byKey), 1, Integer::sum);
            }
            return many.isEmpty() ? 0 : Collections.max(many.values());
        }
    }

    static final class Reader {
        boolean open;
        int cookie;
        int listed;
        List<Integer> batch = new ArrayList<>();
    }

    /** The model's side of the calls; texts are told as they are, without a TAPE. */
    static final class Model {
        State state = new State();
        State image;
        final Deque<State> remembered = new ArrayDeque<>();
        final Reader[] readers = {new Reader(), new Reader(), new Reader(), new Reader()};
        int why;
        int fault = -1;

        interface Act {
            int on(State s);
        }

        int byCall(Act act, boolean tunes) {
            State after = state.copy();
            int answer;
            try {
                answer = act.on(after);
            } catch (Refused r) {
                why = r.number;
                throw new IllegalStateException();
            }
            why = 0;
            remembered.addLast(state);
            if (remembered.size() > 8) {
                remembered.removeFirst();
            }
            state = after;
            if (tunes) {
                shut();
            }
            return answer;
        }

        void shut() {
            for (Reader r : readers) {
                r.open = false;
            }
        }

        List<String> names(String text, int many) {
            Words words = new Words(text);
            List<String> names = new ArrayList<>();
            fault = -1;
            try {
                for (int k = 0; k < many; k++) {
                    names.add(words.name());
                }
                words.over();
            } catch (Wrong w) {
                fault = w.place;
                throw new IllegalArgumentException();
            }
            return names;
        }

        int undo() {
            if (remembered.isEmpty()) {
                throw new IllegalStateException();
            }
            state = remembered.removeLast();
            return remembered.size();
        }

        int acts(String text) {
            Words words = new Words(text);
            State after = state.copy();
            fault = -1;
            int done = 0;
            boolean tunes = false;
            try {
                boolean more = !words.isOver();
                while (more) {
                    int begin = words.begin();
                    if (done == 14) {
                        throw new Wrong(begin);
                    }
                    try {
                        tunes |= words.act(after);
                    } catch (Refused r) {
                        why = r.number;
                        throw new Wrong(begin);
                    }
                    done++;
                    more = words.semicolon();
                }
            } catch (Wrong w) {
                fault = w.place;
                throw new IllegalArgumentException();
            }
            state = after;
            remembered.clear();
            if (done > 0) {
                why = 0;
            }
            if (tunes) {
                shut();
            }
            return done;
        }

        int find(String text, int what) {
            if (what < 0 || what > 8) {
                throw new NoSuchElementException();
            }
            String name = names(text, 1).get(0);
            int[] at = state.found(name);
            int hash = state.hash(name);
            switch (what) {
                case 0: return at[0] < 0 ? -1 : state.blocks.get(at[0]).slots[at[1]].node;
                case 1: return at[2];
                case 2: return at[0];
                case 3: return at[1];
                case 4: return hash;
                case 5: return (int) state.entries().stream().filter(e -> state.hash(e.name) == hash).count();
                case 6: return state.leavesOfWay(hash).stream().mapToInt(l -> 6 - state.blocks.get(l).size()).sum();
                case 7:
                    try {
                        return state.copy().put(name, 0);
                    } catch (Refused r) {
                        return -1;
                    }
                default:
                    for (char a = 'a'; a <= 'z'; a++) {
                        for (char b = 'a'; b <= 'z'; b++) {
                            String two = "" + a + b;
                            if (state.hash(two) == hash && state.found(two)[0] < 0) {
                                return 26 * (a - 'a') + b - 'a';
                            }
                        }
                    }
                    return -1;
            }
        }

        int way(String text, int k) {
            int hash = state.hash(names(text, 1).get(0));
            List<Integer> all = state.indexesOfWay(hash);
            all.addAll(state.leavesOfWay(hash));
            return k >= 0 && k < all.size() ? all.get(k) : -1;
        }

        int shape(int what) {
            List<Integer> sizes = new ArrayList<>();
            for (Row r : state.leafRows()) {
                sizes.add(state.blocks.get(r.block).size());
            }
            Set<Integer> hashes = new TreeSet<>();
            for (Entry e : state.entries()) {
                hashes.add(state.hash(e.name));
            }
            switch (what) {
                case 0: return state.crowd(state.key);
                case 1: return hashes.stream().mapToInt(h -> state.leavesOfWay(h).size()).max().orElse(0);
                case 2: return Math.max(1, (int) Math.ceil(state.entries().size() / 4.0));
                case 3: return Collections.min(sizes);
                case 4: return Collections.max(sizes);
                case 5: return sizes.indexOf(Collections.max(sizes));
                case 6:
                    int behind = 0;
                    for (Entry e : state.entries()) {
                        if (state.found(e.name)[0] != state.leavesOfWay(state.hash(e.name)).get(0)) {
                            behind++;
                        }
                    }
                    return behind;
                case 7:
                    int best = -1;
                    for (int n : state.blocks.keySet()) {
                        Block b = state.blocks.get(n);
                        if (!b.isLeaf() && (best < 0 || b.size() > state.blocks.get(best).size())) {
                            best = n;
                        }
                    }
                    return best;
                case 8:
                    for (int h = 0; h < 1 << state.bits; h++) {
                        if (!hashes.contains(h)) {
                            return h;
                        }
                    }
                    return -1;
                default:
                    throw new NoSuchElementException();
            }
        }

        int best(int key, int n) {
            if (key < 0 || key > 65535 || n < 1 || n > 20) {
                throw new IllegalArgumentException();
            }
            int best = key;
            for (int k = key; k < key + n && k <= 65535; k++) {
                if (state.crowd(k) < state.crowd(best)) {
                    best = k;
                }
            }
            return best;
        }

        int next(int reader) {
            Reader r = readers[reader];
            if (!r.open) {
                throw new IllegalStateException();
            }
            r.batch = new ArrayList<>();
            int least = Integer.MAX_VALUE;
            for (Entry e : state.entries()) {
                int h = state.hash(e.name);
                if (h >= r.cookie && h < least) {
                    least = h;
                }
            }
            int many = 0;
            for (Entry e : state.entries()) {
                if (state.hash(e.name) == least) {
                    many++;
                    if (r.batch.size() < 60) {
                        r.batch.add(e.node);
                    }
                }
            }
            if (many > 0) {
                r.cookie = least + 1;
            }
            r.listed += many;
            return many;
        }
    }

    /** A text taken apart by its signs. */
    static final class Words {
        final String text;
        int at;

        Words(String text) {
            this.text = text;
        }

        int begin() {
            while (at < text.length() && text.charAt(at) == ' ') {
                at++;
            }
            return at;
        }

        boolean isOver() {
            return begin() == text.length();
        }

        void over() {
            if (!isOver()) {
                throw new Wrong(at);
            }
        }

        String run(String pattern) {
            int from = begin();
            int to = from;
            while (to < text.length() && text.substring(to, to + 1).matches(pattern)) {
                to++;
            }
            at = to;
            return text.substring(from, to);
        }

        String name() {
            int from = begin();
            String s = run("[A-Za-z]");
            if (s.isEmpty() || s.length() > 8) {
                throw new Wrong(from);
            }
            return s;
        }

        int number(int low, int high) {
            int from = begin();
            String s = run("[0-9]");
            if (s.isEmpty() || s.length() > 5 || Integer.parseInt(s) < low || Integer.parseInt(s) > high) {
                throw new Wrong(from);
            }
            return Integer.parseInt(s);
        }

        boolean semicolon() {
            if (isOver()) {
                return false;
            }
            if (text.charAt(at) != ';') {
                throw new Wrong(at);
            }
            at++;
            return true;
        }

        /** Whether READERS are closed by it. */
        boolean act(State s) {
            int from = begin();
            String word = run("[A-Za-z]");
            switch (word) {
                case "put": {
                    String name = name();
                    s.put(name, number(0, 999));
                    return false;
                }
                case "cut":
                    s.cut(name());
                    return false;
                case "turn": {
                    String name = name();
                    s.turn(name, name());
                    return false;
                }
                case "bits":
                    s.tune(0, number(1, 12));
                    return true;
                case "key":
                    s.tune(1, number(0, 65535));
                    return true;
                case "fold":
                    s.tune(2, 1);
                    return true;
                case "plain":
                    s.tune(2, 0);
                    return true;
                case "tear":
                    s.tear(number(0, 39));
                    return false;
                case "build":
                    s.build();
                    return false;
                default:
                    throw new Wrong(from);
            }
        }
    }

    static final class Pair {
        final SteadyShelf x = new SteadyShelf();
        final Model m = new Model();
        final List<String> told = new ArrayList<>();
        final int run;

        Pair(int run) {
            this.run = run;
        }

        void tape(String text) {
            for (int from = 0; from < text.length(); from += 20) {
                int[] five = new int[5];
                for (int k = 0; k < 20; k++) {
                    int code = from + k < text.length() ? text.charAt(from + k) : 0;
                    five[k / 4] = five[k / 4] << 8 | code;
                }
                x.feed(five[0], five[1], five[2], five[3], five[4]);
            }
            if (!x.end(text.length())) {
                throw new IllegalStateException("the TAPE is too short");
            }
        }

        static String answer(IntSupplier call) {
            try {
                return "" + call.getAsInt();
            } catch (IllegalArgumentException | IllegalStateException | NoSuchElementException e) {
                return e.getClass().getSimpleName();
            } catch (IndexOutOfBoundsException e) {
                return e.getClass() == IndexOutOfBoundsException.class ? "IndexOutOfBoundsException" : e.toString();
            }
        }

        void same(String call, IntSupplier mine, IntSupplier due) {
            String want = answer(due);
            String got = answer(mine);
            told.add(call + " " + got);
            if (!want.equals(got)) {
                System.out.println("run " + run + ": " + call + " answered " + got + ", due is " + want);
                for (String t : told) {
                    System.out.println("    " + t);
                }
                System.exit(1);
            }
        }

        void text(String call, String text, IntSupplier mine, IntSupplier due) {
            tape(text);
            same(call + " '" + text + "'", mine, due);
            same("fault", x::fault, () -> m.fault);
            same("why", x::why, () -> m.why);
        }

        void compareBlocks() {
            for (int b = 0; b < 40; b++) {
                final int n = b;
                Block block = m.state.blocks.get(b);
                quick("block " + b, x.block(n, 0), block == null ? 0 : block.isLeaf() ? 1 : 2);
                quick("block size " + b, x.block(n, 1), block == null ? 0 : block.size());
                quick("block torn " + b, x.block(n, 2), block != null && block.torn ? 1 : 0);
                for (int s = 0; s < 6; s++) {
                    compareSlot(b, s, block == null || !block.isLeaf() ? null : block.slots[s]);
                    compareRow(b, s, block == null || block.isLeaf() || s >= block.size() ? null : block.rows.get(s));
                }
            }
            List<Row> order = m.state.leafRows();
            for (int k = -1; k <= order.size(); k++) {
                quick("leaf " + k, x.leaf(k), k < 0 || k == order.size() ? -1 : order.get(k).block);
            }
        }

        void compareSlot(int b, int s, Entry e) {
            quick("node", x.entry(b, s, 0), e == null ? -1 : e.node);
            quick("hash", x.entry(b, s, 1), e == null ? -1 : m.state.hash(e.name));
            quick("letters", x.entry(b, s, 2), e == null ? -1 : e.name.length());
            for (int k = -1; k < 9; k++) {
                boolean is = e != null && k >= 0 && k < e.name.length();
                quick("letter", x.letter(b, s, k), is ? e.name.charAt(k) : -1);
            }
        }

        void compareRow(int b, int r, Row row) {
            if (row == null) {
                String got = answer(() -> x.row(b, r, 0));
                quick("row " + b + " " + r + " throws", got.equals("IndexOutOfBoundsException") ? 1 : 0, 1);
                return;
            }
            quick("limit " + b + " " + r, x.row(b, r, 0), row.limit);
            quick("mark " + b + " " + r, x.row(b, r, 1), row.mark ? 1 : 0);
            quick("block " + b + " " + r, x.row(b, r, 2), row.block);
        }

        void compareRest() {
            int[] counts = {m.state.entries().size(), m.state.blocks.size(), m.state.levels(), m.state.leafRows().size(),
                m.state.torn(), m.state.bits, m.state.key, m.state.fold ? 1 : 0, m.remembered.size(), -1};
            for (int k = 0; k < 10; k++) {
                quick("count " + k, x.count(k), counts[k]);
            }
            for (int k = 0; k < 9; k++) {
                quick("shape " + k, x.shape(k), m.shape(k));
            }
            for (int r = 0; r < 4; r++) {
                Reader reader = m.readers[r];
                quick("open " + r, x.reader(r, 0), reader.open ? 1 : 0);
                quick("cookie " + r, x.reader(r, 1), reader.cookie);
                quick("listed " + r, x.reader(r, 2), reader.listed);
                quick("batch " + r, x.reader(r, 3), reader.batch.size());
                for (int k = -1; k <= reader.batch.size(); k++) {
                    boolean is = k >= 0 && k < reader.batch.size();
                    quick("batch " + r + " " + k, x.batch(r, k), is ? reader.batch.get(k) : -1);
                }
            }
        }

        void quick(String what, int got, int want) {
            if (got != want) {
                same(what, () -> got, () -> want);
            }
        }
    }

    /** How one run is made: how many letters, how many BITS at most, how often something is taken away. */
    static final class Driver {
        final Random random;
        final Pair p;
        final String letters;
        final int longest;
        final int most;
        final int removing;
        final int tuning;
        /** Whether the run is to come to the end of the two levels. */
        final boolean filling;

        Driver(int run) {
            random = new Random(7919L * run + 17);
            p = new Pair(run);
            String[] alphabets = {"ab", "abAB", "abcdefgh", "abcdefghijklmnopqrstuvwxyz", "aAbBcCzZ"};
            letters = alphabets[random.nextInt(alphabets.length)];
            longest = letters.length() < 5 ? 3 + random.nextInt(5) : 2 + random.nextInt(7);
            filling = run % 3 == 0;
            most = filling ? 1 + random.nextInt(5) : 1 + random.nextInt(12);
            removing = filling ? 0 : random.nextInt(4);
            tuning = filling ? 0 : random.nextInt(3);
        }

        String freshName() {
            for (int k = 0; k < 50; k++) {
                String name = name();
                if (p.m.state.found(name)[0] < 0) {
                    return name;
                }
            }
            return name();
        }

        String name() {
            int many = 1 + random.nextInt(longest);
            StringBuilder b = new StringBuilder();
            for (int k = 0; k < many; k++) {
                b.append(letters.charAt(random.nextInt(letters.length())));
            }
            return b.toString();
        }

        /** One that may be there. */
        String likely() {
            List<Entry> all = p.m.state.entries();
            if (all.isEmpty() || random.nextInt(4) == 0) {
                return name();
            }
            String s = all.get(random.nextInt(all.size())).name;
            if (random.nextInt(4) == 0) {
                return random.nextBoolean() ? s.toUpperCase() : s.toLowerCase();
            }
            return s;
        }

        String blanks(boolean must) {
            return " ".repeat(random.nextInt(8) == 0 ? 2 : must ? 1 : 0);
        }

        String act() {
            int dice = random.nextInt(40);
            if (dice < 2 * removing) {
                return "cut " + likely();
            }
            if (dice < 3 * removing) {
                return "turn " + likely() + " " + (random.nextInt(4) == 0 ? likely() : name());
            }
            if (dice == 39 && tuning > 0) {
                String[] rare = {"bits " + (1 + random.nextInt(most)), "key " + random.nextInt(65536), "fold", "plain",
                    "tear " + random.nextInt(40), "build", "tear 0", "turn " + likely() + " " + likely(), "key 65536",
                    "bits 13", "tear 40", "put a 1000", "put abcdefghi 4", "put x 000001", "bits 00000", "Put x 1"};
                return rare[random.nextInt(rare.length)];
            }
            String name = filling ? freshName() : name();
            return "put" + blanks(true) + name + blanks(random.nextBoolean()) + random.nextInt(1000);
        }

        String text() {
            int many = random.nextInt(20) == 0 ? random.nextInt(17) : random.nextInt(14);
            StringBuilder b = new StringBuilder();
            for (int k = 0; k < many; k++) {
                b.append(k > 0 ? ";" : "").append(blanks(false)).append(act()).append(blanks(false));
            }
            if (random.nextInt(12) == 0 && b.length() > 0) {
                String signs = " ;aZ09@[`{/:\u0000\u00ff";
                b.setCharAt(random.nextInt(b.length()), signs.charAt(random.nextInt(signs.length())));
            }
            if (random.nextInt(30) == 0 && b.length() > 0) {
                b.setLength(random.nextInt(b.length()));
            }
            return b.length() > 400 ? b.substring(0, 400) : b.toString();
        }

        String oneName(String name) {
            switch (random.nextInt(30)) {
                case 0: return name + " " + name();
                case 1: return "";
                case 2: return name + ";";
                case 3: return "5" + name;
                case 4: return name + "abcdefgh";
                case 5: return "  ";
                default: return blanks(false) + name + blanks(false);
            }
        }

        void step() {
            SteadyShelf x = p.x;
            Model m = p.m;
            int dice = filling ? random.nextInt(80) : random.nextInt(100);
            if (dice < 22) {
                String text = text();
                p.text("acts", text, x::acts, () -> m.acts(text));
            } else if (dice < 40) {
                String text = oneName(filling ? freshName() : name());
                int node = random.nextInt(20) == 0 ? (random.nextBoolean() ? -1 : 1000) : random.nextInt(1000);
                p.text("put " + node, text, () -> x.put(node), () -> {
                    if (node < 0 || node > 999) {
                        throw new IllegalArgumentException();
                    }
                    String name = m.names(text, 1).get(0);
                    return m.byCall(s -> s.put(name, node), false);
                });
            } else if (dice < 40 + 4 * removing) {
                String text = oneName(likely());
                p.text("cut", text, x::cut, () -> {
                    String name = m.names(text, 1).get(0);
                    return m.byCall(s -> s.cut(name), false);
                });
            } else if (dice < 56) {
                String text = oneName(likely()) + " " + (random.nextInt(3) == 0 ? likely() : freshName());
                p.text("turn", text, x::turn, () -> {
                    List<String> names = m.names(text, 2);
                    return m.byCall(s -> s.turn(names.get(0), names.get(1)), false);
                });
            } else if (dice < 70) {
                ask();
            } else if (dice < 85) {
                readers();
            } else {
                rare();
            }
        }

        void ask() {
            SteadyShelf x = p.x;
            Model m = p.m;
            String text = oneName(likely());
            if (random.nextInt(3) > 0) {
                int what = random.nextInt(11) - 1;
                p.text("find " + what, text, () -> x.find(what), () -> m.find(text, what));
            } else {
                int k = random.nextInt(8) - 1;
                p.text("way " + k, text, () -> x.way(k), () -> m.way(text, k));
            }
        }

        void askAll() {
            SteadyShelf x = p.x;
            Model m = p.m;
            String name = likely();
            for (int k = 0; k < 9; k++) {
                int what = k;
                p.text("find " + what, name, () -> x.find(what), () -> m.find(name, what));
            }
            for (int k = 0; k < 6; k++) {
                int at = k;
                p.text("way " + at, name, () -> x.way(at), () -> m.way(name, at));
            }
            int key = random.nextInt(4) == 0 ? 65535 - random.nextInt(5) : random.nextInt(65536);
            p.same("crowds " + key, () -> x.crowds(key), () -> m.state.crowd(key));
            int n = random.nextInt(23);
            p.same("best " + key + " " + n, () -> x.best(key, n), () -> m.best(key, n));
        }

        void readers() {
            SteadyShelf x = p.x;
            Model m = p.m;
            int reader = random.nextInt(4);
            if (random.nextInt(3) == 0) {
                boolean is = random.nextInt(6) > 0;
                p.same("open " + reader + " " + is, () -> x.open(reader, is) ? 1 : 0, () -> {
                    boolean was = m.readers[reader].open;
                    if (is) {
                        m.readers[reader] = new Reader();
                    }
                    m.readers[reader].open = is;
                    return was ? 1 : 0;
                });
            } else {
                p.same("next " + reader, () -> x.next(reader), () -> m.next(reader));
            }
        }

        void rare() {
            SteadyShelf x = p.x;
            Model m = p.m;
            int dice = random.nextInt(12 + tuning);
            if (dice < 5) {
                p.same("undo", x::undo, m::undo);
            } else if (dice == 5) {
                x.image();
                m.image = m.state.copy();
            } else if (dice == 6) {
                p.same("back", () -> x.back() ? 1 : 0, () -> {
                    if (m.image == null) {
                        return 0;
                    }
                    m.state = m.image.copy();
                    m.remembered.clear();
                    m.shut();
                    return 1;
                });
            } else if (dice == 7) {
                p.same("build", x::build, () -> m.byCall(s -> s.build(), false));
            } else if (dice < 10) {
                int block = random.nextBoolean() ? 0 : random.nextInt(40);
                p.same("tear " + block, () -> x.tear(block), () -> m.byCall(s -> s.tear(block), false));
            } else {
                int what = random.nextInt(4) > 0 ? 0 : 1 + random.nextInt(2);
                int n = what == 0 ? 1 + random.nextInt(most) : what == 1 ? random.nextInt(65536) : random.nextInt(2);
                p.same("tune " + what + " " + n, () -> x.tune(what, n), () -> m.byCall(s -> s.tune(what, n), true));
            }
        }

        void go(int steps) {
            p.same("tune 0 " + most, () -> p.x.tune(0, most), () -> p.m.byCall(s -> s.tune(0, most), true));
            for (int k = 0; k < steps; k++) {
                step();
                p.compareBlocks();
                p.compareRest();
                if (k % 9 == 0) {
                    askAll();
                }
            }
        }
    }

    public static void main(String[] args) {
        int runs = args.length > 0 ? Integer.parseInt(args[0]) : 150;
        int first = args.length > 1 ? Integer.parseInt(args[1]) : 1;
        int mostEntries = 0;
        for (int run = first; run < first + runs; run++) {
            Driver d = new Driver(run);
            d.go(160);
            mostEntries = Math.max(mostEntries, d.p.m.state.entries().size());
        }
        System.out.println(runs + " runs beside the model, at most " + mostEntries + " entries at an end");
    }
}
