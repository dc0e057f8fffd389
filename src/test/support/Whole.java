/** All that can be asked of an object behind a run of calls, each object that is asked within its 512 calls. */
final class Whole {
    interface Run {
        void on(Shelf x);
    }

    interface Question {
        int to(Shelf x);
    }

    private final Run run;
    private final StringBuilder told = new StringBuilder();
    private Shelf shelf = null;

    private Whole(Run run) {
        this.run = run;
    }

    /** BLOCKS and what is asked of them, READERS, what is remembered, and THE IMAGE; not TAPE, fault() and WHY. */
    static String of(Run run) {
        return directory(run) + readers(run) + remembered(run) + image(run);
    }

    static String directory(Run run) {
        Whole whole = new Whole(run);
        for (int what = 0; what < 8; what++) {
            whole.askCount(what);
        }
        for (int block = 0; block < 40; block++) {
            whole.askBlock(block);
        }
        for (int k = 0; k < 26; k++) {
            whole.askLeaf(k);
        }
        for (int what = 0; what < 9; what++) {
            whole.askShape(what);
        }
        return whole.told.toString();
    }

    static String readers(Run run) {
        Whole whole = new Whole(run);
        for (int reader = 0; reader < 4; reader++) {
            whole.askReader(reader);
        }
        return whole.told.toString();
    }

    static String remembered(Run run) {
        Whole whole = new Whole(run);
        int acts = whole.askCount(8);
        for (int k = 1; k <= acts; k++) {
            int back = k;
            whole.told.append("taken back ").append(k).append('\n').append(directory(x -> {
                run.on(x);
                for (int undo = 0; undo < back; undo++) {
                    x.undo();
                }
            }));
        }
        return whole.told.toString();
    }

    static String image(Run run) {
        Shelf x = new Shelf();
        run.on(x);
        if (x.back() == 0) {
            return "no image\n";
        }
        return "image\n" + directory(y -> {
            run.on(y);
            y.back();
        });
    }

    /** How many bytes the TAPE has, and what it says as the text of a NAME. */
    static String tape(Run run) {
        Shelf x = new Shelf();
        run.on(x);
        int length = x.feed(0, 0, 0, 0, 0) - 20;
        x.end(length);
        return "tape " + length + " hash " + x.find(4) + " fault " + x.fault();
    }

    /** The first lines that differ. */
    static String difference(String one, String other) {
        String[] ours = one.split("\n");
        String[] theirs = other.split("\n");
        for (int k = 0; k < Math.min(ours.length, theirs.length); k++) {
            if (!ours[k].equals(theirs[k])) {
                return "'" + ours[k] + "' became '" + theirs[k] + "'";
            }
        }
        return ours.length + " lines became " + theirs.length;
    }

    private int ask(String what, Question question) {
        if (shelf == null || shelf.calls >= Shelf.MOST_CALLS) {
            shelf = new Shelf();
            run.on(shelf);
        }
        int answer = question.to(shelf);
        told.append(what).append(": ").append(answer).append('\n');
        return answer;
    }

    private int askCount(int what) {
        return ask("count " + what, x -> x.count(what));
    }

    private void askLeaf(int k) {
        ask("leaf " + k, x -> x.leaf(k));
    }

    private void askShape(int what) {
        ask("shape " + what, x -> x.shape(what));
    }

    private void askBlock(int block) {
        int kind = ask("kind of " + block, x -> x.block(block, 0));
        int size = ask("size of " + block, x -> x.block(block, 1));
        ask("torn " + block, x -> x.block(block, 2));
        for (int slot = 0; slot < 6; slot++) {
            askSlot(block, slot);
        }
        for (int row = 0; kind == 2 && row < size; row++) {
            askRow(block, row);
        }
        ask("no row " + block, x -> x.row(block, kind == 2 ? size : 0, 0));
    }

    private void askSlot(int block, int slot) {
        String where = block + " " + slot;
        int node = ask("node " + where, x -> x.entry(block, slot, 0));
        if (node < 0) {
            return;
        }
        ask("hash " + where, x -> x.entry(block, slot, 1));
        int letters = ask("letters " + where, x -> x.entry(block, slot, 2));
        for (int k = 0; k < letters; k++) {
            int place = k;
            ask("letter " + where, x -> x.letter(block, slot, place));
        }
    }

    private void askRow(int block, int row) {
        for (int k = 0; k < 3; k++) {
            int what = k;
            ask("row " + block + " " + row + " " + what, x -> x.row(block, row, what));
        }
    }

    private void askReader(int reader) {
        for (int k = 0; k < 4; k++) {
            int what = k;
            ask("reader " + reader + " " + what, x -> x.reader(reader, what));
        }
        int nodes = ask("nodes " + reader, x -> x.reader(reader, 3));
        for (int k = 0; k <= nodes; k++) {
            int place = k;
            ask("batch " + reader + " " + k, x -> x.batch(reader, place));
        }
    }
}
