/** Of each call that may throw: which of several exceptions goes first, and that all else stays as it was. */
public final class ThrowSentences {
    private static final Sentences S = new Sentences(4, 7, 8, 9, 10, 11, 12, 13, 14, 15, 16, 17, 18, 19, 21, 22, 23, 24, 25,
        26, 27);
    private static final String REST_STAYS = "a call that throws changes nothing but the TAPE, where it is used up, fault(),"
        + " where a text is read, and WHY, where an ACT is refused";
    private static final String FIRST = "Of several exceptions the one told first is thrown";
    private static final String NAMES = "NAMES by calls are told on the TAPE: a text of one NAME, or of two (blanks between,"
        + " ahead, behind): it is wrong as above.";
    private static final int SAME = Sentences.SAME;
    /** Each with WHY 4 and fault 0 ahead of the call. */
    private static final Whole.Run[] RUNS = {ThrowSentences::empty, Prepared::lived, Prepared::torn, Prepared::livedFull};

    private ThrowSentences() {
    }

    private static void empty(Shelf x) {
        x.cut("q");
        x.find("1", 0);
    }

    /** A call without a text that is no ACT, or not a refused one. */
    private static void thrown(String what, int exception, Whole.Question call) {
        for (Whole.Run run : RUNS) {
            S.callLeavesRest(what, run, call, exception, SAME);
        }
    }

    private static void thrownByText(String what, int exception, int why, int fault, Whole.Question call) {
        for (Whole.Run run : RUNS) {
            S.textLeavesRest(what, run, call, exception, why, fault);
        }
    }

    private static void acts() {
        S.of(4, REST_STAYS, () -> {
            thrownByText("a wrong byte", Shelf.IAE, SAME, 1, x -> x.acts(" ?"));
            thrownByText("a wrong number", Shelf.IAE, SAME, 5, x -> x.acts("bits 13"));
            thrownByText("more must come", Shelf.IAE, SAME, 4, x -> x.acts("turn"));
            thrownByText("4", Shelf.IAE, 4, 0, x -> x.acts("cut nosuch"));
            thrownByText("5", Shelf.IAE, 5, 1, x -> x.acts(" tear 39"));
            S.textLeavesRest("1", Prepared::lived, x -> x.acts("key 5;put a 1"), Shelf.IAE, 1, 6);
            S.textLeavesRest("2", Prepared::torn, x -> x.acts("cut a;put a 1"), Shelf.IAE, 2, 6);
            S.textLeavesRest("3", Prepared::livedFull, x -> x.acts("tear 0;build"), Shelf.IAE, 3, 7);
        });
    }

    private static void put() {
        S.of(7, REST_STAYS, () -> {
            thrownByText("no NODE", Shelf.IAE, SAME, SAME, x -> x.put("a", -1));
            thrownByText("no NODE", Shelf.IAE, SAME, SAME, x -> x.put("a", 1000));
            thrownByText("a wrong text", Shelf.IAE, SAME, 1, x -> x.put("a?", 0));
            S.textLeavesRest("1", Prepared::lived, x -> x.put("a", 0), Shelf.ISE, 1, -1);
            S.textLeavesRest("2", Prepared::torn, x -> x.put("nosuch", 0), Shelf.ISE, 2, -1);
            S.textLeavesRest("3", Prepared::livedFull, x -> x.put("nosuch", 0), Shelf.ISE, 3, -1);
        });
        S.of(7, FIRST, () -> {
            thrownByText("no NODE, and a wrong text", Shelf.IAE, SAME, SAME, x -> x.put("?", 1000));
            thrownByText("no NODE, and refused", Shelf.IAE, SAME, SAME, x -> x.put("a", 1000));
            thrownByText("a wrong text of what is refused", Shelf.IAE, SAME, 2, x -> x.put("a a", 1));
        });
        S.of(7, NAMES, () -> {
            Shelf x = new Shelf();
            S.due("blanks ahead and behind", 0, x.put("   a   ", 1));
            S.due("none", 0, x.put("b", 2));
            x.tape(" ".repeat(392) + "abcdefgh");
            S.due("at the end of the TAPE", 0, x.put(3));
            S.due("its letters", 8, x.entry(0, 2, 2));
            S.due("its last letter", 'h', x.letter(0, 2, 7));
            wrongNames("", (y, text) -> y.put(text, 1));
        });
    }

    private interface Told {
        int by(Shelf x, String text);
    }

    /** The text of a NAME that is wrong, behind what is right. */
    private static void wrongNames(String ahead, Told call) {
        String[] texts = {"", "    ", "a b", "a;", "a\t", "\ta", "a\u0000", "a1", "1a", "abcdefghi", "  abcdefghi", "a  b  ", "@",
            "[", "`", "{", " ".repeat(399) + "?", " ".repeat(391) + "abcdefghi", " ".repeat(400)};
        int[] faults = {0, 4, 2, 1, 1, 0, 1, 1, 0, 0, 2, 3, 0, 0, 0, 0, 399, 391, 400};
        for (int k = 0; k < texts.length; k++) {
            String text = ahead + texts[k];
            if (text.length() <= 400) {
                Shelf x = after(Prepared::lived);
                S.due("'" + text + "'", Shelf.IAE, call.by(x, text));
                S.due("fault of '" + text + "'", ahead.length() + faults[k], x.fault());
                S.due("why of '" + text + "'", 4, x.why());
            }
        }
    }

    private static Shelf after(Whole.Run run) {
        Shelf x = new Shelf();
        run.on(x);
        return x;
    }

    private static void cutAndTurn() {
        S.of(8, REST_STAYS, () -> {
            thrownByText("a wrong text", Shelf.IAE, SAME, 1, x -> x.cut("a?"));
            thrownByText("4", Shelf.ISE, 4, -1, x -> x.cut("nosuch"));
        });
        S.of(8, NAMES, () -> {
            Shelf x = after(Prepared::six);
            S.due("blanks", 1, x.cut("   a   "));
            wrongNames("", Shelf::cut);
        });
        S.of(9, REST_STAYS, () -> {
            thrownByText("a wrong text", Shelf.IAE, SAME, 3, x -> x.turn("a b?"));
            thrownByText("4", Shelf.ISE, 4, -1, x -> x.turn("nosuch a"));
            S.textLeavesRest("1", Prepared::lived, x -> x.turn("a c"), Shelf.ISE, 1, -1);
            S.textLeavesRest("2", Prepared::torn, x -> x.turn("a nosuch"), Shelf.ISE, 2, -1);
            String last = Prepared.otherName(4095);
            S.textLeavesRest("3", Prepared::livedFull, x -> x.turn(Prepared.nameOf(0) + " " + last), Shelf.ISE, 3, -1);
        });
        S.of(9, NAMES, () -> {
            Shelf x = after(Prepared::six);
            S.due("blanks", 1, x.turn("   a   A   "));
            x.tape("A" + " ".repeat(391) + "abcdefgh");
            S.due("up to the end of the TAPE", 1, x.turn());
            S.due("its last letter", 'h', x.letter(0, 0, 7));
            wrongNames("a ", Shelf::turn);
            wrongNames("  nosuch  ", Shelf::turn);
            S.due("a blank must be between", Shelf.IAE, x.turn("bc"));
            S.due("fault", 2, x.fault());
            S.due("nothing else may be", Shelf.IAE, x.turn("b;c"));
            S.due("fault", 1, x.fault());
            S.due("the second one", Shelf.IAE, x.turn("b  abcdefghi"));
            S.due("fault", 3, x.fault());
            S.due("a third one", Shelf.IAE, x.turn("b c  d"));
            S.due("fault", 5, x.fault());
        });
    }

    private static void buildToUndo() {
        S.of(10, REST_STAYS, () -> S.callLeavesRest("3", Prepared::livedFull, x -> x.build(), Shelf.ISE, 3));
        S.of(11, REST_STAYS, () -> {
            thrown("another what", Shelf.NSE, x -> x.tune(3, 0));
            thrown("no BITS", Shelf.IAE, x -> x.tune(0, 0));
            thrown("no KEY", Shelf.IAE, x -> x.tune(1, 65536));
            thrown("no FOLD", Shelf.IAE, x -> x.tune(2, 2));
            S.callLeavesRest("1", Prepared::lived, x -> x.tune(2, 1), Shelf.ISE, 1);
            S.callLeavesRest("3", Prepared::livedFull, x -> x.tune(0, 6), Shelf.ISE, 3);
            S.callLeavesRest("3", Prepared::livedFull, x -> x.tune(1, 2), Shelf.ISE, 3);
            S.callLeavesRest("3", Prepared::livedFull, x -> x.tune(2, 1), Shelf.ISE, 3);
        });
        S.of(11, FIRST, () -> {
            thrown("another what, and n is none", Shelf.NSE, x -> x.tune(-1, -1));
            thrown("another what, and n is none", Shelf.NSE, x -> x.tune(3, 65536));
            thrown("n is none, and it cannot be", Shelf.IAE, x -> x.tune(0, 13));
        });
        S.of(12, REST_STAYS, () -> {
            thrown("no BLOCK", Shelf.IOOBE, x -> x.tear(-1));
            thrown("no BLOCK", Shelf.IOOBE, x -> x.tear(40));
            for (Whole.Run run : RUNS) {
                S.callLeavesRest("5", run, x -> x.tear(39), Shelf.ISE, 5);
            }
        });
        S.of(12, FIRST, () -> thrown("no BLOCK, so no INDEX", Shelf.IOOBE, x -> x.tear(Integer.MIN_VALUE)));
        S.of(13, REST_STAYS, () -> S.callLeavesRest("none", ThrowSentences::empty, x -> x.undo(), Shelf.ISE, SAME));
    }

    private static void findAndWay() {
        S.of(14, REST_STAYS, () -> {
            thrownByText("another what", Shelf.NSE, SAME, SAME, x -> x.find("a", -1));
            thrownByText("another what", Shelf.NSE, SAME, SAME, x -> x.find("a", 9));
            thrownByText("a wrong text", Shelf.IAE, SAME, 1, x -> x.find("a?", 8));
        });
        S.of(14, FIRST, () -> thrownByText("another what, and a wrong text", Shelf.NSE, SAME, SAME, x -> x.find("?", 9)));
        S.of(14, NAMES, () -> {
            S.due("blanks", 1, after(Prepared::six).find("   a   ", 0));
            for (int k = 0; k < 9; k++) {
                int what = k;
                wrongNames("", (x, text) -> x.find(text, what));
            }
        });
        S.of(15, REST_STAYS, () -> thrownByText("a wrong text", Shelf.IAE, SAME, 1, x -> x.way("a?", 0)));
        S.of(15, NAMES, () -> {
            S.due("blanks", 2, after(Prepared::seven).way("   a   ", 1));
            wrongNames("", (x, text) -> x.way(text, 0));
        });
    }

    private static void questions() {
        S.of(16, REST_STAYS, () -> {
            thrown("no BLOCK", Shelf.IOOBE, x -> x.block(40, 0));
            thrown("another what", Shelf.NSE, x -> x.block(39, 3));
        });
        S.of(16, FIRST, () -> thrown("no BLOCK, and another what", Shelf.IOOBE, x -> x.block(-1, -1)));
        S.of(17, REST_STAYS, () -> {
            thrown("no BLOCK", Shelf.IOOBE, x -> x.entry(40, 0, 0));
            thrown("no SLOT", Shelf.IOOBE, x -> x.entry(0, 6, 0));
            thrown("another what", Shelf.NSE, x -> x.entry(39, 5, 3));
        });
        S.of(17, FIRST, () -> {
            thrown("no BLOCK, and another what", Shelf.IOOBE, x -> x.entry(-1, 0, -1));
            thrown("no SLOT, and another what", Shelf.IOOBE, x -> x.entry(1, 6, 3));
        });
        S.of(18, REST_STAYS, () -> {
            thrown("no BLOCK", Shelf.IOOBE, x -> x.letter(40, 0, 0));
            thrown("no SLOT", Shelf.IOOBE, x -> x.letter(0, -1, 0));
        });
        S.of(19, REST_STAYS, () -> {
            thrown("no BLOCK", Shelf.IOOBE, x -> x.row(40, 0, 0));
            thrown("no INDEX", Shelf.IOOBE, x -> x.row(1, 0, 0));
            thrown("no ROW", Shelf.IOOBE, x -> x.row(0, 5, 0));
            S.changesNothing("another what", Prepared::lived, x -> x.row(0, 0, 3), Shelf.NSE);
        });
        S.of(19, FIRST, () -> {
            thrown("no BLOCK, and another what", Shelf.IOOBE, x -> x.row(-1, 0, 3));
            thrown("no INDEX, and another what", Shelf.IOOBE, x -> x.row(39, 0, 3));
            thrown("no ROW, and another what", Shelf.IOOBE, x -> x.row(0, 5, -1));
        });
        S.of(21, REST_STAYS, () -> thrown("another what", Shelf.NSE, x -> x.shape(9)));
        S.of(22, REST_STAYS, () -> thrown("no KEY", Shelf.IAE, x -> x.crowds(65536)));
        S.of(23, REST_STAYS, () -> {
            thrown("no KEY", Shelf.IAE, x -> x.best(-1, 1));
            thrown("n is none", Shelf.IAE, x -> x.best(0, 21));
            thrown("neither", Shelf.IAE, x -> x.best(65536, 0));
        });
    }

    private static void readers() {
        S.of(24, REST_STAYS, () -> thrown("no READER", Shelf.IOOBE, x -> x.open(4, true)));
        S.of(25, REST_STAYS, () -> {
            thrown("no READER", Shelf.IOOBE, x -> x.next(4));
            thrown("not OPEN", Shelf.ISE, x -> x.next(3));
        });
        S.of(25, FIRST, () -> thrown("no READER, so not OPEN", Shelf.IOOBE, x -> x.next(-1)));
        S.of(26, REST_STAYS, () -> {
            thrown("no READER", Shelf.IOOBE, x -> x.reader(4, 0));
            thrown("another what", Shelf.NSE, x -> x.reader(3, 4));
        });
        S.of(26, FIRST, () -> thrown("no READER, and another what", Shelf.IOOBE, x -> x.reader(-1, -1)));
        S.of(27, REST_STAYS, () -> thrown("no READER", Shelf.IOOBE, x -> x.batch(4, 0)));
    }

    public static void main(String[] args) {
        acts();
        put();
        cutAndTurn();
        buildToUndo();
        findAndWay();
        questions();
        readers();
        S.end();
    }
}
