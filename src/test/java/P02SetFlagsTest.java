/** Promise 2: setFlags and what leaving canonical mode and flow control does. */
final class P02SetFlagsTest {
    private static final int ALL = 31, RAW = 30;

    public static void main(String[] args) {
        otherBitsAreIgnored();
        leavingCanonicalMovesTheLine();
        leavingCanonicalRemovesMarks();
        leavingCanonicalCountsWhatDoesNotFit();
        roomOfRemovedMarksIsUsed();
        enteringCanonicalMovesNothing();
        clearingIxonStarts();
        nothingElseChanges();
        completionCheckRuns();
        Checks.end();
    }

    private static void otherBitsAreIgnored() {
        TtyDiscipline x = Checks.fresh();
        for (int f = 0; f < 32; f++) {
            x.setFlags(f);
            Checks.due("flags " + f, x.query(TtyDiscipline.Q_FLAGS), f);
        }
        int[] wide = {-1, 32, 63, Integer.MIN_VALUE, Integer.MAX_VALUE, 1 << 16 | 5, -32};
        for (int f : wide) {
            x.setFlags(f);
            Checks.due("flags " + f, x.query(TtyDiscipline.Q_FLAGS), f & 31);
        }
    }

    private static void leavingCanonicalMovesTheLine() {
        TtyDiscipline x = Checks.fresh();
        Checks.type(x, "one\ntwo");
        x.setFlags(RAW);
        Checks.due("input", Checks.input(x), "111 110 101 10 116 119 111");
        Checks.due("line", Checks.line(x), "");
        Checks.due("dropped", x.query(TtyDiscipline.Q_DROPPED), 0);
    }

    private static void leavingCanonicalRemovesMarks() {
        TtyDiscipline x = Checks.fresh();
        Checks.type(x, "\4a\4b\n\4\4c");
        Checks.due("input before", Checks.input(x), "256 97 256 98 10 256 256");
        x.setFlags(RAW);
        Checks.due("input", Checks.input(x), "97 98 10 99");
        Checks.due("dropped", x.query(TtyDiscipline.Q_DROPPED), 0);

        x = Checks.fresh();
        Checks.type(x, "a\4b");
        x.setFlags(ALL);
        Checks.due("canonical stays: input", Checks.input(x), "97 256");
        Checks.due("canonical stays: line", Checks.line(x), "98");
    }

    private static void leavingCanonicalCountsWhatDoesNotFit() {
        TtyDiscipline x = Checks.small();
        Checks.type(x, "abcdef\nghijk\n");
        Checks.type(x, "12345678");
        x.setFlags(RAW);
        Checks.due("input", Checks.input(x), "97 98 99 100 101 102 10 103 104 105 106 107 10 49 50 51");
        Checks.due("dropped", x.query(TtyDiscipline.Q_DROPPED), 5);
        Checks.due("line", x.query(TtyDiscipline.Q_LINE_LENGTH), 0);
    }

    private static void roomOfRemovedMarksIsUsed() {
        TtyDiscipline x = Checks.small();
        for (int i = 0; i < 16; i++) {
            x.receive(4);
        }
        Checks.due("full of marks", x.query(TtyDiscipline.Q_INPUT_COUNT), 16);
        Checks.type(x, "abc");
        x.setFlags(0);
        Checks.due("input", Checks.input(x), "97 98 99");
        Checks.due("dropped", x.query(TtyDiscipline.Q_DROPPED), 0);
    }

    private static void enteringCanonicalMovesNothing() {
        TtyDiscipline x = Checks.fresh();
        x.setFlags(RAW);
        Checks.type(x, "ab");
        x.setFlags(ALL);
        Checks.due("input", Checks.input(x), "97 98");
        Checks.due("line", Checks.line(x), "");
        Checks.due("output", Checks.output(x), "97 98");
    }

    private static void clearingIxonStarts() {
        TtyDiscipline x = Checks.fresh();
        x.receive(19);
        x.setFlags(ALL);
        Checks.due("IXON stays set", x.query(TtyDiscipline.Q_STOPPED), 1);
        x.setFlags(TtyDiscipline.IXON);
        Checks.due("only IXON stays set", x.query(TtyDiscipline.Q_STOPPED), 1);
        x.setFlags(ALL & ~TtyDiscipline.IXON);
        Checks.due("IXON clear", x.query(TtyDiscipline.Q_STOPPED), 0);
        x.setFlags(ALL);
        Checks.due("IXON set again", x.query(TtyDiscipline.Q_STOPPED), 0);
    }

    private static void nothingElseChanges() {
        TtyDiscipline x = Checks.fresh();
        x.setForeground(7);
        x.receive(3);
        Checks.type(x, "ab\tc");
        x.startRead(5);
        x.tick(4);
        String before = Checks.state(x);
        x.setFlags(ALL);
        Checks.due("same flags", Checks.state(x), before);
        x.setControl(TtyDiscipline.C_MIN, 9);
        x.setFlags(RAW);
        Checks.due("leaving canonical", Checks.state(x), before
            .replace("q0=4 q1=0", "q0=0 q1=4").replace("q7=31", "q7=30")
            .replace("line=97 98 9 99; input=", "line=; input=97 98 9 99")
            .replace("19 1 0", "19 9 0"));
        Checks.due("signals", Checks.takeSignals(x), "" + (7 * 32 + 2));
    }

    private static void completionCheckRuns() {
        TtyDiscipline x = Checks.fresh();
        Checks.type(x, "abc");
        x.startRead(2);
        Checks.due("canonical", x.readStatus(), TtyDiscipline.READ_PENDING);
        x.setFlags(RAW);
        Checks.due("raw", x.readStatus(), 2);
        Checks.due("bytes", Checks.takeBytes(x), "97 98");
        Checks.due("rest", Checks.input(x), "99");

        x = Checks.fresh();
        x.setFlags(RAW);
        x.setControl(TtyDiscipline.C_MIN, 5);
        Checks.type(x, "a\nb");
        x.startRead(9);
        Checks.due("raw waits", x.readStatus(), TtyDiscipline.READ_PENDING);
        x.setFlags(ALL);
        Checks.due("canonical ends it", x.readStatus(), 2);
        Checks.due("its bytes", Checks.takeBytes(x), "97 10");
    }
}
