import java.util.function.Consumer;

/** The boundary cases of promise 5, steps 4 to 6: ERASE, WERASE and KILL. */
final class E05EditTest {
    private static final int ERASE = 127, WERASE = 23, KILL = 21;
    private static final int ALL = 31, NO_ECHOE = 27, NO_ECHO = 29, QUIET = 25;
    private static final int[] MODES = {ALL, NO_ECHOE, NO_ECHO, QUIET};

    public static void main(String[] args) {
        Checks.sentence("Step 4: IN_EDITED (also when the line is empty, then no change).",
            () -> emptyLine(ERASE));
        Checks.sentence("Step 4: if the line is not empty, its last byte e is removed", E05EditTest::eraseRemoves);
        Checks.sentence("Step 4: if ECHOE is set, e is rubbed out, else b is echoed "
            + "(the byte is removed either way).", E05EditTest::eraseEchoes);
        Checks.sentence("Step 4: if ECHOE is set, e is rubbed out (the byte that was removed, with its own width)",
            E05EditTest::eraseUsesItsOwnByte);

        Checks.sentence("Step 5: IN_EDITED (also when empty, then no change).", () -> emptyLine(WERASE));
        Checks.sentence("Step 5: remove last bytes while the last is 32 or 9, then while the last is neither "
            + "32 nor 9 (the line may become empty)", E05EditTest::wordRemoves);
        Checks.sentence("Step 5: if ECHOE is set, each removed byte is rubbed out in order of removal",
            E05EditTest::wordRubsOutInOrder);
        Checks.sentence("Step 5: else b is echoed once (the bytes are removed either way).",
            E05EditTest::wordEchoesOnce);

        Checks.sentence("Step 6: IN_EDITED (also when empty, then no change).", () -> emptyLine(KILL));
        Checks.sentence("Step 6: all bytes are removed from the end until the line is empty",
            E05EditTest::killRemoves);
        Checks.sentence("Step 6: if ECHOE is set each is rubbed out in order of removal",
            E05EditTest::killRubsOutInOrder);
        Checks.sentence("Step 6: else (line still emptied) b is echoed and then 10 is echoed, as two separate units.",
            E05EditTest::killEchoesTwoUnits);

        Checks.sentence("Each echo or rub-out is a unit that is appended whole or not at all",
            E05EditTest::eachIsAUnit);
        Checks.sentence("a unit that does not fit leaves output and column unchanged while the rest of the step "
            + "still happens.", E05EditTest::restHappens);
        Checks.end();
    }

    /** An empty line at the start, after erasing, after a finished line, after a signal. */
    private static void emptyLine(int key) {
        for (int mode : MODES) {
            emptyLine(key, mode, x -> { });
            emptyLine(key, mode, x -> Checks.type(x, "ab\177\177"));
            emptyLine(key, mode, x -> Checks.type(x, "ab\4"));
            emptyLine(key, mode, x -> Checks.type(x, "ab\ncd\n"));
            emptyLine(key, mode, x -> Checks.type(x, "ab\3"));
            emptyLine(key, mode, x -> Checks.leaveRoom(x, 64, 1));
            emptyLine(key, mode, x -> x.startRead(5));
        }
    }

    private static void emptyLine(int key, int mode, Consumer<TtyDiscipline> before) {
        Checks.unchanged("key " + key + " on an empty line with flags " + mode, () -> {
            TtyDiscipline x = Checks.fresh();
            before.accept(x);
            x.setFlags(mode);
            return x;
        }, x -> Checks.due("receive(" + key + ")", x.receive(key), TtyDiscipline.IN_EDITED));
    }

    // ---- ERASE ----

    private static void eraseRemoves() {
        int[] caps = {8, 9, 31, 32};
        for (int mode : MODES) {
            for (int lineCap : caps) {
                TtyDiscipline x = new TtyDiscipline(lineCap, 16, 32);
                x.setFlags(mode);
                for (int i = 0; i < lineCap; i++) {
                    x.receive('A' + i);
                }
                for (int left = lineCap - 1; left >= 0; left--) {
                    Checks.due("ERASE", x.receive(ERASE), TtyDiscipline.IN_EDITED);
                    Checks.due("line", Checks.line(x), Checks.row('A', left));
                }
                Checks.due("dropped", x.query(TtyDiscipline.Q_DROPPED), 0);
                Checks.due("a new byte", x.receive('z'), TtyDiscipline.IN_STORED);
                Checks.due("line", Checks.line(x), "122");
            }
        }
    }

    private static void edited(int mode, String text, int key, String line, String output) {
        TtyDiscipline x = Checks.fresh();
        Checks.type(x, text);
        Checks.transmitAll(x);
        x.setFlags(mode);
        String what = "key " + key + " with flags " + mode + ": ";
        Checks.due(what + "answer", x.receive(key), TtyDiscipline.IN_EDITED);
        Checks.due(what + "line", Checks.line(x), line);
        Checks.due(what + "output", Checks.output(x), output);
    }

    private static void eraseEchoes() {
        edited(ALL, "ab", ERASE, "97", "8 32 8");
        edited(NO_ECHOE, "ab", ERASE, "97", "94 63");
        edited(NO_ECHO, "ab", ERASE, "97", "");
        edited(QUIET, "ab", ERASE, "97", "");
        edited(ALL, "a", ERASE, "", "8 32 8");
        edited(NO_ECHOE, "a", ERASE, "", "94 63");
    }

    private static void eraseUsesItsOwnByte() {
        TtyDiscipline x = Checks.fresh();
        Checks.type(x, "ab\t\1c");
        String[] units = {"8 32 8", "8 32 8 8 32 8", Checks.times(8, 6), "8 32 8", "8 32 8"};
        for (String unit : units) {
            Checks.transmitAll(x);
            x.receive(ERASE);
            Checks.due("rub-out", Checks.output(x), unit);
        }
        Checks.due("column", x.query(TtyDiscipline.Q_COLUMN), 0);
        // A place that held a wide byte before takes the width of its new byte.
        x = Checks.fresh();
        x.receive(9);
        x.receive(ERASE);
        x.setFlags(NO_ECHO);
        x.receive('a');
        x.setFlags(ALL);
        Checks.transmitAll(x);
        x.receive(ERASE);
        Checks.due("typed without echo where a tab stood", Checks.output(x), "");
    }

    // ---- WERASE ----

    private static void wordRemoves() {
        String full = "aaaaaaaaaaaaaaaabbbbbbbbbbbbbbbb";
        String[][] cases = {
            {"a", ""}, {" ", ""}, {"\t", ""}, {"  \t \t", ""}, {"a ", ""}, {"ab\t", ""}, {" a", "32"},
            {"\ta", "9"}, {"a b", "97 32"}, {"a\tb", "97 9"}, {"a b ", "97 32"}, {"a  b", "97 32 32"},
            {"a b \t ", "97 32"}, {"a \t b", "97 32 9 32"}, {"a\rb", ""}, {"a\0b", ""}, {"a \1\2", "97 32"},
            {"a\13b\14c", ""}, {"a \u00a0", "97 32"}, {full, ""}, {full.replace('b', ' '), ""},
            {full.replace('a', ' '), Checks.times(32, 16)}};
        for (String[] c : cases) {
            for (int mode : MODES) {
                TtyDiscipline x = Checks.fresh();
                x.setFlags(mode);
                Checks.type(x, c[0]);
                Checks.due("WERASE", x.receive(WERASE), TtyDiscipline.IN_EDITED);
                Checks.due("line of [" + c[0] + "]", Checks.line(x), c[1]);
                Checks.due("dropped", x.query(TtyDiscipline.Q_DROPPED), 0);
                Checks.due("input", x.query(TtyDiscipline.Q_INPUT_COUNT), 0);
            }
        }
        TtyDiscipline x = Checks.fresh();
        Checks.type(x, "a b c");
        int[] lengths = {4, 2, 0, 0};
        for (int length : lengths) {
            x.receive(WERASE);
            Checks.due("again and again", x.query(TtyDiscipline.Q_LINE_LENGTH), length);
        }
    }

    private static void wordRubsOutInOrder() {
        edited(ALL, "a b\1\t ", WERASE, "97 32", Checks.join("8 32 8", Checks.times(8, 3),
            "8 32 8 8 32 8", "8 32 8"));
        edited(ALL, "\t", WERASE, "", Checks.times(8, 8));
        edited(ALL, "x\1", WERASE, "", "8 32 8 8 32 8 8 32 8");
        edited(NO_ECHO, "a b\1\t ", WERASE, "97 32", "");
    }

    private static void wordEchoesOnce() {
        edited(NO_ECHOE, "a bcd  ", WERASE, "97 32", "94 87");
        edited(NO_ECHOE, "a", WERASE, "", "94 87");
        edited(QUIET, "a bcd  ", WERASE, "97 32", "");
    }

    // ---- KILL ----

    private static void killRemoves() {
        int[] caps = {8, 32};
        for (int mode : MODES) {
            for (int lineCap : caps) {
                for (int length = 1; length <= lineCap; length++) {
                    TtyDiscipline x = new TtyDiscipline(lineCap, 16, 32);
                    x.setFlags(mode);
                    for (int i = 0; i < length; i++) {
                        x.receive(i % 3 == 0 ? ' ' : 'a');
                    }
                    Checks.due("KILL", x.receive(KILL), TtyDiscipline.IN_EDITED);
                    Checks.due("line length", x.query(TtyDiscipline.Q_LINE_LENGTH), 0);
                    Checks.due("lineAt(0)", x.lineAt(0), -1);
                    Checks.due("dropped", x.query(TtyDiscipline.Q_DROPPED), 0);
                    Checks.due("input", x.query(TtyDiscipline.Q_INPUT_COUNT), 0);
                }
            }
        }
    }

    private static void killRubsOutInOrder() {
        edited(ALL, "a", KILL, "", "8 32 8");
        edited(ALL, "a \1\tb", KILL, "", Checks.join("8 32 8", Checks.times(8, 4), "8 32 8 8 32 8",
            "8 32 8", "8 32 8"));
        edited(NO_ECHO, "a \1\tb", KILL, "", "");
    }

    private static void killEchoesTwoUnits() {
        edited(NO_ECHOE, "a", KILL, "", "94 85 13 10");
        edited(NO_ECHOE, "a b c", KILL, "", "94 85 13 10");
        edited(QUIET, "a b c", KILL, "", "");
        int[][] rooms = {{0, 0, 0}, {1, 1, 0}, {2, 1, 2}, {3, 3, 2}, {4, 3, 4}, {5, 3, 4}};
        for (int[] r : rooms) {
            Checks.due("KILL is @, room " + r[0], killed('@', r[0]), r[1]);
            Checks.due("KILL is ^U, room " + r[0], killed(KILL, r[0]), r[2]);
        }
    }

    /** How many bytes the echo of KILL adds when the output queue has so much room. */
    private static int killed(int key, int room) {
        TtyDiscipline x = Checks.small();
        x.setFlags(NO_ECHOE);
        x.setControl(TtyDiscipline.C_KILL, key);
        x.receive('a');
        Checks.leaveRoom(x, 32, room);
        Checks.due("KILL", x.receive(key), TtyDiscipline.IN_EDITED);
        Checks.due("line", Checks.line(x), "");
        return x.query(TtyDiscipline.Q_OUTPUT_COUNT) - (32 - room);
    }

    // ---- units ----

    /** Where a wide byte does not fit, a narrow one behind it still may. */
    private static void eachIsAUnit() {
        int[] keys = {KILL, WERASE};
        for (int key : keys) {
            for (int room = 0; room <= 12; room++) {
                TtyDiscipline x = Checks.small();
                Checks.type(x, "a\1b");
                Checks.leaveRoom(x, 32, room);
                int column = x.query(TtyDiscipline.Q_COLUMN);
                x.receive(key);
                int left = room;
                int columns = 0;
                int[] widths = {1, 2, 1};
                for (int width : widths) {
                    if (left >= 3 * width) {
                        left -= 3 * width;
                        columns += width;
                    }
                }
                String what = "key " + key + " with room " + room + ": ";
                Checks.due(what + "output", x.query(TtyDiscipline.Q_OUTPUT_COUNT), 32 - left);
                Checks.due(what + "column", x.query(TtyDiscipline.Q_COLUMN), column - columns);
                Checks.due(what + "line", Checks.line(x), "");
            }
        }
        // Eight places: b takes three, ^A needs six of the five left, a takes three.
        TtyDiscipline x = Checks.small();
        Checks.type(x, "a\1b");
        Checks.leaveRoom(x, 32, 8);
        x.receive(KILL);
        Checks.due("output", x.query(TtyDiscipline.Q_OUTPUT_COUNT), 30);
    }

    private static void restHappens() {
        int[] keys = {ERASE, WERASE, KILL};
        int[] modes = {ALL, NO_ECHOE};
        String[] lines = {"97 32", "97 32", ""};
        for (int k = 0; k < keys.length; k++) {
            for (int mode : modes) {
                for (int room = 0; room <= 1; room++) {
                    TtyDiscipline x = Checks.small();
                    Checks.type(x, "a b");
                    x.setFlags(mode);
                    Checks.leaveRoom(x, 32, room);
                    String output = Checks.output(x);
                    Checks.due("key " + keys[k], x.receive(keys[k]), TtyDiscipline.IN_EDITED);
                    Checks.due("line", Checks.line(x), lines[k]);
                    Checks.due("output", Checks.output(x), output);
                    Checks.due("column", x.query(TtyDiscipline.Q_COLUMN), 32 - room);
                }
            }
        }
    }
}
