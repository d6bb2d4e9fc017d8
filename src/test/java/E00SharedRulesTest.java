import java.util.function.Consumer;
import java.util.function.IntUnaryOperator;

/** The boundary cases of BYTES, COLUMN, UNITS, ECHO and RUB OUT, sentence by sentence. */
final class E00SharedRulesTest {
    private static final int ERASE = 127;
    private static final int[] HIGH = {256, -256, 1 << 20, Integer.MIN_VALUE, Integer.MAX_VALUE - 255};

    public static void main(String[] args) {
        Checks.sentence("Every argument named c is used only as its low 8 bits: b = c & 255. (receive)",
            E00SharedRulesTest::lowBitsOfReceive);
        Checks.sentence("Every argument named c is used only as its low 8 bits: b = c & 255. (write)",
            E00SharedRulesTest::lowBitsOfWrite);
        Checks.sentence("For INTR through STOP, -1 means disabled and never matches a byte.",
            E00SharedRulesTest::disabledMatchesNoByte);

        Checks.sentence("8: minus 1 if column > 0", E00SharedRulesTest::backspace);
        Checks.sentence("9: column + 8 - column % 8", E00SharedRulesTest::tab);
        Checks.sentence("10 or 13: 0", E00SharedRulesTest::newlineAndReturn);
        Checks.sentence("32..126 and 128..255: plus 1", E00SharedRulesTest::printing);
        Checks.sentence("any other: unchanged", E00SharedRulesTest::otherBytes);
        Checks.sentence("Transmitting or flushing never changes column.", E00SharedRulesTest::leavingBytes);

        Checks.sentence("if its length is at most outCap minus the output count, all its bytes are appended "
            + "in order (column updated per byte); otherwise nothing is appended and nothing changes.",
            E00SharedRulesTest::units);

        Checks.sentence("b == 10 gives [13,10]; b == 9 gives [9]; b in 32..126 or 128..255 gives [b]; "
            + "any other b gives [94, b ^ 64] (so 127 gives '^','?').", E00SharedRulesTest::echoUnits);
        Checks.sentence("if ECHO is set, append the echo unit of b; else nothing.",
            E00SharedRulesTest::echoFlag);
        Checks.sentence("Its width is the column after minus the column before", E00SharedRulesTest::widths);
        Checks.sentence("(0 when ECHO is clear ...", E00SharedRulesTest::widthWithoutEcho);
        Checks.sentence("... or the unit was not appended).", E00SharedRulesTest::widthWithoutRoom);

        Checks.sentence("e == 9 gives w bytes 8", E00SharedRulesTest::rubOutTab);
        Checks.sentence("any other e gives w copies of the three bytes 8,32,8",
            E00SharedRulesTest::rubOutOther);
        Checks.sentence("(empty when w == 0)", E00SharedRulesTest::rubOutNothing);
        Checks.sentence("if ECHO and ECHOE are both set, append the erase unit of e; else nothing.",
            E00SharedRulesTest::rubOutFlags);
        Checks.end();
    }

    /** A new object whose column is n and whose output queue is empty. */
    private static TtyDiscipline at(int n) {
        TtyDiscipline x = Checks.fresh();
        for (int i = 0; i < n; i++) {
            x.write('w');
            x.transmit();
        }
        return x;
    }

    private static void column(String what, TtyDiscipline x, int due) {
        Checks.due(what + ": column", x.query(TtyDiscipline.Q_COLUMN), due);
    }

    // ---- BYTES ----

    private static void lowBitsOfReceive() {
        int[] modes = {31, 30, 0, 1};
        for (int flags : modes) {
            for (int b = 0; b <= 255; b++) {
                for (int high : HIGH) {
                    TtyDiscipline plain = typed(flags), wide = typed(flags);
                    int due = plain.receive(b);
                    Checks.due("receive(" + (high + b) + ")", wide.receive(high + b), due);
                    Checks.due("state", Checks.state(wide), Checks.state(plain));
                }
            }
        }
        TtyDiscipline x = Checks.fresh();
        x.receive(-1);
        x.receive(256);
        Checks.due("-1 is 255, 256 is 0 and no mark", Checks.line(x), "255 0");
    }

    private static TtyDiscipline typed(int flags) {
        TtyDiscipline x = Checks.fresh();
        x.setFlags(flags);
        Checks.type(x, "ab cd");
        return x;
    }

    private static void lowBitsOfWrite() {
        for (int b = 0; b <= 255; b++) {
            for (int high : HIGH) {
                TtyDiscipline plain = at(3), wide = at(3);
                plain.write(b);
                Checks.due("write(" + (high + b) + ")", wide.write(high + b), true);
                Checks.due("state", Checks.state(wide), Checks.state(plain));
            }
        }
    }

    private static void disabledMatchesNoByte() {
        int[] modes = {31, 30};
        for (int flags : modes) {
            for (int which = TtyDiscipline.C_INTR; which <= TtyDiscipline.C_STOP; which++) {
                TtyDiscipline x = Checks.fresh();
                x.setFlags(flags);
                int old = x.getControl(which);
                Checks.due("setControl(" + which + ", -1)", x.setControl(which, -1), true);
                int[] bytes = {255, -1, old, 0};
                for (int b : bytes) {
                    Checks.due("control " + which + " disabled, receive(" + b + ")", x.receive(b),
                        TtyDiscipline.IN_STORED);
                }
                Checks.due("all were stored", x.query(TtyDiscipline.Q_LINE_LENGTH)
                    + x.query(TtyDiscipline.Q_INPUT_COUNT), 4);
            }
        }
    }

    // ---- COLUMN ----

    private static void backspace() {
        int[][] cases = {{0, 0}, {1, 0}, {2, 1}, {8, 7}, {64, 63}};
        for (int[] c : cases) {
            TtyDiscipline x = at(c[0]);
            x.write(8);
            column("8 at " + c[0], x, c[1]);
        }
        TtyDiscipline x = at(1);
        x.write(8);
        x.write(8);
        x.write('a');
        column("8 8 a at 1", x, 1);
    }

    private static void tab() {
        int[][] cases = {{0, 8}, {1, 8}, {6, 8}, {7, 8}, {8, 16}, {9, 16}, {15, 16}, {16, 24}, {63, 64}, {64, 72}};
        for (int[] c : cases) {
            TtyDiscipline x = at(c[0]);
            x.write(9);
            column("9 at " + c[0], x, c[1]);
        }
    }

    private static void newlineAndReturn() {
        int[] columns = {0, 1, 8, 70};
        for (int n : columns) {
            TtyDiscipline x = at(n);
            x.write(13);
            column("13 at " + n, x, 0);
            x = at(n);
            x.write(10);
            column("10 at " + n, x, 0);
        }
    }

    private static void printing() {
        for (int b = 32; b <= 255; b++) {
            if (b != 127) {
                TtyDiscipline x = at(7);
                x.write(b);
                column(b + " at 7", x, 8);
            }
        }
    }

    private static void otherBytes() {
        for (int b = 0; b <= 127; b++) {
            boolean other = b <= 7 || b == 11 || b == 12 || b >= 14 && b <= 31 || b == 127;
            if (other) {
                TtyDiscipline x = at(7);
                x.write(b);
                column(b + " at 7", x, 7);
                Checks.due("it is appended", Checks.output(x), "" + b);
            }
        }
    }

    private static void leavingBytes() {
        int[][] cases = {{'a', 6}, {8, 4}, {9, 8}, {13, 0}, {0, 5}};
        for (int[] c : cases) {
            TtyDiscipline x = at(5);
            x.write(c[0]);
            Checks.due("transmit()", x.transmit(), c[0]);
            column("transmitted " + c[0], x, c[1]);

            x = at(5);
            x.setFlags(31 & ~TtyDiscipline.ECHO);
            x.write(c[0]);
            x.receive(3);
            Checks.due("flushed", x.query(TtyDiscipline.Q_OUTPUT_COUNT), 0);
            column("flushed " + c[0], x, c[1]);
        }
    }

    // ---- UNITS ----

    private static void units() {
        unit("write(a)", x -> { }, x -> x.write('a'), "97", n -> n + 1);
        unit("write(8)", x -> { }, x -> x.write(8), "8", n -> n - 1);
        unit("write(9)", x -> { }, x -> x.write(9), "9", n -> n + 8 - n % 8);
        unit("write(10)", x -> { }, x -> x.write(10), "13 10", n -> 0);
        unit("echo of a", x -> { }, x -> x.receive('a'), "97", n -> n + 1);
        unit("echo of 9", x -> { }, x -> x.receive(9), "9", n -> n + 8 - n % 8);
        unit("echo of 1", x -> { }, x -> x.receive(1), "94 65", n -> n + 2);
        unit("echo of 10", x -> { }, x -> x.receive(10), "13 10", n -> 0);
        unit("rub-out of a", x -> x.receive('a'), x -> x.receive(ERASE), "8 32 8", n -> n - 1);
        unit("rub-out of 1", x -> x.receive(1), x -> x.receive(ERASE), "8 32 8 8 32 8", n -> n - 2);
        for (int width = 1; width <= 8; width++) {
            int w = width;
            unit("rub-out of a tab of " + w, x -> tabOf(x, w), x -> x.receive(ERASE), Checks.times(8, w), n -> n - w);
        }
    }

    private static void tabOf(TtyDiscipline x, int width) {
        Checks.write(x, 13, 1);
        Checks.write(x, 'w', 8 - width);
        x.receive(9);
    }

    /** Tries the unit with every room from none to one more than it needs, and at several places. */
    private static void unit(String what, Consumer<TtyDiscipline> before, Consumer<TtyDiscipline> call,
            String unit, IntUnaryOperator columnAfter) {
        int length = unit.split(" ").length;
        int[] caps = {32, 33, 47, 63, 64};
        int[] turns = {0, 1, 30, 63};
        for (int outCap : caps) {
            for (int turn : turns) {
                for (int room = 0; room <= length + 1; room++) {
                    TtyDiscipline x = new TtyDiscipline(16, 32, outCap);
                    before.accept(x);
                    Checks.transmitAll(x);
                    for (int i = 0; i < turn; i++) {
                        x.write('t');
                        x.transmit();
                    }
                    Checks.leaveRoom(x, outCap, room);
                    String output = Checks.output(x);
                    int column = x.query(TtyDiscipline.Q_COLUMN);
                    call.accept(x);
                    boolean fits = room >= length;
                    String where = what + " with room " + room + " of " + outCap;
                    Checks.due(where, Checks.output(x), fits ? output + " " + unit : output);
                    column(where, x, fits ? columnAfter.applyAsInt(column) : column);
                    Checks.due(where + " dropped", x.query(TtyDiscipline.Q_DROPPED), 0);
                }
            }
        }
    }

    // ---- ECHO ----

    private static TtyDiscipline withoutKeys(int flags) {
        TtyDiscipline x = Checks.fresh();
        x.setFlags(flags);
        for (int which = TtyDiscipline.C_INTR; which <= TtyDiscipline.C_STOP; which++) {
            x.setControl(which, -1);
        }
        return x;
    }

    private static void echoUnits() {
        int[] modes = {31, 30};
        for (int flags : modes) {
            for (int b = 0; b <= 255; b++) {
                TtyDiscipline x = withoutKeys(flags);
                x.receive(b);
                String unit = "" + b;
                if (b == 10) {
                    unit = "13 10";
                } else if (b <= 31 && b != 9) {
                    unit = "94 " + (b + 64);
                } else if (b == 127) {
                    unit = "94 63";
                }
                Checks.due("echo of " + b, Checks.output(x), unit);
            }
        }
    }

    private static void echoFlag() {
        for (int flags = 0; flags < 32; flags++) {
            boolean echoes = (flags & TtyDiscipline.ECHO) != 0;
            int[] bytes = {'a', 9, 1, 10, 3, 26};
            for (int b : bytes) {
                TtyDiscipline x = Checks.fresh();
                x.setFlags(flags);
                x.receive(b);
                Checks.due("receive(" + b + ") with flags " + flags,
                    x.query(TtyDiscipline.Q_OUTPUT_COUNT) > 0, echoes);
                if (!echoes) {
                    column("no echo", x, 0);
                }
            }
        }
    }

    /** Types the byte at a column, and answers the rub-out of it: that is where its width shows. */
    private static String rubOutOf(int b, int column) {
        TtyDiscipline x = at(column);
        x.setControl(TtyDiscipline.C_ERASE, '#');
        x.receive(b);
        Checks.transmitAll(x);
        x.receive('#');
        return Checks.output(x);
    }

    private static void widths() {
        int[] ones = {32, 'a', 126, 128, 255};
        for (int b : ones) {
            Checks.due("one wide: " + b, rubOutOf(b, 5), "8 32 8");
        }
        int[] twos = {0, 7, 8, 13, 31, 127};
        for (int b : twos) {
            Checks.due("two wide: " + b, rubOutOf(b, 5), "8 32 8 8 32 8");
            Checks.due("two wide at column 0: " + b, rubOutOf(b, 0), "8 32 8 8 32 8");
        }
        for (int n = 0; n <= 17; n++) {
            Checks.due("tab at " + n, rubOutOf(9, n), Checks.times(8, 8 - n % 8));
        }
    }

    private static void widthWithoutEcho() {
        int[] bytes = {'a', 1, 9, 255};
        for (int b : bytes) {
            TtyDiscipline x = at(5);
            x.setFlags(31 & ~TtyDiscipline.ECHO);
            x.receive(b);
            x.setFlags(31);
            x.receive(ERASE);
            Checks.due("rub-out of " + b + ", typed without ECHO", Checks.output(x), "");
            column("no echo", x, 5);
        }
    }

    private static void widthWithoutRoom() {
        int[][] cases = {{'a', 0}, {9, 0}, {1, 0}, {1, 1}, {127, 1}, {255, 0}};
        for (int[] c : cases) {
            TtyDiscipline x = Checks.small();
            x.setControl(TtyDiscipline.C_ERASE, '#');
            Checks.leaveRoom(x, 32, c[1]);
            x.receive(c[0]);
            Checks.due("line", Checks.line(x), "" + c[0]);
            Checks.transmitAll(x);
            x.receive('#');
            Checks.due("rub-out of " + c[0] + ", typed with room " + c[1], Checks.output(x), "");
        }
    }

    // ---- RUB OUT ----

    private static void rubOutTab() {
        for (int width = 1; width <= 8; width++) {
            TtyDiscipline x = Checks.fresh();
            tabOf(x, width);
            Checks.transmitAll(x);
            x.receive(ERASE);
            Checks.due("rub-out of a tab of " + width, Checks.output(x), Checks.times(8, width));
            column("back before the tab", x, 8 - width);
        }
        TtyDiscipline x = Checks.fresh();
        x.receive(9);
        Checks.write(x, 13, 1);
        Checks.transmitAll(x);
        x.receive(ERASE);
        Checks.due("at column 0 too", Checks.output(x), Checks.times(8, 8));
        column("it stays at 0", x, 0);
    }

    private static void rubOutOther() {
        int[] columns = {0, 1, 7, 8};
        for (int n : columns) {
            Checks.due("one copy", rubOutOf('a', n), "8 32 8");
            Checks.due("a space is no tab", rubOutOf(' ', n), "8 32 8");
            Checks.due("a backspace is no tab", rubOutOf(8, n), "8 32 8 8 32 8");
        }
        TtyDiscipline x = Checks.fresh();
        x.receive(1);
        Checks.write(x, 13, 1);
        Checks.transmitAll(x);
        x.receive(ERASE);
        Checks.due("at column 0 too", Checks.output(x), "8 32 8 8 32 8");
        column("8 32 8 from 0 ends at 0", x, 0);
    }

    private static void rubOutNothing() {
        for (int room = 0; room <= 1; room++) {
            TtyDiscipline x = Checks.small();
            x.setFlags(31 & ~TtyDiscipline.ECHO);
            Checks.type(x, "a\t\1");
            x.setFlags(31);
            Checks.leaveRoom(x, 32, room);
            String output = Checks.output(x);
            for (int left = 2; left >= 0; left--) {
                Checks.due("ERASE", x.receive(ERASE), TtyDiscipline.IN_EDITED);
                Checks.due("line", x.query(TtyDiscipline.Q_LINE_LENGTH), left);
                Checks.due("output", Checks.output(x), output);
                column("width 0", x, 32 - room);
            }
        }
    }

    private static void rubOutFlags() {
        int both = TtyDiscipline.ECHO | TtyDiscipline.ECHOE;
        for (int flags = 1; flags < 32; flags += 2) {
            int[] bytes = {'a', 9};
            for (int b : bytes) {
                TtyDiscipline x = Checks.fresh();
                x.receive(b);
                Checks.transmitAll(x);
                x.setFlags(flags);
                x.receive(ERASE);
                String due = b == 9 ? Checks.times(8, 8) : "8 32 8";
                if ((flags & both) != both) {
                    due = (flags & TtyDiscipline.ECHO) != 0 ? "94 63" : "";
                }
                Checks.due("ERASE of " + b + " with flags " + flags, Checks.output(x), due);
                Checks.due("removed", Checks.line(x), "");
            }
        }
    }
}
