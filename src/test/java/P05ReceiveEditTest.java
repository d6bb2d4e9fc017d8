/** Promise 5, steps 4 to 6: erase, word erase and kill, with their rub-out. */
final class P05ReceiveEditTest {
    private static final int ERASE = 127, WERASE = 23, KILL = 21;
    private static final int ALL = 31, NO_ECHOE = 27, NO_ECHO = 29, QUIET = 25;

    public static void main(String[] args) {
        emptyLine();
        eraseOneByte();
        eraseTabs();
        eraseControlBytes();
        eraseWithoutEchoe();
        eraseWithoutEcho();
        storedWidthIsUsed();
        eraseWithoutRoom();
        wordErase();
        wordEraseRubsOut();
        wordEraseWithoutEchoe();
        kill();
        killWithoutEchoe();
        killKeepsUnitsApart();
        rubOutSkipsOnlyWhatDoesNotFit();
        rubOutAtColumnZero();
        rawModeHasNoEditing();
        Checks.end();
    }

    private static TtyDiscipline with(int flags) {
        TtyDiscipline x = Checks.fresh();
        x.setFlags(flags);
        return x;
    }

    private static void emptyLine() {
        int[] flags = {ALL, NO_ECHOE, NO_ECHO, QUIET};
        for (int f : flags) {
            TtyDiscipline x = with(f);
            Checks.type(x, "a\n");
            String before = Checks.state(x);
            Checks.due("ERASE", x.receive(ERASE), TtyDiscipline.IN_EDITED);
            Checks.due("WERASE", x.receive(WERASE), TtyDiscipline.IN_EDITED);
            Checks.due("KILL", x.receive(KILL), TtyDiscipline.IN_EDITED);
            Checks.due("empty line", Checks.state(x), before);
        }
    }

    private static void eraseOneByte() {
        TtyDiscipline x = with(ALL);
        Checks.type(x, "ab");
        Checks.due("ERASE", x.receive(ERASE), TtyDiscipline.IN_EDITED);
        Checks.due("line", Checks.line(x), "97");
        Checks.due("output", Checks.output(x), "97 98 8 32 8");
        Checks.due("column", x.query(TtyDiscipline.Q_COLUMN), 1);
        Checks.due("dropped", x.query(TtyDiscipline.Q_DROPPED), 0);
        x.receive(ERASE);
        Checks.due("line", Checks.line(x), "");
        Checks.due("column", x.query(TtyDiscipline.Q_COLUMN), 0);
    }

    private static void eraseTabs() {
        for (int before = 0; before <= 9; before++) {
            TtyDiscipline x = with(ALL);
            Checks.write(x, 'w', before);
            x.receive(9);
            int width = 8 - before % 8;
            Checks.due("column after tab", x.query(TtyDiscipline.Q_COLUMN), before + width);
            Checks.transmitAll(x);
            x.receive(ERASE);
            Checks.due("rub-out of tab at " + before, Checks.output(x), Checks.times(8, width));
            Checks.due("column", x.query(TtyDiscipline.Q_COLUMN), before);
        }
    }

    private static void eraseControlBytes() {
        int[] twoWide = {0, 1, 8, 13, 27, 31, 127};
        for (int b : twoWide) {
            TtyDiscipline x = with(ALL);
            x.setControl(TtyDiscipline.C_ERASE, '#');
            Checks.due("stored " + b, x.receive(b), TtyDiscipline.IN_STORED);
            Checks.due("echo of " + b, Checks.output(x), "94 " + (b ^ 64));
            Checks.transmitAll(x);
            x.receive('#');
            Checks.due("rub-out of " + b, Checks.output(x), "8 32 8 8 32 8");
            Checks.due("column", x.query(TtyDiscipline.Q_COLUMN), 0);
        }
        int[] oneWide = {32, 126, 128, 255};
        for (int b : oneWide) {
            TtyDiscipline x = with(ALL);
            x.receive(b);
            x.receive(ERASE);
            Checks.due("rub-out of " + b, Checks.output(x), b + " 8 32 8");
        }
    }

    private static void eraseWithoutEchoe() {
        TtyDiscipline x = with(NO_ECHOE);
        Checks.type(x, "ab");
        Checks.due("ERASE", x.receive(ERASE), TtyDiscipline.IN_EDITED);
        Checks.due("line", Checks.line(x), "97");
        Checks.due("output", Checks.output(x), "97 98 94 63");
        Checks.due("column", x.query(TtyDiscipline.Q_COLUMN), 4);
    }

    private static void eraseWithoutEcho() {
        int[] flags = {NO_ECHO, QUIET};
        for (int f : flags) {
            TtyDiscipline x = with(ALL);
            Checks.type(x, "ab cd ef");
            x.setFlags(f);
            Checks.transmitAll(x);
            x.receive(ERASE);
            Checks.due("ERASE", Checks.line(x), "97 98 32 99 100 32 101");
            x.receive(WERASE);
            Checks.due("WERASE", Checks.line(x), "97 98 32 99 100 32");
            x.receive(KILL);
            Checks.due("KILL", Checks.line(x), "");
            Checks.due("no output", Checks.output(x), "");
            Checks.due("column", x.query(TtyDiscipline.Q_COLUMN), 8);
        }
    }

    private static void storedWidthIsUsed() {
        TtyDiscipline x = with(NO_ECHO);
        x.receive('a');
        x.receive(9);
        x.setFlags(ALL);
        x.receive('b');
        x.receive(ERASE);
        x.receive(ERASE);
        x.receive(ERASE);
        Checks.due("bytes typed without echo have no width", Checks.output(x), "98 8 32 8");
        Checks.due("line", Checks.line(x), "");

        x = with(ALL);
        x.receive(9);
        Checks.write(x, 10, 1);
        Checks.write(x, 'w', 3);
        Checks.transmitAll(x);
        x.receive(ERASE);
        Checks.due("the width of the echo, not of now", Checks.output(x), Checks.times(8, 8));
        Checks.due("column stops at 0", x.query(TtyDiscipline.Q_COLUMN), 0);
    }

    private static void eraseWithoutRoom() {
        TtyDiscipline x = Checks.small();
        Checks.write(x, 'w', 31);
        Checks.type(x, "a");
        Checks.type(x, "b");
        Checks.due("full", x.query(TtyDiscipline.Q_OUTPUT_COUNT), 32);
        Checks.due("stored without echo", Checks.line(x), "97 98");
        Checks.transmitAll(x);
        x.receive(ERASE);
        Checks.due("an echo that did not fit has no width", Checks.output(x), "");
        Checks.write(x, 'w', 30);
        int column = x.query(TtyDiscipline.Q_COLUMN);
        Checks.due("ERASE", x.receive(ERASE), TtyDiscipline.IN_EDITED);
        Checks.due("removed", Checks.line(x), "");
        Checks.due("two places are too few", x.query(TtyDiscipline.Q_OUTPUT_COUNT), 30);
        Checks.due("column", x.query(TtyDiscipline.Q_COLUMN), column);

        x = Checks.small();
        x.receive('a');
        Checks.write(x, 'w', 28);
        x.receive(ERASE);
        Checks.due("three are enough", x.query(TtyDiscipline.Q_OUTPUT_COUNT), 32);
        Checks.due("last", x.outputAt(31), 8);

        x = Checks.small();
        x.receive(9);
        Checks.write(x, 'w', 24);
        x.receive(ERASE);
        Checks.due("seven are too few for a tab", x.query(TtyDiscipline.Q_OUTPUT_COUNT), 25);
        x = Checks.small();
        x.receive(9);
        Checks.write(x, 'w', 23);
        x.receive(ERASE);
        Checks.due("eight are enough", x.query(TtyDiscipline.Q_OUTPUT_COUNT), 32);

        x = Checks.small();
        x.receive(1);
        Checks.write(x, 'w', 25);
        x.receive(ERASE);
        Checks.due("five are too few for ^A", x.query(TtyDiscipline.Q_OUTPUT_COUNT), 27);
    }

    private static void wordErase() {
        String[][] cases = {{"ab", ""}, {"ab cd", "97 98 32"}, {"ab cd  ", "97 98 32"},
            {"ab\tcd\t ", "97 98 9"}, {" ", ""}, {"\t \t", ""}, {" a", "32"}, {"a b\tc.d,e", "97 32 98 9"},
            {"x\1\2 ", ""}, {"a\0b", ""}, {"a \r", "97 32"}};
        int[] flags = {ALL, NO_ECHOE, NO_ECHO, QUIET};
        for (String[] c : cases) {
            for (int f : flags) {
                TtyDiscipline x = with(f);
                Checks.type(x, c[0]);
                Checks.due("WERASE", x.receive(WERASE), TtyDiscipline.IN_EDITED);
                Checks.due("line of " + c[0], Checks.line(x), c[1]);
                Checks.due("dropped", x.query(TtyDiscipline.Q_DROPPED), 0);
            }
        }
    }

    private static void wordEraseRubsOut() {
        TtyDiscipline x = with(ALL);
        Checks.type(x, "a b\1\t ");
        Checks.transmitAll(x);
        x.receive(WERASE);
        Checks.due("space, tab, ^A, b", Checks.output(x),
            "8 32 8 " + Checks.times(8, 3) + " 8 32 8 8 32 8 8 32 8");
        Checks.due("column", x.query(TtyDiscipline.Q_COLUMN), 2);
        Checks.due("line", Checks.line(x), "97 32");
    }

    private static void wordEraseWithoutEchoe() {
        TtyDiscipline x = with(NO_ECHOE);
        Checks.type(x, "a bcd");
        Checks.transmitAll(x);
        x.receive(WERASE);
        Checks.due("echoed once", Checks.output(x), "94 87");
    }

    private static void kill() {
        TtyDiscipline x = with(ALL);
        Checks.type(x, "a b\tc");
        Checks.transmitAll(x);
        Checks.due("KILL", x.receive(KILL), TtyDiscipline.IN_EDITED);
        Checks.due("line", Checks.line(x), "");
        Checks.due("output", Checks.output(x),
            "8 32 8 " + Checks.times(8, 5) + " 8 32 8 8 32 8 8 32 8");
        Checks.due("column", x.query(TtyDiscipline.Q_COLUMN), 0);
        Checks.due("dropped", x.query(TtyDiscipline.Q_DROPPED), 0);
        Checks.due("input", Checks.input(x), "");
    }

    private static void killWithoutEchoe() {
        TtyDiscipline x = with(NO_ECHOE);
        Checks.type(x, "abc");
        Checks.due("KILL", x.receive(KILL), TtyDiscipline.IN_EDITED);
        Checks.due("line", Checks.line(x), "");
        Checks.due("output", Checks.output(x), "97 98 99 94 85 13 10");
        Checks.due("column", x.query(TtyDiscipline.Q_COLUMN), 0);
        Checks.due("no line passed", Checks.input(x), "");
    }

    private static void killKeepsUnitsApart() {
        for (int room = 0; room <= 4; room++) {
            TtyDiscipline x = Checks.small();
            x.setFlags(NO_ECHOE);
            x.receive('a');
            Checks.write(x, 'w', 31 - room);
            x.receive(KILL);
            int units = room / 2;
            Checks.due("with room " + room, x.query(TtyDiscipline.Q_OUTPUT_COUNT), 32 - room + 2 * units);
            Checks.due("line", Checks.line(x), "");
        }
        // A printable KILL needs one place, the newline two.
        TtyDiscipline x = Checks.small();
        x.setFlags(NO_ECHOE);
        x.setControl(TtyDiscipline.C_KILL, '@');
        x.receive('a');
        Checks.write(x, 'w', 29);
        x.receive('@');
        Checks.due("@ fits, newline does not", x.outputAt(30), '@');
        Checks.due("output", x.query(TtyDiscipline.Q_OUTPUT_COUNT), 31);
        // A KILL of two bytes does not fit where a newline does not fit either.
        x = Checks.small();
        x.setFlags(NO_ECHOE);
        x.receive('a');
        Checks.write(x, 'w', 30);
        x.receive(KILL);
        Checks.due("neither fits", x.query(TtyDiscipline.Q_OUTPUT_COUNT), 31);
    }

    private static void rubOutSkipsOnlyWhatDoesNotFit() {
        TtyDiscipline x = Checks.small();
        Checks.write(x, 10, 1);
        x.receive('a');
        x.receive(1);
        x.receive('b');
        Checks.due("output so far", x.query(TtyDiscipline.Q_OUTPUT_COUNT), 6);
        Checks.write(x, 'w', 18);
        x.receive(KILL);
        // 8 places: b takes 3, ^A would need 6 of the 5 left, a takes 3.
        Checks.due("output", x.query(TtyDiscipline.Q_OUTPUT_COUNT), 30);
        Checks.due("column", x.query(TtyDiscipline.Q_COLUMN), 4 + 18 - 2);
        Checks.due("line", Checks.line(x), "");
    }

    private static void rubOutAtColumnZero() {
        TtyDiscipline x = with(ALL);
        Checks.type(x, "ab");
        x.write(13);
        Checks.transmitAll(x);
        x.receive(ERASE);
        Checks.due("output", Checks.output(x), "8 32 8");
        Checks.due("column", x.query(TtyDiscipline.Q_COLUMN), 0);
    }

    private static void rawModeHasNoEditing() {
        TtyDiscipline x = with(30);
        int[] keys = {'a', ERASE, WERASE, KILL, 4, 10};
        for (int b : keys) {
            Checks.due("raw " + b, x.receive(b), TtyDiscipline.IN_STORED);
        }
        Checks.due("input", Checks.input(x), "97 127 23 21 4 10");
        Checks.due("output", Checks.output(x), "97 94 63 94 87 94 85 94 68 13 10");
    }
}
