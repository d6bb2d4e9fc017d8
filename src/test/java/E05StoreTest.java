/** The boundary cases of promise 5, steps 7 to 10: EOF, newline, a byte of the line, a raw byte. */
final class E05StoreTest {
    private static final int EOF = 4;
    private static final int QUIET = 25;

    public static void main(String[] args) {
        Checks.sentence("Step 7: if inCap - input count >= len + 1, the line's bytes and then EOF_MARK are appended "
            + "to the input queue, IN_LINE; else dropped += len, IN_DROPPED.", () -> endings(EOF));
        Checks.sentence("Step 7: The line empties either way. No echo.", E05StoreTest::noEchoOfEof);
        Checks.sentence("Step 7: An empty line with room yields just EOF_MARK.", E05StoreTest::emptyLineAndEof);
        Checks.sentence("Step 8: if inCap - input count >= len + 1, the line's bytes then 10 are appended to the input "
            + "queue, ... IN_LINE; else dropped += len + 1, ... IN_DROPPED.", () -> endings(10));
        Checks.sentence("Step 8: 10 is echoed ...; else ... no echo", E05StoreTest::echoOfNewline);
        Checks.sentence("Step 8: The line empties either way. (an empty line)", E05StoreTest::emptyLineAndNewline);
        Checks.sentence("Steps 7 and 8 count marks in the input queue as entries", E05StoreTest::marksTakePlaces);
        Checks.sentence("Step 9: if the line holds lineCap bytes, dropped += 1, IN_DROPPED", E05StoreTest::lineFull);
        Checks.sentence("Step 9: else b is echoed and b is appended to the line with that echo's width, IN_STORED.",
            E05StoreTest::storedWithoutRoom);
        Checks.sentence("Step 9: a full line is still edited, ended and flushed", E05StoreTest::keysOnAFullLine);
        Checks.sentence("Step 10: If the input queue is full, dropped += 1, IN_DROPPED", E05StoreTest::inputFull);
        Checks.sentence("Step 10: else b is appended to the input queue, idle = 0, b is echoed, IN_STORED.",
            E05StoreTest::rawByte);
        Checks.sentence("Step 10: with ICANON clear no byte edits or ends a line", E05StoreTest::rawKeys);
        Checks.sentence("Then, in every case, the completion check runs.", E05StoreTest::completionCheck);
        Checks.end();
    }

    // ---- the end of a line ----

    private static void endings(int ending) {
        int[] caps = {16, 17, 33, 63, 64};
        int[] lengths = {0, 1, 2, 7, 15, 16, 31, 32};
        for (int inCap : caps) {
            for (int length : lengths) {
                for (int room = 0; room <= inCap; room++) {
                    if (room <= 1 || Math.abs(room - length) <= 2 || room == inCap) {
                        ending(ending, inCap, length, room);
                    }
                }
            }
        }
    }

    private static void ending(int ending, int inCap, int length, int room) {
        TtyDiscipline x = new TtyDiscipline(32, inCap, 32);
        x.setFlags(QUIET);
        Checks.turnInput(x, 45);
        Checks.putInput(x, 0, inCap - room);
        for (int i = 0; i < length; i++) {
            x.receive(128 + i);
        }
        boolean fits = room >= length + 1;
        String what = "receive(" + ending + ") with line " + length + " and room " + room + " of " + inCap + ": ";
        Checks.due(what, x.receive(ending), fits ? TtyDiscipline.IN_LINE : TtyDiscipline.IN_DROPPED);
        String queue = Checks.row(0, inCap - room);
        String added = Checks.join(Checks.row(128, length), ending == EOF ? "256" : "10");
        Checks.due(what + "input", Checks.input(x), fits ? Checks.join(queue, added) : queue);
        int lost = ending == EOF ? length : length + 1;
        Checks.due(what + "dropped", x.query(TtyDiscipline.Q_DROPPED), fits ? 0 : lost);
        Checks.due(what + "line", x.query(TtyDiscipline.Q_LINE_LENGTH), 0);
        x.receive('z');
        Checks.due(what + "the next line", Checks.line(x), "122");
    }

    /** A small object with so many bytes in its input queue and nothing in its output queue. */
    private static TtyDiscipline filled(int n) {
        TtyDiscipline x = Checks.small();
        Checks.putInput(x, 'A', n);
        return x;
    }

    private static void noEchoOfEof() {
        int[] counts = {0, 16};
        for (int n : counts) {
            TtyDiscipline x = filled(n);
            Checks.type(x, "ab");
            x.receive(EOF);
            Checks.due("output", Checks.output(x), "97 98");
            Checks.due("column", x.query(TtyDiscipline.Q_COLUMN), 2);
            Checks.due("line", Checks.line(x), "");
            x.receive(EOF);
            Checks.due("output", Checks.output(x), "97 98");
        }
        TtyDiscipline x = filled(16);
        Checks.type(x, "ab\4c\4\4");
        Checks.due("what is lost adds up", x.query(TtyDiscipline.Q_DROPPED), 3);
    }

    private static void emptyLineAndEof() {
        TtyDiscipline x = filled(15);
        Checks.due("one place", x.receive(EOF), TtyDiscipline.IN_LINE);
        Checks.due("input", Checks.input(x), Checks.row('A', 15) + " 256");
        Checks.due("none", x.receive(EOF), TtyDiscipline.IN_DROPPED);
        Checks.due("a lost mark is not counted", x.query(TtyDiscipline.Q_DROPPED), 0);
        Checks.due("input", Checks.input(x), Checks.row('A', 15) + " 256");
        x = filled(0);
        Checks.due("empty", x.receive(EOF), TtyDiscipline.IN_LINE);
        Checks.due("just the mark", Checks.input(x), "256");
    }

    private static void echoOfNewline() {
        TtyDiscipline x = filled(13);
        Checks.type(x, "ab");
        x.receive(10);
        Checks.due("with room", Checks.output(x), "97 98 13 10");
        Checks.due("column", x.query(TtyDiscipline.Q_COLUMN), 0);
        x = filled(14);
        Checks.type(x, "ab");
        x.receive(10);
        Checks.due("without room", Checks.output(x), "97 98");
        Checks.due("column", x.query(TtyDiscipline.Q_COLUMN), 2);
        for (int room = 0; room <= 2; room++) {
            x = filled(0);
            Checks.type(x, "ab");
            Checks.leaveRoom(x, 32, room);
            Checks.due("the line passes", x.receive(10), TtyDiscipline.IN_LINE);
            Checks.due("input", Checks.input(x), "97 98 10");
            Checks.due("echo with room " + room, x.query(TtyDiscipline.Q_OUTPUT_COUNT), room == 2 ? 32 : 32 - room);
            Checks.due("column", x.query(TtyDiscipline.Q_COLUMN), room == 2 ? 0 : 32 - room);
        }
    }

    private static void emptyLineAndNewline() {
        TtyDiscipline x = filled(15);
        Checks.due("one place", x.receive(10), TtyDiscipline.IN_LINE);
        Checks.due("input", Checks.input(x), Checks.row('A', 15) + " 10");
        Checks.due("none", x.receive(10), TtyDiscipline.IN_DROPPED);
        Checks.due("a lost newline is counted", x.query(TtyDiscipline.Q_DROPPED), 1);
        Checks.due("none again", x.receive(10), TtyDiscipline.IN_DROPPED);
        Checks.due("it adds up", x.query(TtyDiscipline.Q_DROPPED), 2);
    }

    private static void marksTakePlaces() {
        TtyDiscipline x = Checks.small();
        for (int i = 0; i < 14; i++) {
            x.receive(EOF);
        }
        Checks.type(x, "ab");
        Checks.due("two places for three entries", x.receive(10), TtyDiscipline.IN_DROPPED);
        Checks.due("dropped", x.query(TtyDiscipline.Q_DROPPED), 3);
        Checks.type(x, "a");
        Checks.due("two places for two entries", x.receive(EOF), TtyDiscipline.IN_LINE);
        Checks.due("input", Checks.input(x), Checks.times(256, 14) + " 97 256");
    }

    // ---- a byte of the line ----

    private static void lineFull() {
        for (int lineCap = 8; lineCap <= 32; lineCap++) {
            TtyDiscipline x = new TtyDiscipline(lineCap, 16, 64);
            for (int i = 0; i < lineCap; i++) {
                Checks.due("byte " + i + " of " + lineCap, x.receive('A' + i), TtyDiscipline.IN_STORED);
            }
            String before = Checks.state(x);
            for (int more = 1; more <= 3; more++) {
                Checks.due("one more than " + lineCap, x.receive('z'), TtyDiscipline.IN_DROPPED);
                Checks.due("no echo, the line stays", Checks.state(x), before.replace("q5=0", "q5=" + more));
            }
        }
    }

    private static void storedWithoutRoom() {
        int[][] cases = {{'a', 0}, {9, 0}, {1, 0}, {1, 1}};
        for (int[] c : cases) {
            TtyDiscipline x = Checks.small();
            Checks.leaveRoom(x, 32, c[1]);
            Checks.due("receive(" + c[0] + ")", x.receive(c[0]), TtyDiscipline.IN_STORED);
            Checks.due("line", Checks.line(x), "" + c[0]);
            Checks.due("output", x.query(TtyDiscipline.Q_OUTPUT_COUNT), 32 - c[1]);
            Checks.due("column", x.query(TtyDiscipline.Q_COLUMN), 32 - c[1]);
            Checks.due("dropped", x.query(TtyDiscipline.Q_DROPPED), 0);
        }
    }

    private static void keysOnAFullLine() {
        int[][] cases = {{127, TtyDiscipline.IN_EDITED, 7}, {23, TtyDiscipline.IN_EDITED, 0},
            {21, TtyDiscipline.IN_EDITED, 0}, {EOF, TtyDiscipline.IN_LINE, 0}, {10, TtyDiscipline.IN_LINE, 0},
            {3, TtyDiscipline.IN_SIGNAL, 0}, {26, TtyDiscipline.IN_SIGNAL, 0}, {19, TtyDiscipline.IN_STOPPED, 8},
            {17, TtyDiscipline.IN_STARTED, 8}, {'z', TtyDiscipline.IN_DROPPED, 8}};
        for (int[] c : cases) {
            TtyDiscipline x = Checks.small();
            Checks.type(x, "abcdefgh");
            Checks.due("receive(" + c[0] + ")", x.receive(c[0]), c[1]);
            Checks.due("line length", x.query(TtyDiscipline.Q_LINE_LENGTH), c[2]);
        }
    }

    // ---- a raw byte ----

    private static void inputFull() {
        for (int inCap = 16; inCap <= 64; inCap++) {
            TtyDiscipline x = new TtyDiscipline(8, inCap, 64);
            Checks.turnInput(x, 40);
            x.setFlags(TtyDiscipline.ECHO);
            for (int i = 0; i < inCap; i++) {
                Checks.due("byte " + i + " of " + inCap, x.receive('A' + i), TtyDiscipline.IN_STORED);
                x.transmit();
            }
            String before = Checks.state(x);
            for (int more = 1; more <= 3; more++) {
                Checks.due("one more than " + inCap, x.receive('z'), TtyDiscipline.IN_DROPPED);
                Checks.due("no echo, the queue stays", Checks.state(x), before.replace("q5=0", "q5=" + more));
            }
            Checks.due("input", Checks.input(x), Checks.row('A', inCap));
        }
        TtyDiscipline x = Checks.small();
        x.setFlags(0);
        x.setControl(TtyDiscipline.C_MIN, 17);
        x.startRead(17);
        Checks.putInput(x, 0, 16);
        x.tick(6);
        x.receive('z');
        Checks.due("a dropped byte leaves idle", x.query(TtyDiscipline.Q_IDLE), 6);
    }

    private static void rawByte() {
        TtyDiscipline x = Checks.small();
        x.setFlags(TtyDiscipline.ECHO);
        Checks.putInput(x, 'A', 15);
        x.setControl(TtyDiscipline.C_MIN, 17);
        x.startRead(17);
        x.tick(6);
        Checks.due("the last place", x.receive('z'), TtyDiscipline.IN_STORED);
        Checks.due("idle", x.query(TtyDiscipline.Q_IDLE), 0);
        Checks.due("output", Checks.output(x), "122");
        Checks.due("input", Checks.input(x), Checks.row('A', 15) + " 122");
        int[][] cases = {{'a', 0}, {9, 0}, {10, 1}, {1, 1}};
        for (int[] c : cases) {
            x = Checks.small();
            x.setFlags(TtyDiscipline.ECHO);
            Checks.leaveRoom(x, 32, c[1]);
            Checks.due("no room for the echo of " + c[0], x.receive(c[0]), TtyDiscipline.IN_STORED);
            Checks.due("input", Checks.input(x), "" + c[0]);
            Checks.due("output", x.query(TtyDiscipline.Q_OUTPUT_COUNT), 32 - c[1]);
            Checks.due("column", x.query(TtyDiscipline.Q_COLUMN), 32 - c[1]);
        }
    }

    private static void rawKeys() {
        int[] keys = {127, 23, 21, EOF, 10};
        for (int key : keys) {
            TtyDiscipline x = Checks.fresh();
            x.setFlags(30);
            Checks.type(x, "a b");
            Checks.due("raw " + key, x.receive(key), TtyDiscipline.IN_STORED);
            Checks.due("input", Checks.input(x), "97 32 98 " + key);
            Checks.due("line", x.query(TtyDiscipline.Q_LINE_LENGTH), 0);
        }
    }

    private static void completionCheck() {
        TtyDiscipline x = Checks.fresh();
        x.startRead(9);
        Checks.due("newline", x.receive(10), TtyDiscipline.IN_LINE);
        Checks.due("result", x.readStatus(), 1);
        x.startRead(9);
        Checks.due("EOF", x.receive(EOF), TtyDiscipline.IN_LINE);
        Checks.due("result", x.readStatus(), 0);
        x.setFlags(0);
        x.startRead(9);
        Checks.due("raw", x.receive('a'), TtyDiscipline.IN_STORED);
        Checks.due("result", x.readStatus(), 1);
        Checks.due("the answer is still that of the step", x.query(TtyDiscipline.Q_INPUT_COUNT), 0);
    }
}
