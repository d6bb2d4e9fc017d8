/** Promise 5, steps 7 to 10: end of file, end of line, text, and non-canonical bytes. */
final class P05ReceiveStoreTest {
    private static final int EOF = 4;

    public static void main(String[] args) {
        endOfFile();
        endOfFileWithoutRoom();
        endOfLine();
        endOfLineWithoutRoom();
        droppedAddsUp();
        newlineWithoutEcho();
        text();
        fullLine();
        echoOfEveryByte();
        echoThatDoesNotFit();
        rawBytes();
        rawFull();
        rawResetsIdle();
        queuesGoRound();
        Checks.end();
    }

    private static void endOfFile() {
        TtyDiscipline x = Checks.fresh();
        Checks.type(x, "ab");
        Checks.due("EOF", x.receive(EOF), TtyDiscipline.IN_LINE);
        Checks.due("input", Checks.input(x), "97 98 256");
        Checks.due("line", Checks.line(x), "");
        Checks.due("no echo", Checks.output(x), "97 98");
        Checks.due("EOF on empty line", x.receive(EOF), TtyDiscipline.IN_LINE);
        Checks.due("input", Checks.input(x), "97 98 256 256");
        Checks.due("column", x.query(TtyDiscipline.Q_COLUMN), 2);
    }

    private static void endOfFileWithoutRoom() {
        for (int free = 0; free <= 4; free++) {
            TtyDiscipline x = filled(16 - free);
            Checks.type(x, "xyz");
            boolean fits = free >= 4;
            Checks.due("EOF with " + free + " free", x.receive(EOF),
                fits ? TtyDiscipline.IN_LINE : TtyDiscipline.IN_DROPPED);
            Checks.due("dropped", x.query(TtyDiscipline.Q_DROPPED), fits ? 0 : 3);
            Checks.due("input", x.query(TtyDiscipline.Q_INPUT_COUNT), fits ? 16 : 16 - free);
            Checks.due("line", Checks.line(x), "");
        }
        TtyDiscipline x = filled(16);
        Checks.due("empty line", x.receive(EOF), TtyDiscipline.IN_DROPPED);
        Checks.due("a lost mark is not counted", x.query(TtyDiscipline.Q_DROPPED), 0);
        x = filled(15);
        Checks.due("one place", x.receive(EOF), TtyDiscipline.IN_LINE);
        Checks.due("last", x.inputAt(15), 256);
    }

    /** A small object in canonical mode with n bytes in its input queue and no output. */
    private static TtyDiscipline filled(int n) {
        TtyDiscipline x = Checks.small();
        x.setFlags(0);
        for (int i = 0; i < n; i++) {
            x.receive('a' + i);
        }
        x.setFlags(31);
        return x;
    }

    private static void endOfLine() {
        TtyDiscipline x = Checks.fresh();
        Checks.type(x, "ab");
        Checks.due("newline", x.receive(10), TtyDiscipline.IN_LINE);
        Checks.due("input", Checks.input(x), "97 98 10");
        Checks.due("line", Checks.line(x), "");
        Checks.due("output", Checks.output(x), "97 98 13 10");
        Checks.due("column", x.query(TtyDiscipline.Q_COLUMN), 0);
        Checks.due("empty line", x.receive(10), TtyDiscipline.IN_LINE);
        Checks.due("input", Checks.input(x), "97 98 10 10");
        Checks.due("return is text", x.receive(13), TtyDiscipline.IN_STORED);
    }

    private static void endOfLineWithoutRoom() {
        for (int free = 0; free <= 4; free++) {
            TtyDiscipline x = filled(16 - free);
            Checks.type(x, "xyz");
            Checks.transmitAll(x);
            boolean fits = free >= 4;
            Checks.due("newline with " + free + " free", x.receive(10),
                fits ? TtyDiscipline.IN_LINE : TtyDiscipline.IN_DROPPED);
            Checks.due("dropped", x.query(TtyDiscipline.Q_DROPPED), fits ? 0 : 4);
            Checks.due("input", x.query(TtyDiscipline.Q_INPUT_COUNT), fits ? 16 : 16 - free);
            Checks.due("output", Checks.output(x), fits ? "13 10" : "");
            Checks.due("column", x.query(TtyDiscipline.Q_COLUMN), fits ? 0 : 3);
            Checks.due("line", Checks.line(x), "");
        }
        TtyDiscipline x = filled(16);
        Checks.due("empty line", x.receive(10), TtyDiscipline.IN_DROPPED);
        Checks.due("dropped", x.query(TtyDiscipline.Q_DROPPED), 1);
    }

    private static void droppedAddsUp() {
        TtyDiscipline x = filled(16);
        Checks.type(x, "ab\4");
        Checks.due("EOF", x.query(TtyDiscipline.Q_DROPPED), 2);
        Checks.type(x, "c\4");
        Checks.due("EOF again", x.query(TtyDiscipline.Q_DROPPED), 3);
        Checks.type(x, "de\n");
        Checks.due("newline", x.query(TtyDiscipline.Q_DROPPED), 6);
        Checks.type(x, "123456789");
        Checks.due("full line", x.query(TtyDiscipline.Q_DROPPED), 7);
        x.setFlags(9);
        x.setFlags(8);
        Checks.due("leaving canonical mode", x.query(TtyDiscipline.Q_DROPPED), 15);
        x.receive('z');
        Checks.due("full input", x.query(TtyDiscipline.Q_DROPPED), 16);
        x.receive(3);
        Checks.due("signal", x.query(TtyDiscipline.Q_DROPPED), 32);
    }

    private static void newlineWithoutEcho() {
        TtyDiscipline x = Checks.fresh();
        x.setFlags(31 & ~TtyDiscipline.ECHO);
        Checks.type(x, "ab\n");
        Checks.due("input", Checks.input(x), "97 98 10");
        Checks.due("output", Checks.output(x), "");
        x = Checks.small();
        Checks.write(x, 'w', 31);
        Checks.due("no room for the echo", x.receive(10), TtyDiscipline.IN_LINE);
        Checks.due("input", Checks.input(x), "10");
        Checks.due("output", x.query(TtyDiscipline.Q_OUTPUT_COUNT), 31);
        Checks.due("column", x.query(TtyDiscipline.Q_COLUMN), 31);
    }

    private static void text() {
        TtyDiscipline x = Checks.fresh();
        Checks.type(x, "ab");
        Checks.due("state", Checks.state(x),
            "q0=2 q1=0 q2=2 q3=0 q4=2 q5=0 q6=0 q7=31 q8=1 q9=0 q10=0 "
            + "line=97 98; input=; output=97 98; controls=3 26 127 23 21 4 17 19 1 0; read=-1");
    }

    private static void fullLine() {
        TtyDiscipline x = Checks.small();
        Checks.type(x, "abcdefgh");
        String before = Checks.state(x);
        Checks.due("ninth", x.receive('i'), TtyDiscipline.IN_DROPPED);
        Checks.due("state", Checks.state(x), before.replace("q5=0", "q5=1"));
        Checks.due("newline still passes", x.receive(10), TtyDiscipline.IN_LINE);
        Checks.due("input", Checks.input(x), "97 98 99 100 101 102 103 104 10");
    }

    private static void echoOfEveryByte() {
        for (int flags = 0; flags <= 1; flags++) {
            for (int b = 0; b <= 255; b++) {
                TtyDiscipline x = Checks.fresh();
                x.setFlags(TtyDiscipline.ECHO | flags);
                for (int which = 0; which <= 7; which++) {
                    x.setControl(which, -1);
                }
                Checks.write(x, 'w', 3);
                Checks.transmitAll(x);
                x.receive(b);
                String unit = b == 10 ? "13 10" : b == 9 ? "9"
                    : b < 32 || b == 127 ? "94 " + (b ^ 64) : "" + b;
                int column = b == 10 ? 0 : b == 9 ? 8 : b < 32 || b == 127 ? 5 : 4;
                Checks.due("echo of " + b, Checks.output(x), unit);
                Checks.due("column of " + b, x.query(TtyDiscipline.Q_COLUMN), column);
            }
        }
    }

    private static void echoThatDoesNotFit() {
        TtyDiscipline x = Checks.small();
        Checks.write(x, 'w', 31);
        Checks.due("^A in one place", x.receive(1), TtyDiscipline.IN_STORED);
        Checks.due("output", x.query(TtyDiscipline.Q_OUTPUT_COUNT), 31);
        Checks.due("column", x.query(TtyDiscipline.Q_COLUMN), 31);
        Checks.due("line", Checks.line(x), "1");
        x.receive('a');
        Checks.due("a in one place", x.query(TtyDiscipline.Q_OUTPUT_COUNT), 32);
        x.receive(9);
        Checks.due("tab in none", x.query(TtyDiscipline.Q_COLUMN), 32);
        Checks.due("line", Checks.line(x), "1 97 9");
        x = Checks.small();
        Checks.write(x, 'w', 30);
        x.receive(1);
        Checks.due("^A in two places", x.query(TtyDiscipline.Q_OUTPUT_COUNT), 32);
    }

    private static void rawBytes() {
        TtyDiscipline x = Checks.fresh();
        x.setFlags(TtyDiscipline.ECHO);
        Checks.due("stored", x.receive('a'), TtyDiscipline.IN_STORED);
        Checks.due("stored", x.receive(10), TtyDiscipline.IN_STORED);
        Checks.due("stored", x.receive(0), TtyDiscipline.IN_STORED);
        Checks.due("input", Checks.input(x), "97 10 0");
        Checks.due("output", Checks.output(x), "97 13 10 94 64");
        Checks.due("line", Checks.line(x), "");
        x.setFlags(0);
        x.receive('b');
        Checks.due("no ECHO", Checks.output(x), "97 13 10 94 64");
    }

    private static void rawFull() {
        TtyDiscipline x = filled(16);
        x.setFlags(TtyDiscipline.ECHO);
        String before = Checks.state(x);
        Checks.due("full", x.receive('z'), TtyDiscipline.IN_DROPPED);
        Checks.due("state", Checks.state(x), before.replace("q5=0", "q5=1"));
    }

    private static void rawResetsIdle() {
        TtyDiscipline x = Checks.small();
        x.setFlags(0);
        x.setControl(TtyDiscipline.C_MIN, 20);
        x.startRead(20);
        x.tick(6);
        x.receive('a');
        Checks.due("a stored byte resets idle", x.query(TtyDiscipline.Q_IDLE), 0);
        for (int i = 0; i < 15; i++) {
            x.receive('a');
        }
        x.tick(6);
        Checks.due("full", x.receive('a'), TtyDiscipline.IN_DROPPED);
        Checks.due("a dropped byte does not", x.query(TtyDiscipline.Q_IDLE), 6);
        Checks.due("need is above what fits", x.readStatus(), TtyDiscipline.READ_PENDING);

        x = Checks.fresh();
        x.startRead(5);
        x.tick(7);
        x.receive('a');
        Checks.due("nor a canonical one", x.query(TtyDiscipline.Q_IDLE), 7);
        x.receive(10);
        Checks.due("nor its newline", x.query(TtyDiscipline.Q_IDLE), 7);
        x.setFlags(0);
        x.receive('a');
        Checks.due("without a read too", x.query(TtyDiscipline.Q_IDLE), 0);
    }

    /** Many more bytes than places, so that every queue passes its end more than once. */
    private static void queuesGoRound() {
        TtyDiscipline x = new TtyDiscipline(11, 23, 41);
        for (int round = 0; round < 200; round++) {
            int a = 'a' + round % 26;
            Checks.type(x, "" + (char) a + (char) (a + 1) + "\t\n");
            Checks.due("input", Checks.input(x), a + " " + (a + 1) + " 9 10");
            x.startRead(2 + round % 3);
            x.startRead(2 + round % 3);
            int first = 2 + round % 3;
            Checks.due("count", x.readStatus(), first == 4 ? TtyDiscipline.READ_PENDING : 4 - first);
            if (first == 4) {
                x.receive(4);
            }
            Checks.due("user", Checks.takeBytes(x), a + " " + (a + 1) + " 9 10");
            Checks.due("output", Checks.transmitAll(x), a + " " + (a + 1) + " 9 13 10");
        }
    }
}
