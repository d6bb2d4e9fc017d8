/** Promise 5, steps 1 to 3: flow control and signals; and which test wins. */
final class P05ReceiveSignalTest {
    public static void main(String[] args) {
        flowControl();
        flowControlOff();
        signalFlushes();
        signalCountsOnlyBytes();
        signalEndsARead();
        signalWithoutRead();
        signalQueueIsBounded();
        signalEcho();
        signalsOff();
        intrWinsOverSusp();
        orderOfTests();
        onlyLowBitsCount();
        Checks.end();
    }

    private static void flowControl() {
        TtyDiscipline x = Checks.fresh();
        Checks.type(x, "ab");
        String before = Checks.state(x);
        Checks.due("STOP", x.receive(19), TtyDiscipline.IN_STOPPED);
        Checks.due("stopped", Checks.state(x), before.replace("q6=0", "q6=1"));
        Checks.due("STOP again", x.receive(19), TtyDiscipline.IN_STOPPED);
        Checks.due("stopped again", Checks.state(x), before.replace("q6=0", "q6=1"));
        Checks.due("typing", x.receive('c'), TtyDiscipline.IN_STORED);
        Checks.due("typing does not start", x.query(TtyDiscipline.Q_STOPPED), 1);
        x.receive(127);
        Checks.due("START", x.receive(17), TtyDiscipline.IN_STARTED);
        Checks.due("started", x.query(TtyDiscipline.Q_STOPPED), 0);
        Checks.due("START again", x.receive(17), TtyDiscipline.IN_STARTED);
        Checks.due("line", Checks.line(x), "97 98");
    }

    private static void flowControlOff() {
        TtyDiscipline x = Checks.fresh();
        x.setFlags(15);
        Checks.due("STOP is text", x.receive(19), TtyDiscipline.IN_STORED);
        Checks.due("START is text", x.receive(17), TtyDiscipline.IN_STORED);
        Checks.due("stopped", x.query(TtyDiscipline.Q_STOPPED), 0);
        Checks.due("line", Checks.line(x), "19 17");
        Checks.due("echo", Checks.output(x), "94 83 94 81");

        x = Checks.fresh();
        x.setFlags(TtyDiscipline.IXON);
        Checks.due("raw STOP", x.receive(19), TtyDiscipline.IN_STOPPED);
        Checks.due("raw START", x.receive(17), TtyDiscipline.IN_STARTED);
        Checks.due("raw input", Checks.input(x), "");
    }

    private static void signalFlushes() {
        TtyDiscipline x = Checks.fresh();
        Checks.type(x, "one\nhello\nab");
        x.startRead(4);
        x.receive(19);
        Checks.due("INTR", x.receive(3), TtyDiscipline.IN_SIGNAL);
        // The column goes on from 2: flushing does not change it.
        Checks.due("state", Checks.state(x),
            "q0=0 q1=0 q2=2 q3=4 q4=4 q5=8 q6=0 q7=31 q8=1 q9=1 q10=0 "
            + "line=; input=; output=94 67; controls=3 26 127 23 21 4 17 19 1 0; read=4");
        Checks.due("signal", x.takeSignal(), 34);
        Checks.due("user buffer stays", Checks.takeBytes(x), "111 110 101 10");
        Checks.type(x, "x");
        Checks.due("SUSP", x.receive(26), TtyDiscipline.IN_SIGNAL);
        Checks.due("signal", x.takeSignal(), 32 + 20);
        Checks.due("output", Checks.output(x), "94 90");
        Checks.due("dropped", x.query(TtyDiscipline.Q_DROPPED), 9);
    }

    private static void signalCountsOnlyBytes() {
        TtyDiscipline x = Checks.fresh();
        Checks.type(x, "a\4\4b\n\4cd");
        Checks.due("input", Checks.input(x), "97 256 256 98 10 256");
        x.receive(3);
        Checks.due("dropped", x.query(TtyDiscipline.Q_DROPPED), 5);
        Checks.due("input count", x.query(TtyDiscipline.Q_INPUT_COUNT), 0);
        x = Checks.fresh();
        x.setFlags(TtyDiscipline.ISIG);
        Checks.type(x, "abc");
        x.receive(26);
        Checks.due("raw dropped", x.query(TtyDiscipline.Q_DROPPED), 3);
        Checks.due("raw input", x.query(TtyDiscipline.Q_INPUT_COUNT), 0);
    }

    private static void signalEndsARead() {
        TtyDiscipline x = Checks.fresh();
        Checks.type(x, "ab");
        x.startRead(4);
        x.tick(3);
        x.receive(3);
        Checks.due("read", x.readStatus(), TtyDiscipline.READ_INTERRUPTED);
        Checks.due("idle stays", x.query(TtyDiscipline.Q_IDLE), 3);
        Checks.type(x, "a\n");
        Checks.due("it stays ended", x.readStatus(), TtyDiscipline.READ_INTERRUPTED);
        Checks.due("a new one", x.startRead(4), true);
        Checks.due("its count", x.readStatus(), 2);
        // With MIN 0 and TIME 0 a read that were still pending would complete.
        x = Checks.fresh();
        x.startRead(4);
        x.receive(26);
        x.setFlags(TtyDiscipline.ISIG);
        x.setControl(TtyDiscipline.C_MIN, 0);
        Checks.due("SUSP too", x.readStatus(), TtyDiscipline.READ_INTERRUPTED);
    }

    private static void signalWithoutRead() {
        TtyDiscipline x = Checks.fresh();
        x.receive(3);
        Checks.due("no read yet", x.readStatus(), TtyDiscipline.READ_NONE);
        Checks.type(x, "a\n");
        x.startRead(4);
        x.receive(3);
        Checks.due("read had ended", x.readStatus(), 2);
        Checks.due("user buffer", Checks.takeBytes(x), "97 10");
    }

    private static void signalQueueIsBounded() {
        TtyDiscipline x = Checks.fresh();
        for (int i = 1; i <= 10; i++) {
            x.setForeground(i);
            x.receive('z');
            Checks.due("signal " + i, x.receive(3), TtyDiscipline.IN_SIGNAL);
            Checks.due("signals", x.query(TtyDiscipline.Q_SIGNALS), Math.min(i, 8));
            Checks.due("flushed all the same", x.query(TtyDiscipline.Q_LINE_LENGTH), 0);
        }
        Checks.due("only bytes are counted", x.query(TtyDiscipline.Q_DROPPED), 10);
        Checks.due("signals", Checks.takeSignals(x), "34 66 98 130 162 194 226 258");
    }

    private static void signalEcho() {
        TtyDiscipline x = Checks.small();
        Checks.write(x, 'w', 32);
        x.receive(3);
        Checks.due("room after the flush", Checks.output(x), "94 67");
        Checks.due("column", x.query(TtyDiscipline.Q_COLUMN), 34);
        x.setFlags(31 & ~TtyDiscipline.ECHO);
        x.receive(3);
        Checks.due("no ECHO", Checks.output(x), "");
        x.setFlags(31);
        x.setControl(TtyDiscipline.C_INTR, 10);
        x.receive(10);
        Checks.due("newline as INTR", Checks.output(x), "13 10");
        x.setControl(TtyDiscipline.C_INTR, 9);
        x.receive(9);
        Checks.due("tab as INTR", Checks.output(x), "9");
        x.setControl(TtyDiscipline.C_SUSP, 'q');
        x.receive('q');
        Checks.due("letter as SUSP", Checks.output(x), "113");
    }

    private static void signalsOff() {
        TtyDiscipline x = Checks.fresh();
        x.setFlags(31 & ~TtyDiscipline.ISIG);
        Checks.due("INTR is text", x.receive(3), TtyDiscipline.IN_STORED);
        Checks.due("SUSP is text", x.receive(26), TtyDiscipline.IN_STORED);
        Checks.due("line", Checks.line(x), "3 26");
        Checks.due("signals", x.query(TtyDiscipline.Q_SIGNALS), 0);
    }

    private static void intrWinsOverSusp() {
        TtyDiscipline x = Checks.fresh();
        x.setControl(TtyDiscipline.C_SUSP, 3);
        x.receive(3);
        Checks.due("same key", Checks.takeSignals(x), "34");
        x.setControl(TtyDiscipline.C_INTR, -1);
        x.receive(3);
        Checks.due("INTR disabled", Checks.takeSignals(x), "52");
    }

    /** One key for ever fewer controls: the answer follows the document's order. */
    private static void orderOfTests() {
        TtyDiscipline x = Checks.fresh();
        for (int which = 0; which <= 7; which++) {
            x.setControl(which, 10);
        }
        Checks.due("STOP first", x.receive(10), TtyDiscipline.IN_STOPPED);
        x.setControl(TtyDiscipline.C_STOP, -1);
        Checks.due("then START", x.receive(10), TtyDiscipline.IN_STARTED);
        x.setControl(TtyDiscipline.C_START, -1);
        Checks.due("then INTR", x.receive(10), TtyDiscipline.IN_SIGNAL);
        x.setControl(TtyDiscipline.C_INTR, -1);
        Checks.due("then SUSP", x.receive(10), TtyDiscipline.IN_SIGNAL);
        x.setControl(TtyDiscipline.C_SUSP, -1);
        Checks.type(x, "ab cd");
        Checks.due("then ERASE", x.receive(10), TtyDiscipline.IN_EDITED);
        Checks.due("one byte", Checks.line(x), "97 98 32 99");
        x.setControl(TtyDiscipline.C_ERASE, -1);
        Checks.due("then WERASE", x.receive(10), TtyDiscipline.IN_EDITED);
        Checks.due("one word", Checks.line(x), "97 98 32");
        x.setControl(TtyDiscipline.C_WERASE, -1);
        Checks.type(x, "ef");
        Checks.due("then KILL", x.receive(10), TtyDiscipline.IN_EDITED);
        Checks.due("all", Checks.line(x), "");
        x.setControl(TtyDiscipline.C_KILL, -1);
        x.receive('g');
        Checks.due("then EOF", x.receive(10), TtyDiscipline.IN_LINE);
        Checks.due("with a mark", Checks.input(x), "103 256");
        x.setControl(TtyDiscipline.C_EOF, -1);
        Checks.due("then newline", x.receive(10), TtyDiscipline.IN_LINE);
        Checks.due("with a newline", Checks.input(x), "103 256 10");
    }

    private static void onlyLowBitsCount() {
        int[] shifts = {256, 1 << 20, Integer.MIN_VALUE, -256};
        for (int high : shifts) {
            TtyDiscipline x = Checks.fresh();
            Checks.due("letter", x.receive(high | 'a'), TtyDiscipline.IN_STORED);
            Checks.due("line", Checks.line(x), "97");
            Checks.due("ERASE", x.receive(high | 127), TtyDiscipline.IN_EDITED);
            Checks.due("STOP", x.receive(high | 19), TtyDiscipline.IN_STOPPED);
            Checks.due("START", x.receive(high | 17), TtyDiscipline.IN_STARTED);
            Checks.due("EOF", x.receive(high | 4), TtyDiscipline.IN_LINE);
            Checks.due("newline", x.receive(high | 10), TtyDiscipline.IN_LINE);
            Checks.due("INTR", x.receive(high | 3), TtyDiscipline.IN_SIGNAL);
            x.setFlags(0);
            x.receive(high | 7);
            Checks.due("raw", Checks.input(x), "7");
        }
        TtyDiscipline x = Checks.fresh();
        x.receive(TtyDiscipline.EOF_MARK);
        Checks.due("256 is the byte 0", Checks.line(x), "0");
    }
}
