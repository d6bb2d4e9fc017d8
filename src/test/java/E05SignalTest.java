import java.util.Map;
import java.util.function.Supplier;

/** The boundary cases of promise 5, steps 1 to 3, and of its closing sentences. */
final class E05SignalTest {
    private static final int INTR = 3, SUSP = 26, START = 17, STOP = 19;

    public static void main(String[] args) {
        Checks.sentence("The first matching test wins", E05SignalTest::firstMatchWins);
        Checks.sentence("IXON set and b == STOP: stopped = true; IN_STOPPED.", E05SignalTest::stop);
        Checks.sentence("IXON set and b == START: stopped = false; IN_STARTED.", E05SignalTest::start);
        Checks.sentence("IXON set (else the keys are bytes)", E05SignalTest::withoutIxon);
        Checks.sentence("ISIG set (else the keys are bytes)", E05SignalTest::withoutIsig);
        Checks.sentence("(so INTR wins when both controls hold the same value)", E05SignalTest::intrWins);
        Checks.sentence("if the signal queue holds fewer than 8, foreground * 32 + s is enqueued (else it is lost).",
            E05SignalTest::signalQueueFull);
        Checks.sentence("dropped += len + the number of input entries that are not EOF_MARK",
            E05SignalTest::droppedBySignal);
        Checks.sentence("the edit line, input queue and output queue are emptied", E05SignalTest::emptied);
        Checks.sentence("stopped = false (by a signal)", E05SignalTest::signalStarts);
        Checks.sentence("if a read is pending it ends (pending false, last result READ_INTERRUPTED)",
            E05SignalTest::endsARead);
        Checks.sentence("if none is pending, last result is unchanged", E05SignalTest::noReadToEnd);
        Checks.sentence("then echo b.", E05SignalTest::echoAfterTheFlush);
        Checks.sentence("The user buffer is untouched.", E05SignalTest::userBuffer);
        Checks.sentence("MIN and TIME are never compared with b.", E05SignalTest::minAndTimeAreNoKeys);
        Checks.sentence("Nothing not named in a step changes", E05SignalTest::nothingElse);
        Checks.end();
    }

    private static void firstMatchWins() {
        int[] bytes = {10, 0, 'a', 255};
        for (int b : bytes) {
            TtyDiscipline x = Checks.fresh();
            for (int which = TtyDiscipline.C_INTR; which <= TtyDiscipline.C_STOP; which++) {
                x.setControl(which, b);
            }
            Checks.due("STOP", x.receive(b), TtyDiscipline.IN_STOPPED);
            x.setControl(TtyDiscipline.C_STOP, -1);
            Checks.due("START", x.receive(b), TtyDiscipline.IN_STARTED);
            x.setControl(TtyDiscipline.C_START, -1);
            Checks.due("INTR", x.receive(b), TtyDiscipline.IN_SIGNAL);
            Checks.due("its signal", x.takeSignal(), 34);
            x.setControl(TtyDiscipline.C_INTR, -1);
            Checks.due("SUSP", x.receive(b), TtyDiscipline.IN_SIGNAL);
            Checks.due("its signal", x.takeSignal(), 52);
            x.setControl(TtyDiscipline.C_SUSP, -1);
            Checks.type(x, "xx yy zz");
            Checks.due("ERASE", x.receive(b), TtyDiscipline.IN_EDITED);
            Checks.due("one byte", x.query(TtyDiscipline.Q_LINE_LENGTH), 7);
            x.setControl(TtyDiscipline.C_ERASE, -1);
            Checks.due("WERASE", x.receive(b), TtyDiscipline.IN_EDITED);
            Checks.due("one word", x.query(TtyDiscipline.Q_LINE_LENGTH), 6);
            x.setControl(TtyDiscipline.C_WERASE, -1);
            Checks.due("KILL", x.receive(b), TtyDiscipline.IN_EDITED);
            Checks.due("the line", x.query(TtyDiscipline.Q_LINE_LENGTH), 0);
            x.setControl(TtyDiscipline.C_KILL, -1);
            Checks.due("EOF", x.receive(b), TtyDiscipline.IN_LINE);
            Checks.due("a mark", Checks.input(x), "256");
            x.setControl(TtyDiscipline.C_EOF, -1);
            Checks.due("a newline or a byte", x.receive(b),
                b == 10 ? TtyDiscipline.IN_LINE : TtyDiscipline.IN_STORED);
        }
    }

    private static void stop() {
        for (int flags = TtyDiscipline.IXON; flags < 32; flags++) {
            TtyDiscipline x = Checks.fresh();
            x.setFlags(flags);
            x.write('a');
            String before = Checks.state(x);
            for (int times = 1; times <= 2; times++) {
                Checks.due("STOP", x.receive(STOP), TtyDiscipline.IN_STOPPED);
                Checks.due("only stopped", Checks.state(x), before.replace("q6=0", "q6=1"));
            }
        }
        TtyDiscipline x = Checks.small();
        Checks.putInput(x, 0, 16);
        Checks.type(x, "abcdefgh");
        x.startRead(3);
        Checks.due("STOP with everything full", x.receive(STOP), TtyDiscipline.IN_STOPPED);
        Checks.due("nothing is dropped", x.query(TtyDiscipline.Q_DROPPED), 0);
    }

    private static void start() {
        for (int flags = TtyDiscipline.IXON; flags < 32; flags++) {
            TtyDiscipline x = Checks.fresh();
            x.setFlags(flags);
            x.write('a');
            String before = Checks.state(x);
            Checks.due("START when not stopped", x.receive(START), TtyDiscipline.IN_STARTED);
            Checks.due("no change", Checks.state(x), before);
            x.receive(STOP);
            Checks.due("START when stopped", x.receive(START), TtyDiscipline.IN_STARTED);
            Checks.due("only stopped", Checks.state(x), before);
        }
    }

    private static void withoutIxon() {
        for (int flags = 0; flags < TtyDiscipline.IXON; flags++) {
            TtyDiscipline x = Checks.fresh();
            x.setFlags(flags);
            Checks.due("STOP, flags " + flags, x.receive(STOP), TtyDiscipline.IN_STORED);
            Checks.due("stopped", x.query(TtyDiscipline.Q_STOPPED), 0);
            Checks.due("START, flags " + flags, x.receive(START), TtyDiscipline.IN_STORED);
            Checks.due("both are there", Checks.join(Checks.line(x), Checks.input(x)), "19 17");
        }
    }

    private static void withoutIsig() {
        for (int flags = 0; flags < 32; flags++) {
            if ((flags & TtyDiscipline.ISIG) == 0) {
                TtyDiscipline x = Checks.fresh();
                x.setFlags(flags);
                x.startRead(9);
                x.setControl(TtyDiscipline.C_MIN, 9);
                Checks.due("INTR, flags " + flags, x.receive(INTR), TtyDiscipline.IN_STORED);
                Checks.due("signals", x.query(TtyDiscipline.Q_SIGNALS), 0);
                x = Checks.fresh();
                x.setFlags(flags);
                Checks.due("SUSP, flags " + flags, x.receive(SUSP), TtyDiscipline.IN_STORED);
                Checks.due("it is there", Checks.join(Checks.line(x), Checks.input(x)), "26");
                Checks.due("signals", x.query(TtyDiscipline.Q_SIGNALS), 0);
            }
        }
    }

    private static void intrWins() {
        int[] keys = {INTR, SUSP, 0, 255};
        for (int key : keys) {
            TtyDiscipline x = Checks.fresh();
            x.setControl(TtyDiscipline.C_INTR, key);
            x.setControl(TtyDiscipline.C_SUSP, key);
            x.receive(key);
            Checks.due("both on " + key, Checks.takeSignals(x), "34");
        }
        TtyDiscipline x = Checks.fresh();
        x.receive(SUSP);
        x.receive(INTR);
        Checks.due("apart", Checks.takeSignals(x), "52 34");
        x.setControl(TtyDiscipline.C_INTR, 255);
        x.setControl(TtyDiscipline.C_SUSP, 0);
        x.receive(0);
        x.receive(255);
        Checks.due("SUSP below INTR", Checks.takeSignals(x), "52 34");
    }

    /** The queue is filled from each place of its ring; the ninth signal is lost, all else happens. */
    private static void signalQueueFull() {
        for (int turn = 0; turn < 8; turn++) {
            TtyDiscipline x = Checks.fresh();
            for (int i = 0; i < turn; i++) {
                x.receive(INTR);
                x.takeSignal();
            }
            for (int i = 1; i <= 8; i++) {
                x.setForeground(i);
                x.receive(SUSP);
                Checks.due("signals", x.query(TtyDiscipline.Q_SIGNALS), i);
            }
            x.setForeground(30000);
            Checks.type(x, "ab\ncd");
            x.receive(STOP);
            Checks.transmitAll(x);
            Checks.due("the ninth", x.receive(INTR), TtyDiscipline.IN_SIGNAL);
            Checks.due("signals", x.query(TtyDiscipline.Q_SIGNALS), 8);
            Checks.due("dropped: bytes, not signals", x.query(TtyDiscipline.Q_DROPPED), 5);
            Checks.due("line", x.query(TtyDiscipline.Q_LINE_LENGTH), 0);
            Checks.due("input", x.query(TtyDiscipline.Q_INPUT_COUNT), 0);
            Checks.due("stopped", x.query(TtyDiscipline.Q_STOPPED), 0);
            Checks.due("output", Checks.output(x), "94 67");
            x.startRead(1);
            x.receive(INTR);
            Checks.due("a read ends", x.readStatus(), TtyDiscipline.READ_INTERRUPTED);
            Checks.due("first", x.takeSignal(), 32 + 20);
            x.receive(INTR);
            Checks.due("room for one again", Checks.takeSignals(x), "84 116 148 180 212 244 276 960002");
        }
    }

    private static void droppedBySignal() {
        String[] texts = {"", "a", "\n", "\4", "\4\4\4", "ab\n", "ab\4", "ab\4cd\n\4ef", "12345678", "\0\4"};
        int[] due = {0, 1, 1, 0, 0, 3, 2, 7, 8, 1};
        for (int i = 0; i < texts.length; i++) {
            for (int turn = 0; turn < 64; turn += 9) {
                TtyDiscipline x = Checks.fresh();
                Checks.turnInput(x, turn);
                Checks.type(x, texts[i]);
                x.receive(INTR);
                Checks.due("dropped of text " + i, x.query(TtyDiscipline.Q_DROPPED), due[i]);
                Checks.type(x, texts[i]);
                x.receive(SUSP);
                Checks.due("it adds up", x.query(TtyDiscipline.Q_DROPPED), 2 * due[i]);
            }
        }
        TtyDiscipline x = Checks.fresh();
        Checks.putInput(x, 0, 64);
        for (int i = 0; i < 32; i++) {
            x.receive('a');
        }
        x.receive(INTR);
        Checks.due("everything full", x.query(TtyDiscipline.Q_DROPPED), 96);
    }

    private static void emptied() {
        for (Map.Entry<String, Supplier<TtyDiscipline>> sample : Samples.all().entrySet()) {
            int[] keys = {INTR, SUSP};
            for (int key : keys) {
                TtyDiscipline x = sample.getValue().get();
                Checks.due(sample.getKey(), x.receive(key), TtyDiscipline.IN_SIGNAL);
                Checks.due("line", x.query(TtyDiscipline.Q_LINE_LENGTH), 0);
                Checks.due("input", x.query(TtyDiscipline.Q_INPUT_COUNT), 0);
                Checks.due("output", Checks.output(x), key == INTR ? "94 67" : "94 90");
                Checks.due("lineAt(0)", x.lineAt(0), -1);
                Checks.due("inputAt(0)", x.inputAt(0), -1);
                Checks.due("outputAt(2)", x.outputAt(2), -1);
            }
        }
    }

    private static void signalStarts() {
        int[] keys = {INTR, SUSP};
        for (int key : keys) {
            TtyDiscipline x = Checks.fresh();
            x.receive(STOP);
            x.receive(key);
            Checks.due("stopped", x.query(TtyDiscipline.Q_STOPPED), 0);
            x.receive(key);
            Checks.due("not stopped before", x.query(TtyDiscipline.Q_STOPPED), 0);
        }
    }

    private static void endsARead() {
        int[] keys = {INTR, SUSP};
        for (int key : keys) {
            TtyDiscipline x = Checks.fresh();
            Checks.type(x, "a\n");
            x.startRead(9);
            x.startRead(9);
            Checks.due("pending", x.readStatus(), TtyDiscipline.READ_PENDING);
            x.receive(key);
            Checks.due("ended", x.readStatus(), TtyDiscipline.READ_INTERRUPTED);
            x.tick(3);
            Checks.due("tick finds no read", x.query(TtyDiscipline.Q_IDLE), 0);
            Checks.type(x, "b\n");
            Checks.due("a line finds no read", x.readStatus(), TtyDiscipline.READ_INTERRUPTED);
            Checks.due("a new read", x.startRead(9), true);
            Checks.due("its result", x.readStatus(), 2);

            x = Checks.fresh();
            x.setFlags(TtyDiscipline.ISIG);
            x.setControl(TtyDiscipline.C_MIN, 5);
            Checks.type(x, "abc");
            x.startRead(9);
            x.receive(key);
            Checks.due("a raw read", x.readStatus(), TtyDiscipline.READ_INTERRUPTED);
            Checks.due("it gets nothing", x.query(TtyDiscipline.Q_USER_COUNT), 0);
        }
    }

    private static void noReadToEnd() {
        int[] keys = {INTR, SUSP};
        for (int key : keys) {
            TtyDiscipline x = Checks.fresh();
            x.receive(key);
            Checks.due("no read yet", x.readStatus(), TtyDiscipline.READ_NONE);
            x.receive(4);
            x.startRead(1);
            x.receive(key);
            Checks.due("end of file before", x.readStatus(), 0);
            Checks.type(x, "ab\n");
            x.startRead(9);
            x.receive(key);
            Checks.due("a count before", x.readStatus(), 3);
            x.startRead(9);
            x.receive(key);
            x.receive(key);
            Checks.due("interrupted before", x.readStatus(), TtyDiscipline.READ_INTERRUPTED);
        }
    }

    private static void echoAfterTheFlush() {
        int[] caps = {32, 64};
        for (int outCap : caps) {
            for (int room = 0; room <= 2; room++) {
                TtyDiscipline x = new TtyDiscipline(8, 16, outCap);
                Checks.leaveRoom(x, outCap, room);
                x.receive(INTR);
                Checks.due("a full queue has room after the flush", Checks.output(x), "94 67");
                Checks.due("column goes on", x.query(TtyDiscipline.Q_COLUMN), outCap - room + 2);
            }
        }
        int[][] keys = {{10, 13, 10}, {'q', 'q', -1}, {255, 255, -1}, {9, 9, -1}, {0, 94, 64}, {127, 94, 63}};
        for (int[] k : keys) {
            TtyDiscipline x = Checks.fresh();
            x.setControl(TtyDiscipline.C_INTR, k[0]);
            x.receive(k[0]);
            Checks.due("INTR on " + k[0], Checks.output(x), k[2] < 0 ? "" + k[1] : k[1] + " " + k[2]);
            x.setFlags(31 & ~TtyDiscipline.ECHO);
            x.receive(k[0]);
            Checks.due("without ECHO", Checks.output(x), "");
        }
    }

    private static void userBuffer() {
        for (int turn = 0; turn < 64; turn += 7) {
            TtyDiscipline x = Checks.fresh();
            Checks.turnInput(x, turn);
            Checks.putInput(x, 0, 64);
            x.setFlags(0);
            x.startRead(64);
            x.setFlags(31);
            x.receive(INTR);
            x.receive(SUSP);
            Checks.due("user count", x.query(TtyDiscipline.Q_USER_COUNT), 64);
            Checks.due("user buffer", Checks.takeBytes(x), Checks.row(0, 64));
        }
    }

    private static void minAndTimeAreNoKeys() {
        int[] modes = {31, 30};
        for (int flags : modes) {
            for (int b = 'a'; b <= 'z'; b++) {
                TtyDiscipline x = Checks.fresh();
                x.setFlags(flags);
                x.setControl(TtyDiscipline.C_MIN, b);
                x.setControl(TtyDiscipline.C_TIME, b);
                Checks.due("receive(" + b + ")", x.receive(b), TtyDiscipline.IN_STORED);
            }
        }
    }

    /** After each kind of byte: what its step does not name is as before. */
    private static void nothingElse() {
        int[] bytes = {STOP, START, INTR, SUSP, 127, 23, 21, 'a', 9, 1, 10, 4};
        for (Map.Entry<String, Supplier<TtyDiscipline>> sample : Samples.all().entrySet()) {
            for (int b : bytes) {
                TtyDiscipline x = sample.getValue().get();
                TtyDiscipline y = sample.getValue().get();
                boolean pending = x.readStatus() == TtyDiscipline.READ_PENDING;
                int answer = x.receive(b);
                String what = sample.getKey() + ", receive(" + b + ") = " + answer + ": ";
                Checks.due(what + "flags", x.query(TtyDiscipline.Q_FLAGS), y.query(TtyDiscipline.Q_FLAGS));
                Checks.due(what + "controls", Checks.controls(x), Checks.controls(y));
                Checks.due(what + "foreground", x.query(TtyDiscipline.Q_FOREGROUND),
                    y.query(TtyDiscipline.Q_FOREGROUND));
                boolean signal = answer == TtyDiscipline.IN_SIGNAL;
                if (!signal) {
                    Checks.due(what + "signals", Checks.takeSignals(x), Checks.takeSignals(y));
                }
                boolean raw = (x.query(TtyDiscipline.Q_FLAGS) & TtyDiscipline.ICANON) == 0;
                Checks.due(what + "idle", x.query(TtyDiscipline.Q_IDLE),
                    raw && answer == TtyDiscipline.IN_STORED ? 0 : y.query(TtyDiscipline.Q_IDLE));
                if (!signal && answer != TtyDiscipline.IN_STOPPED && answer != TtyDiscipline.IN_STARTED) {
                    Checks.due(what + "stopped", x.query(TtyDiscipline.Q_STOPPED),
                        y.query(TtyDiscipline.Q_STOPPED));
                }
                if (!pending) {
                    Checks.due(what + "read", x.readStatus(), y.readStatus());
                    Checks.due(what + "user", Checks.takeBytes(x), Checks.takeBytes(y));
                }
            }
        }
    }
}
