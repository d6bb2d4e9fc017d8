import java.util.Map;
import java.util.function.IntUnaryOperator;
import java.util.function.Supplier;

/** The boundary cases of promises 13 to 16: query, lineAt, inputAt and outputAt. */
final class E13To16LookTest {
    private static final int LOWEST = Integer.MIN_VALUE, HIGHEST = Integer.MAX_VALUE;
    private static final int[] FAR = {LOWEST, LOWEST + 1, -65, -64, -63, -32, -1, 64, 65, 128, 1 << 16, HIGHEST - 1,
        HIGHEST};

    public static void main(String[] args) {
        Checks.sentence("query answers the value of the kind (least values)", E13To16LookTest::leastValues);
        Checks.sentence("query answers the value of the kind (greatest values)", E13To16LookTest::greatestValues);
        Checks.sentence("Q_STOPPED 1 if stopped, else 0", E13To16LookTest::stoppedValue);
        Checks.sentence("Any unknown kind answers -1.", E13To16LookTest::unknownKinds);
        Checks.sentence("lineAt answers the edit-line byte at i (0 = first), or -1 if i is not 0..length-1.",
            E13To16LookTest::line);
        Checks.sentence("inputAt answers the input-queue entry at i (0 = head; a value 0..256, where 256 is "
            + "EOF_MARK), or -1 if i is out of range.", E13To16LookTest::input);
        Checks.sentence("outputAt answers the output-queue byte at i (0 = head), or -1 if i is out of range.",
            E13To16LookTest::output);
        Checks.sentence("It changes nothing. (query, lineAt, inputAt, outputAt)", E13To16LookTest::changesNothing);
        Checks.end();
    }

    private static void values(String what, TtyDiscipline x, int... due) {
        for (int kind = 0; kind <= 10; kind++) {
            Checks.due(what + ": query(" + kind + ")", x.query(kind), due[kind]);
        }
    }

    private static void leastValues() {
        values("new", Checks.fresh(), 0, 0, 0, 0, 0, 0, 0, 31, 1, 0, 0);
        TtyDiscipline x = Checks.fresh();
        x.setFlags(0);
        values("no flags", x, 0, 0, 0, 0, 0, 0, 0, 0, 1, 0, 0);
    }

    private static void greatestValues() {
        TtyDiscipline x = Checks.fresh();
        x.setForeground(30000);
        for (int i = 0; i < 9; i++) {
            x.receive(3);
        }
        x.setFlags(0);
        Checks.putInput(x, 0, 64);
        x.startRead(64);
        Checks.putInput(x, 0, 64);
        x.setFlags(31);
        for (int i = 0; i < 33; i++) {
            x.receive('a');
        }
        x.write(13);
        Checks.leaveRoom(x, 64, 0);
        x.receive(19);
        // Two bytes of the last ^C, then 32 of the line, then the return, then the rest.
        values("everything full", x, 32, 64, 64, 64, 64 - 2 - 32 - 1, 1, 1, 31, 30000, 8, 0);
        x = Checks.fresh();
        x.startRead(64);
        for (int i = 0; i < 300; i++) {
            x.tick(1000);
            x.write(9);
            x.transmit();
            x.setFlags(0);
            x.setFlags(31);
        }
        values("a long wait on a long line", x, 0, 0, 0, 0, 2400, 0, 0, 31, 1, 0, 300000);
        x.setFlags(0);
        for (int i = 0; i < 70000; i++) {
            x.receive('a');
        }
        // The pending read took the first byte, 64 filled the queue.
        values("many dropped bytes", x, 0, 64, 0, 1, 2400, 70000 - 65, 0, 0, 1, 0, 0);
    }

    private static void stoppedValue() {
        TtyDiscipline x = Checks.fresh();
        Checks.due("not stopped", x.query(TtyDiscipline.Q_STOPPED), 0);
        x.receive(19);
        x.receive(19);
        Checks.due("stopped", x.query(TtyDiscipline.Q_STOPPED), 1);
        x.receive(17);
        Checks.due("started", x.query(TtyDiscipline.Q_STOPPED), 0);
    }

    private static void unknownKinds() {
        int[] unknown = {LOWEST, -256, -2, -1, 11, 12, 16, 255, 256, 256 + 5, HIGHEST};
        for (Supplier<TtyDiscipline> make : Samples.all().values()) {
            for (int kind : unknown) {
                Checks.due("query(" + kind + ")", make.get().query(kind), -1);
            }
        }
    }

    /** The entries count up from a first value; outside of them every index answers -1. */
    private static void entries(String what, IntUnaryOperator at, int first, int length) {
        for (int i = -2; i <= 66; i++) {
            boolean inside = i >= 0 && i < length;
            Checks.due(what + " of " + length + " at " + i, at.applyAsInt(i), inside ? first + i : -1);
        }
        for (int i : FAR) {
            Checks.due(what + " of " + length + " at " + i, at.applyAsInt(i), -1);
        }
    }

    private static void line() {
        for (int length = 0; length <= 32; length++) {
            TtyDiscipline x = Checks.fresh();
            for (int i = 0; i < length; i++) {
                x.receive('A' + i);
            }
            entries("lineAt", x::lineAt, 'A', length);
        }
        TtyDiscipline x = Checks.fresh();
        Checks.type(x, "ABC");
        x.receive(127);
        entries("lineAt after ERASE", x::lineAt, 'A', 2);
        x.receive(10);
        entries("lineAt after a newline", x::lineAt, 'A', 0);
        x.receive(0);
        x.receive(255);
        Checks.due("0", x.lineAt(0), 0);
        Checks.due("255", x.lineAt(1), 255);
    }

    private static void input() {
        for (int length = 0; length <= 64; length++) {
            TtyDiscipline x = Checks.fresh();
            Checks.turnInput(x, length * 7 % 64);
            Checks.putInput(x, 100, length);
            entries("inputAt", x::inputAt, 100, length);
        }
        TtyDiscipline x = Checks.fresh();
        Checks.putInput(x, 193, 63);
        x.receive(4);
        entries("inputAt up to a mark", x::inputAt, 193, 64);
        Checks.due("the mark", x.inputAt(63), TtyDiscipline.EOF_MARK);
        x.startRead(62);
        Checks.due("255", x.inputAt(0), 255);
        Checks.due("the mark", x.inputAt(1), 256);
        Checks.due("behind it", x.inputAt(2), -1);
        x = Checks.small();
        Checks.putInput(x, 0, 16);
        entries("inputAt of the least capacity", x::inputAt, 0, 16);
    }

    private static void output() {
        for (int length = 0; length <= 64; length++) {
            TtyDiscipline x = Checks.fresh();
            Checks.turnOutput(x, length * 7 % 64);
            for (int i = 0; i < length; i++) {
                x.write(192 + i);
            }
            entries("outputAt", x::outputAt, 192, length);
            if (length > 0) {
                x.transmit();
                entries("outputAt after transmit()", x::outputAt, 193, length - 1);
            }
        }
        TtyDiscipline x = Checks.fresh();
        x.write(0);
        x.write(255);
        Checks.due("0", x.outputAt(0), 0);
        Checks.due("255", x.outputAt(1), 255);
    }

    private static void changesNothing() {
        for (Map.Entry<String, Supplier<TtyDiscipline>> sample : Samples.all().entrySet()) {
            Checks.unchanged("looking at " + sample.getKey(), sample.getValue(), x -> {
                for (int i = -2; i <= 66; i++) {
                    x.query(i);
                    x.lineAt(i);
                    x.inputAt(i);
                    x.outputAt(i);
                }
                for (int i : FAR) {
                    x.query(i);
                    x.lineAt(i);
                    x.inputAt(i);
                    x.outputAt(i);
                }
            });
        }
    }
}
