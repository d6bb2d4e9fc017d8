import java.util.Map;
import java.util.function.Supplier;

/** The boundary cases of promise 9, sentence by sentence. */
final class E09StartReadTest {
    public static void main(String[] args) {
        Checks.sentence("Refused (false, no change) if a read is pending", E09StartReadTest::pending);
        Checks.sentence("or max < 1", E09StartReadTest::tooSmall);
        Checks.sentence("or max > USER_CAP - user count.", E09StartReadTest::tooLarge);
        Checks.sentence("Otherwise pending = true, read max = max ...; answers true.", E09StartReadTest::accepted);
        Checks.sentence("idle = 0", E09StartReadTest::idle);
        Checks.sentence("then the completion check runs (the read may complete at once)", E09StartReadTest::atOnce);
        Checks.sentence("The last read result is untouched until the read completes or is interrupted.",
            E09StartReadTest::lastResult);
        Checks.end();
    }

    private static void refused(String sample, Supplier<TtyDiscipline> make, int max) {
        String call = "startRead(" + max + ") on " + sample;
        Checks.unchanged(call, make, x -> Checks.due(call, x.startRead(max), false));
    }

    private static void pending() {
        int[] maxima = {Integer.MIN_VALUE, -1, 0, 1, 2, 9, 64, 65, Integer.MAX_VALUE};
        for (Map.Entry<String, Supplier<TtyDiscipline>> sample : Samples.all().entrySet()) {
            if (sample.getValue().get().readStatus() == TtyDiscipline.READ_PENDING) {
                for (int max : maxima) {
                    refused(sample.getKey(), sample.getValue(), max);
                }
            }
        }
    }

    private static void tooSmall() {
        int[] maxima = {Integer.MIN_VALUE, -64, -1, 0};
        for (Map.Entry<String, Supplier<TtyDiscipline>> sample : Samples.all().entrySet()) {
            for (int max : maxima) {
                refused(sample.getKey(), sample.getValue(), max);
            }
        }
    }

    /** An object whose user buffer holds n bytes, and whose input queue is empty. */
    private static TtyDiscipline holding(int n) {
        TtyDiscipline x = Checks.fresh();
        Checks.turnInput(x, 30);
        x.setFlags(0);
        for (int i = 0; i < n; i++) {
            x.receive(i);
            x.startRead(1);
        }
        x.setFlags(31);
        return x;
    }

    private static void tooLarge() {
        for (int n = 0; n <= 64; n++) {
            int count = n;
            refused(n + " bytes", () -> holding(count), 64 - n + 1);
            refused(n + " bytes", () -> holding(count), 65);
            refused(n + " bytes", () -> holding(count), Integer.MAX_VALUE);
            if (n > 0) {
                refused(n + " bytes", () -> holding(count), 64);
                TtyDiscipline x = holding(n);
                x.takeByte();
                Checks.due("a byte was taken", x.startRead(64 - n + 1), true);
            }
        }
    }

    private static void accepted() {
        for (int n = 0; n < 64; n++) {
            int[] maxima = {1, (64 - n + 1) / 2, 64 - n};
            for (int max : maxima) {
                TtyDiscipline x = holding(n);
                Checks.due("startRead(" + max + ") with " + n, x.startRead(max), true);
                Checks.due("pending", x.readStatus(), TtyDiscipline.READ_PENDING);
                x.setFlags(0);
                x.setControl(TtyDiscipline.C_MIN, 255);
                Checks.putInput(x, 100, 64);
                Checks.due("max bytes", x.readStatus(), max);
                Checks.due("user buffer", Checks.takeBytes(x), Checks.join(Checks.row(0, n), Checks.row(100, max)));
            }
        }
    }

    private static void idle() {
        TtyDiscipline x = Checks.fresh();
        x.startRead(9);
        x.tick(7);
        x.receive(10);
        Checks.due("idle stays at the end of a read", x.query(TtyDiscipline.Q_IDLE), 7);
        x.startRead(0);
        x.startRead(65);
        Checks.due("a refused read leaves it", x.query(TtyDiscipline.Q_IDLE), 7);
        x.startRead(9);
        Checks.due("a new read", x.query(TtyDiscipline.Q_IDLE), 0);
        x.tick(7);
        x.receive(10);
        x.receive(10);
        x.startRead(9);
        Checks.due("one that completes at once too", x.query(TtyDiscipline.Q_IDLE), 0);
        // idle must be 0 before the check: else an old idle would end the new read.
        x = Checks.fresh();
        x.setFlags(0);
        x.setControl(TtyDiscipline.C_MIN, 0);
        x.setControl(TtyDiscipline.C_TIME, 5);
        x.startRead(9);
        x.tick(5);
        Checks.due("timeout", x.readStatus(), 0);
        x.startRead(9);
        Checks.due("a new timer", x.readStatus(), TtyDiscipline.READ_PENDING);
    }

    private static void atOnce() {
        TtyDiscipline x = Checks.fresh();
        Checks.type(x, "a\n\4");
        Checks.due("startRead(2)", x.startRead(2), true);
        Checks.due("a line", x.readStatus(), 2);
        Checks.due("startRead(62)", x.startRead(62), true);
        Checks.due("a mark", x.readStatus(), 0);
        x.setFlags(0);
        x.setControl(TtyDiscipline.C_MIN, 0);
        Checks.due("startRead(1)", x.startRead(1), true);
        Checks.due("nothing needed", x.readStatus(), 0);
        x.setControl(TtyDiscipline.C_MIN, 64);
        Checks.putInput(x, 0, 62);
        Checks.due("startRead(62)", x.startRead(62), true);
        Checks.due("as many as there are", x.readStatus(), 62);
        Checks.due("the buffer is full", x.query(TtyDiscipline.Q_USER_COUNT), 64);
        Checks.due("startRead(1)", x.startRead(1), false);
    }

    /** The result that was there before shows when a read is refused, and not while one is pending. */
    private static void lastResult() {
        TtyDiscipline x = Checks.fresh();
        x.startRead(0);
        Checks.due("refused at first", x.readStatus(), TtyDiscipline.READ_NONE);
        Checks.type(x, "ab\n");
        x.startRead(9);
        x.startRead(62);
        Checks.due("refused for its size", x.readStatus(), 3);
        x.startRead(9);
        x.receive(3);
        x.startRead(-1);
        Checks.due("refused after an interrupt", x.readStatus(), TtyDiscipline.READ_INTERRUPTED);
        x.startRead(9);
        x.startRead(9);
        x.receive(10);
        Checks.due("completed", x.readStatus(), 1);
    }
}
