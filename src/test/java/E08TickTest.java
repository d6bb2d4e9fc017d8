import java.util.Map;
import java.util.function.Supplier;

/** The boundary cases of promise 8, sentence by sentence. */
final class E08TickTest {
    public static void main(String[] args) {
        Checks.sentence("Refused (false, no change) unless 1 <= n <= 1000.", E08TickTest::refused);
        Checks.sentence("Otherwise ... Answers true.", E08TickTest::accepted);
        Checks.sentence("if a read is pending, idle += n", E08TickTest::adds);
        Checks.sentence("and then the completion check runs", E08TickTest::thenChecks);
        Checks.sentence("if no read is pending nothing changes.", E08TickTest::withoutRead);
        Checks.end();
    }

    private static void refused() {
        int[] wrong = {Integer.MIN_VALUE, -1000, -1, 0, 1001, 1002, 65536, 65537, Integer.MAX_VALUE};
        for (int n : wrong) {
            for (Supplier<TtyDiscipline> make : Samples.all().values()) {
                Checks.unchanged("tick(" + n + ")", make,
                    x -> Checks.due("tick(" + n + ")", x.tick(n), false));
            }
        }
    }

    private static void accepted() {
        int[] right = {1, 2, 255, 256, 999, 1000};
        for (int n : right) {
            for (Supplier<TtyDiscipline> make : Samples.all().values()) {
                Checks.due("tick(" + n + ")", make.get().tick(n), true);
            }
        }
    }

    private static void adds() {
        TtyDiscipline x = Checks.fresh();
        x.startRead(9);
        String before = Checks.state(x);
        int[] steps = {1, 1000, 999, 1, 255};
        int due = 0;
        for (int n : steps) {
            x.tick(n);
            due += n;
            Checks.due("state", Checks.state(x), before.replace("q10=0", "q10=" + due));
        }
    }

    private static void thenChecks() {
        int[][] cases = {{1, 1}, {5, 5}, {5, 6}, {255, 255}, {255, 1000}};
        for (int[] c : cases) {
            TtyDiscipline x = Checks.fresh();
            x.setFlags(0);
            x.setControl(TtyDiscipline.C_MIN, 0);
            x.setControl(TtyDiscipline.C_TIME, c[0]);
            x.startRead(9);
            Checks.due("pending", x.readStatus(), TtyDiscipline.READ_PENDING);
            x.tick(c[1]);
            Checks.due("TIME " + c[0] + ", tick(" + c[1] + ")", x.readStatus(), 0);
            Checks.due("idle", x.query(TtyDiscipline.Q_IDLE), c[1]);
        }
    }

    private static void withoutRead() {
        int[] right = {1, 5, 1000};
        for (Map.Entry<String, Supplier<TtyDiscipline>> sample : Samples.all().entrySet()) {
            if (sample.getValue().get().readStatus() != TtyDiscipline.READ_PENDING) {
                for (int n : right) {
                    Checks.unchanged("tick(" + n + ") on " + sample.getKey(), sample.getValue(), x -> x.tick(n));
                }
            }
        }
        Checks.unchanged("tick(5) after a timeout", E08TickTest::timedOut, x -> x.tick(5));
        Checks.unchanged("tick(5) after a signal", () -> {
            TtyDiscipline x = Checks.fresh();
            x.startRead(9);
            x.tick(3);
            x.receive(3);
            return x;
        }, x -> x.tick(5));
    }

    private static TtyDiscipline timedOut() {
        TtyDiscipline x = Checks.fresh();
        x.setFlags(0);
        x.setControl(TtyDiscipline.C_MIN, 0);
        x.setControl(TtyDiscipline.C_TIME, 2);
        x.startRead(9);
        x.tick(2);
        return x;
    }
}
