import java.util.function.Supplier;

/** The boundary cases of promise 4, sentence by sentence. */
final class E04ForegroundTest {
    public static void main(String[] args) {
        Checks.sentence("is refused (false, no change) unless 1 <= pgrp <= 30000", E04ForegroundTest::refused);
        Checks.sentence("otherwise foreground = pgrp and it answers true.", E04ForegroundTest::accepted);
        Checks.sentence("Signals already in the signal queue keep their values", E04ForegroundTest::queuedSignals);
        Checks.sentence("only later signals use the new group.", E04ForegroundTest::laterSignals);
        Checks.end();
    }

    private static void refused() {
        int[] wrong = {Integer.MIN_VALUE, -30000, -2, -1, 0, 30001, 30002, 32768, 65536, 65537, Integer.MAX_VALUE};
        for (int pgrp : wrong) {
            for (Supplier<TtyDiscipline> make : Samples.all().values()) {
                Checks.unchanged("setForeground(" + pgrp + ")", make,
                    x -> Checks.due("setForeground(" + pgrp + ")", x.setForeground(pgrp), false));
            }
        }
    }

    private static void accepted() {
        int[] right = {1, 2, 255, 256, 15000, 29999, 30000};
        for (int pgrp : right) {
            for (Supplier<TtyDiscipline> make : Samples.all().values()) {
                TtyDiscipline x = make.get();
                Checks.due("setForeground(" + pgrp + ")", x.setForeground(pgrp), true);
                Checks.due("foreground", x.query(TtyDiscipline.Q_FOREGROUND), pgrp);
                Checks.unchanged("a new group and the old one again", make, y -> {
                    int old = y.query(TtyDiscipline.Q_FOREGROUND);
                    y.setForeground(pgrp);
                    y.setForeground(old);
                });
            }
        }
    }

    private static void queuedSignals() {
        TtyDiscipline x = Checks.fresh();
        for (int i = 0; i < 8; i++) {
            x.receive(i % 2 == 0 ? 3 : 26);
        }
        x.setForeground(30000);
        Checks.due("a full queue of group 1", Checks.takeSignals(x), "34 52 34 52 34 52 34 52");
    }

    private static void laterSignals() {
        TtyDiscipline x = Checks.fresh();
        x.setForeground(30000);
        x.receive(3);
        x.setForeground(0);
        x.receive(26);
        x.setForeground(1);
        x.receive(3);
        x.setForeground(30001);
        x.receive(26);
        Checks.due("signals", Checks.takeSignals(x), "960002 960020 34 52");
    }
}
