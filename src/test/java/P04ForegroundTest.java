/** Promise 4: setForeground. */
final class P04ForegroundTest {
    public static void main(String[] args) {
        int[] wrong = {Integer.MIN_VALUE, -30000, -1, 0, 30001, 65536 + 5, Integer.MAX_VALUE};
        for (int pgrp : wrong) {
            TtyDiscipline x = Checks.fresh();
            x.setForeground(77);
            String before = Checks.state(x);
            Checks.due("setForeground(" + pgrp + ")", x.setForeground(pgrp), false);
            Checks.due("state after " + pgrp, Checks.state(x), before);
        }
        int[] right = {1, 2, 1000, 29999, 30000};
        for (int pgrp : right) {
            TtyDiscipline x = Checks.fresh();
            String before = Checks.state(x);
            Checks.due("setForeground(" + pgrp + ")", x.setForeground(pgrp), true);
            Checks.due("state after " + pgrp, Checks.state(x), before.replace("q8=1 ", "q8=" + pgrp + " "));
            x.receive(3);
            x.receive(26);
            Checks.due("signals", Checks.takeSignals(x), (pgrp * 32 + 2) + " " + (pgrp * 32 + 20));
        }
        earlierSignalsStay();
        Checks.end();
    }

    private static void earlierSignalsStay() {
        TtyDiscipline x = Checks.fresh();
        x.receive(3);
        x.setForeground(30000);
        x.receive(26);
        x.setForeground(2);
        Checks.due("signals", Checks.takeSignals(x), "34 960020");
    }
}
