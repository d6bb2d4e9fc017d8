/** Promise 8: tick. */
final class P08TickTest {
    public static void main(String[] args) {
        refusals();
        withoutRead();
        adds();
        completes();
        Checks.end();
    }

    private static void refusals() {
        int[] wrong = {Integer.MIN_VALUE, -1, 0, 1001, 65537, Integer.MAX_VALUE};
        for (int n : wrong) {
            TtyDiscipline x = Checks.fresh();
            Checks.due("tick(" + n + ") without read", x.tick(n), false);
            x.startRead(3);
            x.tick(2);
            String before = Checks.state(x);
            Checks.due("tick(" + n + ")", x.tick(n), false);
            Checks.due("state", Checks.state(x), before);
        }
    }

    private static void withoutRead() {
        TtyDiscipline x = Checks.fresh();
        String before = Checks.state(x);
        Checks.due("tick(1)", x.tick(1), true);
        Checks.due("tick(1000)", x.tick(1000), true);
        Checks.due("state", Checks.state(x), before);
        x.startRead(3);
        x.tick(5);
        Checks.type(x, "a\n");
        x.tick(5);
        Checks.due("idle stays after the read", x.query(TtyDiscipline.Q_IDLE), 5);
    }

    private static void adds() {
        TtyDiscipline x = Checks.fresh();
        x.startRead(3);
        String before = Checks.state(x);
        Checks.due("tick(1)", x.tick(1), true);
        Checks.due("tick(1000)", x.tick(1000), true);
        Checks.due("tick(17)", x.tick(17), true);
        Checks.due("state", Checks.state(x), before.replace("q10=0", "q10=1018"));
    }

    private static void completes() {
        TtyDiscipline x = Checks.fresh();
        x.setFlags(0);
        x.setControl(TtyDiscipline.C_MIN, 0);
        x.setControl(TtyDiscipline.C_TIME, 10);
        x.startRead(3);
        x.tick(9);
        Checks.due("before", x.readStatus(), TtyDiscipline.READ_PENDING);
        x.tick(1);
        Checks.due("time is over", x.readStatus(), 0);
        Checks.due("idle", x.query(TtyDiscipline.Q_IDLE), 10);
        x.startRead(3);
        Checks.due("a new read starts at 0", x.query(TtyDiscipline.Q_IDLE), 0);
        x.tick(1000);
        Checks.due("far over", x.readStatus(), 0);
        x = Checks.fresh();
        x.setControl(TtyDiscipline.C_TIME, 1);
        x.setControl(TtyDiscipline.C_MIN, 0);
        x.startRead(3);
        x.tick(1000);
        Checks.due("no time limit in canonical mode", x.readStatus(), TtyDiscipline.READ_PENDING);
    }
}
