/** Promise 12: takeSignal. */
final class P12TakeSignalTest {
    public static void main(String[] args) {
        TtyDiscipline x = Checks.fresh();
        String before = Checks.state(x);
        Checks.due("empty", x.takeSignal(), -1);
        Checks.due("state", Checks.state(x), before);

        x.setForeground(30000);
        x.receive(3);
        x.setForeground(5);
        x.receive(26);
        x.receive(3);
        before = Checks.state(x);
        Checks.due("first", x.takeSignal(), 30000 * 32 + 2);
        Checks.due("left", x.query(TtyDiscipline.Q_SIGNALS), 2);
        Checks.due("second", x.takeSignal(), 5 * 32 + 20);
        Checks.due("third", x.takeSignal(), 5 * 32 + 2);
        Checks.due("only the signals change", Checks.state(x), before.replace("q9=3", "q9=0"));
        Checks.due("empty again", x.takeSignal(), -1);
        goesRound(x);
        Checks.end();
    }

    /** Lost signals stay lost, and freed places are used again. */
    private static void goesRound(TtyDiscipline x) {
        for (int i = 1; i <= 9; i++) {
            x.setForeground(i);
            x.receive(26);
        }
        for (int i = 10; i <= 40; i++) {
            Checks.due("signal " + i, x.takeSignal(), (i < 18 ? i - 9 : i - 8) * 32 + 20);
            x.setForeground(i);
            x.receive(26);
            Checks.due("full", x.query(TtyDiscipline.Q_SIGNALS), 8);
        }
    }
}
