/** Promise 3: setControl and getControl. */
final class P03ControlTest {
    public static void main(String[] args) {
        ranges();
        wrongIndices();
        storedValuesTakeEffect();
        nothingIsReinterpreted();
        completionCheckRuns();
        Checks.end();
    }

    private static void ranges() {
        int[] values = {Integer.MIN_VALUE, -256, -2, -1, 0, 1, 10, 254, 255, 256, 1000, Integer.MAX_VALUE};
        for (int which = 0; which <= 9; which++) {
            for (int value : values) {
                TtyDiscipline x = Checks.fresh();
                String before = Checks.state(x);
                int old = x.getControl(which);
                boolean fits = value <= 255 && value >= (which <= 7 ? -1 : 0);
                String what = "setControl(" + which + ", " + value + ")";
                Checks.due(what, x.setControl(which, value), fits);
                Checks.due("getControl after " + what, x.getControl(which), fits ? value : old);
                x.setControl(which, old);
                Checks.due("others after " + what, Checks.state(x), before);
            }
        }
    }

    private static void wrongIndices() {
        int[] wrong = {Integer.MIN_VALUE, -2, -1, 10, 11, 256, Integer.MAX_VALUE};
        for (int which : wrong) {
            TtyDiscipline x = Checks.fresh();
            String before = Checks.state(x);
            Checks.due("setControl(" + which + ", 5)", x.setControl(which, 5), false);
            Checks.due("getControl(" + which + ")", x.getControl(which), -2);
            Checks.due("state after wrong index", Checks.state(x), before);
        }
    }

    private static void storedValuesTakeEffect() {
        int[] answers = {TtyDiscipline.IN_SIGNAL, TtyDiscipline.IN_SIGNAL, TtyDiscipline.IN_EDITED,
            TtyDiscipline.IN_EDITED, TtyDiscipline.IN_EDITED, TtyDiscipline.IN_LINE,
            TtyDiscipline.IN_STARTED, TtyDiscipline.IN_STOPPED};
        for (int which = 0; which <= 7; which++) {
            TtyDiscipline x = Checks.fresh();
            int old = x.getControl(which);
            x.setControl(which, 200);
            Checks.due("new key of " + which, x.receive(200), answers[which]);
            Checks.due("old key of " + which, x.receive(old), TtyDiscipline.IN_STORED);
            x.setControl(which, -1);
            Checks.due("disabled: 200 of " + which, x.receive(200), TtyDiscipline.IN_STORED);
            Checks.due("disabled: 255 of " + which, x.receive(255), TtyDiscipline.IN_STORED);
            Checks.due("disabled: -1 of " + which, x.receive(-1), TtyDiscipline.IN_STORED);
        }
        TtyDiscipline x = Checks.fresh();
        x.setControl(TtyDiscipline.C_MIN, 97);
        x.setControl(TtyDiscipline.C_TIME, 98);
        Checks.due("MIN is no key", x.receive(97), TtyDiscipline.IN_STORED);
        Checks.due("TIME is no key", x.receive(98), TtyDiscipline.IN_STORED);
    }

    private static void nothingIsReinterpreted() {
        TtyDiscipline x = Checks.fresh();
        Checks.type(x, "a\4bc");
        x.setControl(TtyDiscipline.C_EOF, 'a');
        x.setControl(TtyDiscipline.C_ERASE, 'c');
        x.setControl(TtyDiscipline.C_STOP, 'b');
        Checks.due("input", Checks.input(x), "97 256");
        Checks.due("line", Checks.line(x), "98 99");
        Checks.due("stopped", x.query(TtyDiscipline.Q_STOPPED), 0);
    }

    private static void completionCheckRuns() {
        TtyDiscipline x = Checks.fresh();
        x.setFlags(0);
        x.setControl(TtyDiscipline.C_MIN, 4);
        Checks.type(x, "ab");
        x.startRead(8);
        Checks.due("4 needed", x.readStatus(), TtyDiscipline.READ_PENDING);
        x.setControl(TtyDiscipline.C_MIN, 300);
        Checks.due("refused", x.readStatus(), TtyDiscipline.READ_PENDING);
        x.setControl(TtyDiscipline.C_MIN, 2);
        Checks.due("2 needed", x.readStatus(), 2);
        Checks.due("bytes", Checks.takeBytes(x), "97 98");
        x.setControl(TtyDiscipline.C_MIN, 3);
        x.receive('c');
        x.startRead(8);
        x.tick(5);
        Checks.due("no time set", x.readStatus(), TtyDiscipline.READ_PENDING);
        x.setControl(TtyDiscipline.C_TIME, 5);
        Checks.due("time is over", x.readStatus(), 1);
        x.startRead(8);
        x.setControl(TtyDiscipline.C_TIME, 0);
        Checks.due("nothing there", x.readStatus(), TtyDiscipline.READ_PENDING);
        x.setControl(TtyDiscipline.C_MIN, 0);
        Checks.due("at once", x.readStatus(), 0);
    }
}
