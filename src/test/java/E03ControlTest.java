import java.util.function.Supplier;

/** The boundary cases of promise 3, sentence by sentence. */
final class E03ControlTest {
    private static final int LOWEST = Integer.MIN_VALUE, HIGHEST = Integer.MAX_VALUE;
    private static final int[] NO_INDEX = {LOWEST, -256, -2, -1, 10, 11, 16, 255, 256, HIGHEST};

    public static void main(String[] args) {
        Checks.sentence("is refused (answers false, nothing changes) if which is not 0..9",
            E03ControlTest::wrongIndex);
        Checks.sentence("or which <= 7 and value is not in -1..255", E03ControlTest::wrongKey);
        Checks.sentence("or which >= 8 and value is not in 0..255.", E03ControlTest::wrongNumber);
        Checks.sentence("Otherwise it stores value as control which ... and answers true.", E03ControlTest::stored);
        Checks.sentence("Stored values take effect for every later byte and completion check",
            E03ControlTest::takesEffect);
        Checks.sentence("nothing already in the queues or edit line is reinterpreted.",
            E03ControlTest::notReinterpreted);
        Checks.sentence("getControl answers the current value of control which for 0..9",
            E03ControlTest::getsCurrentValue);
        Checks.sentence("or -2 if which is not 0..9.", E03ControlTest::getsNoValue);
        Checks.sentence("It changes nothing.", E03ControlTest::gettingChangesNothing);
        Checks.end();
    }

    private static void refused(int which, int value) {
        String call = "setControl(" + which + ", " + value + ")";
        for (Supplier<TtyDiscipline> make : Samples.all().values()) {
            Checks.unchanged(call, make, x -> Checks.due(call, x.setControl(which, value), false));
        }
    }

    private static void wrongIndex() {
        int[] values = {-2, -1, 0, 1, 255, 256};
        for (int which : NO_INDEX) {
            for (int value : values) {
                refused(which, value);
            }
        }
    }

    private static void wrongKey() {
        int[] values = {LOWEST, -256, -3, -2, 256, 257, 511, HIGHEST};
        for (int which = 0; which <= 7; which++) {
            for (int value : values) {
                refused(which, value);
            }
        }
    }

    private static void wrongNumber() {
        int[] values = {LOWEST, -256, -2, -1, 256, 257, 511, HIGHEST};
        for (int which = 8; which <= 9; which++) {
            for (int value : values) {
                refused(which, value);
            }
        }
    }

    private static void stored() {
        for (int which = 0; which <= 9; which++) {
            TtyDiscipline x = Checks.fresh();
            for (int value = which <= 7 ? -1 : 0; value <= 255; value++) {
                String[] due = Checks.controls(x).split(" ");
                due[which] = "" + value;
                String call = "setControl(" + which + ", " + value + ")";
                Checks.due(call, x.setControl(which, value), true);
                Checks.due("controls after " + call, Checks.controls(x), String.join(" ", due));
            }
        }
    }

    private static void takesEffect() {
        int[] answers = {TtyDiscipline.IN_SIGNAL, TtyDiscipline.IN_SIGNAL, TtyDiscipline.IN_EDITED,
            TtyDiscipline.IN_EDITED, TtyDiscipline.IN_EDITED, TtyDiscipline.IN_LINE,
            TtyDiscipline.IN_STARTED, TtyDiscipline.IN_STOPPED};
        int[] keys = {0, 1, 10, 'a', 128, 254, 255};
        for (int which = 0; which <= 7; which++) {
            for (int key : keys) {
                TtyDiscipline x = Checks.fresh();
                int old = x.getControl(which);
                x.setControl(which, key);
                Checks.due("control " + which + " = " + key, x.receive(key), answers[which]);
                Checks.due("the old key", x.receive(old), TtyDiscipline.IN_STORED);
            }
        }
        TtyDiscipline x = Checks.fresh();
        x.setFlags(0);
        x.setControl(TtyDiscipline.C_MIN, 255);
        x.startRead(64);
        Checks.putInput(x, 0, 63);
        Checks.due("63 of 64", x.readStatus(), TtyDiscipline.READ_PENDING);
        x.setControl(TtyDiscipline.C_MIN, 64);
        Checks.due("MIN 64", x.readStatus(), TtyDiscipline.READ_PENDING);
        x.setControl(TtyDiscipline.C_MIN, 63);
        Checks.due("MIN 63", x.readStatus(), 63);
        x.setControl(TtyDiscipline.C_MIN, 0);
        x.setControl(TtyDiscipline.C_TIME, 255);
        x.startRead(1);
        x.tick(254);
        Checks.due("254 of 255", x.readStatus(), TtyDiscipline.READ_PENDING);
        x.tick(1);
        Checks.due("255 of 255", x.readStatus(), 0);
    }

    /** The keys become bytes that stand in the line and in the queues already. */
    private static void notReinterpreted() {
        for (int which = 0; which <= 9; which++) {
            TtyDiscipline x = Checks.fresh();
            Checks.type(x, "a\4a\n");
            Checks.type(x, "aa");
            String before = Checks.state(x);
            x.setControl(which, 'a');
            Checks.due("control " + which + ": line", Checks.line(x), "97 97");
            Checks.due("control " + which + ": input", Checks.input(x), "97 256 97 10");
            Checks.due("control " + which + ": output", Checks.output(x), "97 97 13 10 97 97");
            x.setControl(which, Integer.parseInt("3 26 127 23 21 4 17 19 1 0".split(" ")[which]));
            Checks.due("control " + which + " and back", Checks.state(x), before);
        }
        TtyDiscipline x = Checks.fresh();
        Checks.type(x, "a\4");
        x.setControl(TtyDiscipline.C_EOF, -1);
        x.startRead(9);
        Checks.due("a mark stays a mark", x.readStatus(), 1);
        x = Checks.fresh();
        x.receive(19);
        x.setControl(TtyDiscipline.C_STOP, -1);
        Checks.due("stopped stays stopped", x.query(TtyDiscipline.Q_STOPPED), 1);
    }

    private static void getsCurrentValue() {
        TtyDiscipline x = Checks.fresh();
        int[] defaults = {3, 26, 127, 23, 21, 4, 17, 19, 1, 0};
        for (int which = 0; which <= 9; which++) {
            Checks.due("getControl(" + which + ")", x.getControl(which), defaults[which]);
            x.setControl(which, which <= 7 ? -1 : 0);
            Checks.due("the least of " + which, x.getControl(which), which <= 7 ? -1 : 0);
            x.setControl(which, 255);
            Checks.due("the greatest of " + which, x.getControl(which), 255);
        }
    }

    private static void getsNoValue() {
        for (int which : NO_INDEX) {
            TtyDiscipline x = Checks.fresh();
            Checks.due("getControl(" + which + ")", x.getControl(which), -2);
        }
    }

    private static void gettingChangesNothing() {
        for (Supplier<TtyDiscipline> make : Samples.all().values()) {
            Checks.unchanged("getControl", make, x -> {
                Checks.controls(x);
                for (int which : NO_INDEX) {
                    x.getControl(which);
                }
            });
        }
    }
}
