/** Promise 1: the capacities are clamped, the state starts at its initial values. */
final class P01ConstructionTest {
    private static final int LOW = Integer.MIN_VALUE, HIGH = Integer.MAX_VALUE;

    public static void main(String[] args) {
        int[] asked = {LOW, -1, 0, 7, 8, 9, 15, 16, 17, 31, 32, 33, 63, 64, 65, HIGH};
        for (int cap : asked) {
            capacities(cap, 20, 40, clamp(cap, 8, 32), 20, 40);
            capacities(20, cap, 40, 20, clamp(cap, 16, 64), 40);
            capacities(20, 20, cap, 20, 20, clamp(cap, 32, 64));
        }
        capacities(LOW, LOW, LOW, 8, 16, 32);
        capacities(HIGH, HIGH, HIGH, 32, 64, 64);
        initialState();
        Checks.end();
    }

    private static int clamp(int value, int least, int greatest) {
        return Math.max(least, Math.min(greatest, value));
    }

    /** Fills the line, the input queue and the output queue of new objects and counts. */
    private static void capacities(int line, int in, int out, int lineDue, int inDue, int outDue) {
        String what = "new(" + line + ", " + in + ", " + out + ") ";
        TtyDiscipline x = new TtyDiscipline(line, in, out);
        for (int i = 0; i < 100; i++) {
            x.receive('a');
        }
        Checks.due(what + "line", x.query(TtyDiscipline.Q_LINE_LENGTH), lineDue);
        Checks.due(what + "line dropped", x.query(TtyDiscipline.Q_DROPPED), 100 - lineDue);

        x = new TtyDiscipline(line, in, out);
        x.setFlags(0);
        for (int i = 0; i < 100; i++) {
            x.receive('a');
        }
        Checks.due(what + "input", x.query(TtyDiscipline.Q_INPUT_COUNT), inDue);

        int written = 0;
        for (int i = 0; i < 100; i++) {
            written += x.write('a') ? 1 : 0;
        }
        Checks.due(what + "written", written, outDue);
        Checks.due(what + "output", x.query(TtyDiscipline.Q_OUTPUT_COUNT), outDue);
    }

    private static void initialState() {
        TtyDiscipline x = new TtyDiscipline(16, 32, 48);
        Checks.due("initial state", Checks.state(x),
            "q0=0 q1=0 q2=0 q3=0 q4=0 q5=0 q6=0 q7=31 q8=1 q9=0 q10=0 "
            + "line=; input=; output=; controls=3 26 127 23 21 4 17 19 1 0; read=-1");
        Checks.due("takeByte()", x.takeByte(), -1);
        Checks.due("takeSignal()", x.takeSignal(), -1);
        Checks.due("transmit()", x.transmit(), -1);
        TtyDiscipline other = new TtyDiscipline(16, 32, 48);
        Checks.type(other, "abc");
        Checks.due("objects apart", Checks.line(x), "");
    }
}
