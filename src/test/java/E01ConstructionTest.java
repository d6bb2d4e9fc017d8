/** The boundary cases of promise 1, sentence by sentence. */
final class E01ConstructionTest {
    private static final int LOWEST = Integer.MIN_VALUE, HIGHEST = Integer.MAX_VALUE;

    public static void main(String[] args) {
        Checks.sentence("a value below the least becomes the least", E01ConstructionTest::tooSmall);
        Checks.sentence("above the greatest becomes the greatest", E01ConstructionTest::tooLarge);
        Checks.sentence("lineCap goes into 8..32, inCap into 16..64, outCap into 32..64",
            E01ConstructionTest::inside);
        Checks.sentence("any int, including negative values and Integer.MIN_VALUE or MAX_VALUE, is accepted.",
            E01ConstructionTest::anyInt);
        Checks.sentence("The capacities never change afterwards.", E01ConstructionTest::forGood);
        Checks.sentence("Every other part of the state starts at the bracketed initial value listed above",
            E01ConstructionTest::initialState);
        Checks.end();
    }

    private static int lineCapOf(TtyDiscipline x) {
        x.setFlags(1);
        int stored = 0;
        for (int i = 0; i < 70; i++) {
            stored += x.receive('a') == TtyDiscipline.IN_STORED ? 1 : 0;
        }
        Checks.due("line length", x.query(TtyDiscipline.Q_LINE_LENGTH), stored);
        return stored;
    }

    private static int inCapOf(TtyDiscipline x) {
        x.setFlags(0);
        int stored = 0;
        for (int i = 0; i < 70; i++) {
            stored += x.receive('a') == TtyDiscipline.IN_STORED ? 1 : 0;
        }
        Checks.due("input count", x.query(TtyDiscipline.Q_INPUT_COUNT), stored);
        return stored;
    }

    private static int outCapOf(TtyDiscipline x) {
        int written = 0;
        for (int i = 0; i < 70; i++) {
            written += x.write('a') ? 1 : 0;
        }
        Checks.due("output count", x.query(TtyDiscipline.Q_OUTPUT_COUNT), written);
        return written;
    }

    private static void capacities(int lineCap, int inCap, int outCap, int line, int in, int out) {
        String what = "new TtyDiscipline(" + lineCap + ", " + inCap + ", " + outCap + ") ";
        Checks.due(what + "lineCap", lineCapOf(new TtyDiscipline(lineCap, inCap, outCap)), line);
        Checks.due(what + "inCap", inCapOf(new TtyDiscipline(lineCap, inCap, outCap)), in);
        Checks.due(what + "outCap", outCapOf(new TtyDiscipline(lineCap, inCap, outCap)), out);
    }

    private static void tooSmall() {
        capacities(7, 20, 40, 8, 20, 40);
        capacities(0, 20, 40, 8, 20, 40);
        capacities(10, 15, 40, 10, 16, 40);
        capacities(10, 0, 40, 10, 16, 40);
        capacities(10, 20, 31, 10, 20, 32);
        capacities(10, 20, 0, 10, 20, 32);
    }

    private static void tooLarge() {
        capacities(33, 20, 40, 32, 20, 40);
        capacities(64, 20, 40, 32, 20, 40);
        capacities(10, 65, 40, 10, 64, 40);
        capacities(10, 128, 40, 10, 64, 40);
        capacities(10, 20, 65, 10, 20, 64);
        capacities(10, 20, 128, 10, 20, 64);
    }

    private static void inside() {
        for (int n = 8; n <= 32; n++) {
            capacities(n, 20, 40, n, 20, 40);
        }
        for (int n = 16; n <= 64; n++) {
            capacities(10, n, 40, 10, n, 40);
        }
        for (int n = 32; n <= 64; n++) {
            capacities(10, 20, n, 10, 20, n);
        }
    }

    private static void anyInt() {
        int[] low = {-1, -8, -32, -64, -1000, LOWEST + 1, LOWEST};
        for (int n : low) {
            capacities(n, 20, 40, 8, 20, 40);
            capacities(10, n, 40, 10, 16, 40);
            capacities(10, 20, n, 10, 20, 32);
        }
        int[] high = {256 + 10, 65536 + 20, HIGHEST - 1, HIGHEST};
        for (int n : high) {
            capacities(n, 20, 40, 32, 20, 40);
            capacities(10, n, 40, 10, 64, 40);
            capacities(10, 20, n, 10, 20, 64);
        }
        capacities(LOWEST, LOWEST, LOWEST, 8, 16, 32);
        capacities(HIGHEST, HIGHEST, HIGHEST, 32, 64, 64);
        capacities(LOWEST, HIGHEST, LOWEST, 8, 64, 32);
    }

    /** An object whose line and queues were filled, passed on, read and flushed, and are empty again. */
    private static TtyDiscipline lived(int lineCap, int inCap, int outCap) {
        TtyDiscipline x = new TtyDiscipline(lineCap, inCap, outCap);
        for (int round = 0; round < 3; round++) {
            x.setFlags(31);
            for (int i = 0; i < 70; i++) {
                x.receive(i % 9 == 8 ? 4 : 'a');
                x.write(i);
            }
            x.setFlags(0);
            for (int i = 0; i < 70; i++) {
                x.receive('a');
                x.transmit();
            }
            x.startRead(30);
            Checks.takeBytes(x);
            x.setFlags(31 & ~TtyDiscipline.ECHO);
            x.receive(round == 0 ? 3 : 26);
        }
        return x;
    }

    private static void forGood() {
        int[][] cases = {{8, 16, 32}, {9, 17, 33}, {21, 40, 50}, {31, 63, 63}, {32, 64, 64}};
        for (int[] c : cases) {
            Checks.due("lineCap", lineCapOf(lived(c[0], c[1], c[2])), c[0]);
            Checks.due("inCap", inCapOf(lived(c[0], c[1], c[2])), c[1]);
            Checks.due("outCap", outCapOf(lived(c[0], c[1], c[2])), c[2]);
        }
    }

    private static void initialState() {
        int[] caps = {LOWEST, 20, HIGHEST};
        for (int cap : caps) {
            TtyDiscipline x = new TtyDiscipline(cap, cap, cap);
            Checks.due("edit line", x.query(TtyDiscipline.Q_LINE_LENGTH), 0);
            Checks.due("input queue", x.query(TtyDiscipline.Q_INPUT_COUNT), 0);
            Checks.due("output queue", x.query(TtyDiscipline.Q_OUTPUT_COUNT), 0);
            Checks.due("user buffer", x.query(TtyDiscipline.Q_USER_COUNT), 0);
            Checks.due("column", x.query(TtyDiscipline.Q_COLUMN), 0);
            Checks.due("dropped", x.query(TtyDiscipline.Q_DROPPED), 0);
            Checks.due("stopped", x.query(TtyDiscipline.Q_STOPPED), 0);
            Checks.due("flags", x.query(TtyDiscipline.Q_FLAGS), 31);
            Checks.due("foreground", x.query(TtyDiscipline.Q_FOREGROUND), 1);
            Checks.due("signals", x.query(TtyDiscipline.Q_SIGNALS), 0);
            Checks.due("idle", x.query(TtyDiscipline.Q_IDLE), 0);
            Checks.due("controls", Checks.controls(x), "3 26 127 23 21 4 17 19 1 0");
            Checks.due("last result", x.readStatus(), TtyDiscipline.READ_NONE);
            Checks.due("takeByte()", x.takeByte(), -1);
            Checks.due("takeSignal()", x.takeSignal(), -1);
            Checks.due("transmit()", x.transmit(), -1);
            Checks.due("lineAt(0)", x.lineAt(0), -1);
            Checks.due("inputAt(0)", x.inputAt(0), -1);
            Checks.due("outputAt(0)", x.outputAt(0), -1);
            x.tick(5);
            Checks.due("no read is pending", x.query(TtyDiscipline.Q_IDLE), 0);
        }
    }
}
