/** The boundary cases of promise 7, sentence by sentence. */
final class E07TransmitTest {
    public static void main(String[] args) {
        Checks.sentence("if stopped ..., it answers -1 and nothing changes.", E07TransmitTest::stopped);
        Checks.sentence("if ... the output queue is empty, it answers -1 and nothing changes.",
            E07TransmitTest::empty);
        Checks.sentence("Otherwise it removes and answers the head byte (0..255).", E07TransmitTest::head);
        Checks.sentence("Column does not change.", E07TransmitTest::column);
        Checks.end();
    }

    private static void none(TtyDiscipline x) {
        Checks.due("transmit()", x.transmit(), -1);
    }

    private static TtyDiscipline stoppedWith(int n) {
        TtyDiscipline x = Checks.small();
        x.receive(19);
        Checks.write(x, 'a', n);
        return x;
    }

    private static void stopped() {
        int[] counts = {0, 1, 32};
        for (int n : counts) {
            Checks.unchanged("transmit()", () -> stoppedWith(n), E07TransmitTest::none);
        }
        TtyDiscipline x = stoppedWith(1);
        x.receive(17);
        Checks.due("started again", x.transmit(), 'a');
    }

    private static void empty() {
        Checks.unchanged("transmit()", Checks::fresh, E07TransmitTest::none);
        Checks.unchanged("transmit()", Checks::small, E07TransmitTest::none);
        for (int turn = 1; turn <= 65; turn++) {
            int n = turn;
            Checks.unchanged("transmit()", () -> {
                TtyDiscipline x = Checks.small();
                Checks.turnOutput(x, n);
                return x;
            }, E07TransmitTest::none);
        }
        Checks.unchanged("transmit()", () -> {
            TtyDiscipline x = Checks.fresh();
            Checks.write(x, 'a', 64);
            x.setFlags(29);
            x.receive(3);
            return x;
        }, E07TransmitTest::none);
    }

    /** Every byte goes through, and a full queue is passed through from each place of its ring. */
    private static void head() {
        TtyDiscipline x = Checks.fresh();
        for (int b = 0; b <= 255; b++) {
            if (b != 10) {
                x.write(b);
                Checks.due("transmit()", x.transmit(), b);
                Checks.due("left", x.query(TtyDiscipline.Q_OUTPUT_COUNT), 0);
            }
        }
        int[] caps = {32, 45, 64};
        for (int outCap : caps) {
            for (int turn = 0; turn < 64; turn++) {
                x = new TtyDiscipline(8, 16, outCap);
                Checks.turnOutput(x, turn);
                for (int i = 0; i < outCap; i++) {
                    x.write(100 + i);
                }
                for (int i = 0; i < outCap; i++) {
                    Checks.due("left", x.query(TtyDiscipline.Q_OUTPUT_COUNT), outCap - i);
                    Checks.due("byte " + i, x.transmit(), 100 + i);
                }
                none(x);
            }
        }
    }

    private static void column() {
        TtyDiscipline x = Checks.fresh();
        int[] bytes = {'a', 9, 8, 13, 'b', 10, 'c', 'd'};
        for (int b : bytes) {
            x.write(b);
        }
        for (int i = 0; i < 10; i++) {
            x.transmit();
            Checks.due("column", x.query(TtyDiscipline.Q_COLUMN), 2);
        }
    }
}
