import java.util.function.Supplier;

/** The boundary cases of promise 6, sentence by sentence. */
final class E06WriteTest {
    public static void main(String[] args) {
        Checks.sentence("the unit is [13,10] if b == 10, else [b].", E06WriteTest::unitOfEveryByte);
        Checks.sentence("if it does not fit it answers false and nothing changes", E06WriteTest::doesNotFit);
        Checks.sentence("otherwise true, with column updated per byte.", E06WriteTest::fits);
        Checks.sentence("Writing is allowed while stopped.", E06WriteTest::stopped);
        Checks.sentence("Flags such as ECHO do not affect it.", E06WriteTest::flags);
        Checks.end();
    }

    private static void unitOfEveryByte() {
        for (int b = 0; b <= 255; b++) {
            TtyDiscipline x = Checks.fresh();
            Checks.due("write(" + b + ")", x.write(b), true);
            Checks.due("output", Checks.output(x), b == 10 ? "13 10" : "" + b);
            Checks.due("transmit()", x.transmit(), b == 10 ? 13 : b);
        }
    }

    private static void doesNotFit() {
        int[] caps = {32, 33, 63, 64};
        int[] bytes = {0, 8, 9, 10, 13, 'a', 127, 255, 256, -1};
        for (int outCap : caps) {
            for (int b : bytes) {
                Supplier<TtyDiscipline> full = () -> leaving(outCap, 0);
                Checks.unchanged("write(" + b + ")", full, x -> Checks.due("full", x.write(b), false));
            }
            Supplier<TtyDiscipline> almost = () -> leaving(outCap, 1);
            Checks.unchanged("write(10)", almost, x -> Checks.due("one place", x.write(10), false));
        }
        Checks.unchanged("write(97)", Samples.all().get("full"), x -> Checks.due("full", x.write('a'), false));
    }

    private static TtyDiscipline leaving(int outCap, int room) {
        TtyDiscipline x = new TtyDiscipline(8, 16, outCap);
        Checks.turnOutput(x, 20);
        Checks.type(x, "a\t");
        Checks.leaveRoom(x, outCap, room);
        return x;
    }

    private static void fits() {
        int[] caps = {32, 33, 63, 64};
        for (int outCap : caps) {
            TtyDiscipline x = leaving(outCap, 1);
            Checks.due("one byte in one place", x.write('z'), true);
            Checks.due("last", x.outputAt(outCap - 1), 'z');
            Checks.due("full", x.query(TtyDiscipline.Q_OUTPUT_COUNT), outCap);
            x = leaving(outCap, 2);
            Checks.due("newline in two places", x.write(10), true);
            Checks.due("13", x.outputAt(outCap - 2), 13);
            Checks.due("10", x.outputAt(outCap - 1), 10);
            Checks.due("column", x.query(TtyDiscipline.Q_COLUMN), 0);
            x.transmit();
            Checks.due("a place that was freed", x.write(9), true);
            Checks.due("column", x.query(TtyDiscipline.Q_COLUMN), 8);
            Checks.due("full again", x.write(9), false);
        }
    }

    private static void stopped() {
        TtyDiscipline x = Checks.small();
        x.receive(19);
        for (int i = 0; i < 32; i++) {
            Checks.due("write", x.write('a'), true);
        }
        Checks.due("full", x.write('a'), false);
        Checks.due("still stopped", x.query(TtyDiscipline.Q_STOPPED), 1);
        Checks.due("count", x.query(TtyDiscipline.Q_OUTPUT_COUNT), 32);
    }

    private static void flags() {
        int[] bytes = {'a', 9, 10, 3, 26, 127, 23, 21, 4, 17, 19, 0};
        for (int flags = 0; flags < 32; flags++) {
            TtyDiscipline x = Checks.fresh();
            x.setFlags(flags);
            for (int b : bytes) {
                Checks.due("write(" + b + ") with flags " + flags, x.write(b), true);
            }
            Checks.due("output", Checks.output(x), "97 9 13 10 3 26 127 23 21 4 17 19 0");
            Checks.due("stopped", x.query(TtyDiscipline.Q_STOPPED), 0);
            Checks.due("signals", x.query(TtyDiscipline.Q_SIGNALS), 0);
            Checks.due("line", x.query(TtyDiscipline.Q_LINE_LENGTH), 0);
        }
    }
}
