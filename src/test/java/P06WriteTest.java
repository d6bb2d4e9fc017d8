/** Promise 6: write, with the rules COLUMN and UNITS. */
final class P06WriteTest {
    public static void main(String[] args) {
        everyByte();
        columns();
        full();
        whileStopped();
        flagsDoNotMatter();
        onlyLowBitsCount();
        Checks.end();
    }

    private static void everyByte() {
        for (int start = 0; start <= 9; start++) {
            for (int b = 0; b <= 255; b++) {
                TtyDiscipline x = Checks.fresh();
                Checks.write(x, 'w', start);
                Checks.transmitAll(x);
                Checks.due("write(" + b + ")", x.write(b), true);
                Checks.due("output of " + b, Checks.output(x), b == 10 ? "13 10" : "" + b);
                Checks.due("column of " + b + " at " + start, x.query(TtyDiscipline.Q_COLUMN),
                    columnAfter(b, start));
            }
        }
    }

    private static int columnAfter(int b, int column) {
        switch (b) {
            case 8: return Math.max(0, column - 1);
            case 9: return (column / 8 + 1) * 8;
            case 10: case 13: return 0;
            case 127: return column;
            default: return b < 32 ? column : column + 1;
        }
    }

    private static void columns() {
        TtyDiscipline x = Checks.fresh();
        int[][] steps = {{'a', 1}, {9, 8}, {9, 16}, {8, 15}, {9, 16}, {13, 0}, {8, 0}, {255, 1}, {128, 2},
            {127, 2}, {27, 2}, {32, 3}, {126, 4}, {10, 0}};
        for (int[] step : steps) {
            x.write(step[0]);
            Checks.due("column after " + step[0], x.query(TtyDiscipline.Q_COLUMN), step[1]);
        }
    }

    private static void full() {
        TtyDiscipline x = Checks.small();
        Checks.write(x, 'w', 31);
        String before = Checks.state(x);
        Checks.due("newline in one place", x.write(10), false);
        Checks.due("nothing changes", Checks.state(x), before);
        Checks.due("one byte in one place", x.write('z'), true);
        before = Checks.state(x);
        int[] bytes = {'a', 9, 8, 10, 13, 0};
        for (int b : bytes) {
            Checks.due("full: write(" + b + ")", x.write(b), false);
        }
        Checks.due("nothing changes", Checks.state(x), before);
        x.transmit();
        x.transmit();
        Checks.due("newline in two places", x.write(10), true);
        Checks.due("head", x.outputAt(0), 'w');
        Checks.due("last", x.outputAt(31), 10);
        Checks.due("lost output is not counted", x.query(TtyDiscipline.Q_DROPPED), 0);
    }

    private static void whileStopped() {
        TtyDiscipline x = Checks.fresh();
        x.receive(19);
        Checks.due("write", x.write('a'), true);
        Checks.due("output", Checks.output(x), "97");
        Checks.due("stopped", x.query(TtyDiscipline.Q_STOPPED), 1);
    }

    private static void flagsDoNotMatter() {
        for (int flags = 0; flags < 32; flags++) {
            TtyDiscipline x = Checks.fresh();
            x.setFlags(flags);
            int[] bytes = {'a', 3, 10, 127};
            for (int b : bytes) {
                Checks.due("write(" + b + ")", x.write(b), true);
            }
            Checks.due("output", Checks.output(x), "97 3 13 10 127");
            Checks.due("signals", x.query(TtyDiscipline.Q_SIGNALS), 0);
        }
    }

    private static void onlyLowBitsCount() {
        TtyDiscipline x = Checks.fresh();
        int[] values = {256 + 'a', -256 + 'b', Integer.MIN_VALUE + 10, -1, 256, Integer.MAX_VALUE};
        for (int c : values) {
            Checks.due("write(" + c + ")", x.write(c), true);
        }
        Checks.due("output", Checks.output(x), "97 98 13 10 255 0 255");
    }
}
