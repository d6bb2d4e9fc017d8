/** Promises 14, 15 and 16: lineAt, inputAt and outputAt. */
final class P14To16AtTest {
    private static final int[] OUTSIDE = {Integer.MIN_VALUE, -64, -1, 64, 65, 1 << 30, Integer.MAX_VALUE};

    public static void main(String[] args) {
        emptyQueues();
        lineAt();
        inputAt();
        outputAt();
        Checks.end();
    }

    private static void emptyQueues() {
        TtyDiscipline x = Checks.fresh();
        Checks.type(x, "ab\n");
        x.startRead(9);
        Checks.transmitAll(x);
        for (int i = -2; i <= 70; i++) {
            Checks.due("lineAt(" + i + ")", x.lineAt(i), -1);
            Checks.due("inputAt(" + i + ")", x.inputAt(i), -1);
            Checks.due("outputAt(" + i + ")", x.outputAt(i), -1);
        }
    }

    private static void lineAt() {
        TtyDiscipline x = Checks.fresh();
        for (int n = 1; n <= 32; n++) {
            x.receive(160 + n);
            for (int i = 0; i < n; i++) {
                Checks.due("lineAt(" + i + ")", x.lineAt(i), 161 + i);
            }
            Checks.due("lineAt(" + n + ")", x.lineAt(n), -1);
        }
        String before = Checks.state(x);
        for (int i : OUTSIDE) {
            Checks.due("lineAt(" + i + ")", x.lineAt(i), -1);
        }
        Checks.due("nothing changes", Checks.state(x), before);
        x.receive(127);
        Checks.due("lineAt(31) after ERASE", x.lineAt(31), -1);
        Checks.due("lineAt(30) after ERASE", x.lineAt(30), 191);
    }

    private static void inputAt() {
        TtyDiscipline x = Checks.fresh();
        x.setFlags(0);
        for (int i = 0; i < 40; i++) {
            x.receive(i);
        }
        x.startRead(40);
        for (int i = 0; i < 63; i++) {
            x.receive(255 - i);
        }
        x.setFlags(1);
        x.receive(4);
        for (int i = 0; i < 63; i++) {
            Checks.due("inputAt(" + i + ")", x.inputAt(i), 255 - i);
        }
        Checks.due("inputAt(63)", x.inputAt(63), 256);
        String before = Checks.state(x);
        for (int i : OUTSIDE) {
            Checks.due("inputAt(" + i + ")", x.inputAt(i), -1);
        }
        Checks.due("nothing changes", Checks.state(x), before);
        x.startRead(20);
        Checks.due("head", x.inputAt(0), 235);
        Checks.due("end", x.inputAt(44), -1);
    }

    private static void outputAt() {
        TtyDiscipline x = Checks.fresh();
        Checks.write(x, 'w', 50);
        Checks.transmitAll(x);
        for (int i = 0; i < 64; i++) {
            x.write(i == 10 ? 200 : i);
        }
        for (int i = 0; i < 64; i++) {
            Checks.due("outputAt(" + i + ")", x.outputAt(i), i == 10 ? 200 : i);
        }
        String before = Checks.state(x);
        for (int i : OUTSIDE) {
            Checks.due("outputAt(" + i + ")", x.outputAt(i), -1);
        }
        Checks.due("nothing changes", Checks.state(x), before);
        x.transmit();
        Checks.due("head", x.outputAt(0), 1);
        Checks.due("end", x.outputAt(63), -1);
    }
}
