import java.util.Map;
import java.util.function.Supplier;

/** The boundary cases of promises 10, 11 and 12: readStatus, takeByte and takeSignal. */
final class E10To12TakeTest {
    public static void main(String[] args) {
        Checks.sentence("readStatus answers READ_PENDING while a read is pending", E10To12TakeTest::pending);
        Checks.sentence("otherwise the last result: a count 0..64", E10To12TakeTest::counts);
        Checks.sentence("READ_INTERRUPTED", E10To12TakeTest::interrupted);
        Checks.sentence("or READ_NONE if no read has ended yet.", E10To12TakeTest::noneYet);
        Checks.sentence("readStatus changes nothing.", E10To12TakeTest::lookingChangesNothing);

        Checks.sentence("takeByte removes and answers the head of the user buffer", E10To12TakeTest::bytes);
        Checks.sentence("takeByte: or -1 if it is empty (no change).", E10To12TakeTest::noByte);
        Checks.sentence("takeSignal removes and answers the head of the signal queue (pgrp * 32 + signal)",
            E10To12TakeTest::signals);
        Checks.sentence("takeSignal: or -1 if it is empty (no change).", E10To12TakeTest::noSignal);
        Checks.end();
    }

    private static void pending() {
        TtyDiscipline x = Checks.fresh();
        x.startRead(64);
        Checks.due("the first read", x.readStatus(), TtyDiscipline.READ_PENDING);
        x.tick(1000);
        x.receive('a');
        x.write('a');
        Checks.due("it goes on", x.readStatus(), TtyDiscipline.READ_PENDING);
        x.receive(10);
        Checks.due("a count", x.readStatus(), 2);
        x.startRead(1);
        Checks.due("a read after a count", x.readStatus(), TtyDiscipline.READ_PENDING);
        x.receive(3);
        x.startRead(1);
        Checks.due("a read after an interrupt", x.readStatus(), TtyDiscipline.READ_PENDING);
    }

    private static void counts() {
        for (int n = 0; n <= 64; n++) {
            TtyDiscipline x = Checks.fresh();
            x.setFlags(0);
            x.setControl(TtyDiscipline.C_MIN, 0);
            Checks.putInput(x, 0, n);
            x.startRead(64);
            Checks.due(n + " bytes", x.readStatus(), n);
            x.takeByte();
            Checks.due("after a byte was taken", x.readStatus(), n);
        }
    }

    private static void interrupted() {
        TtyDiscipline x = Checks.fresh();
        x.startRead(1);
        x.receive(26);
        Checks.due("interrupted", x.readStatus(), TtyDiscipline.READ_INTERRUPTED);
        x.receive(10);
        x.tick(1000);
        Checks.due("later", x.readStatus(), TtyDiscipline.READ_INTERRUPTED);
    }

    private static void noneYet() {
        TtyDiscipline x = Checks.fresh();
        Checks.due("new", x.readStatus(), TtyDiscipline.READ_NONE);
        Checks.type(x, "a\n\3");
        x.startRead(0);
        x.startRead(65);
        x.tick(1);
        x.setFlags(0);
        x.setControl(TtyDiscipline.C_MIN, 0);
        Checks.due("no read was begun", x.readStatus(), TtyDiscipline.READ_NONE);
    }

    private static void lookingChangesNothing() {
        for (Map.Entry<String, Supplier<TtyDiscipline>> sample : Samples.all().entrySet()) {
            Checks.unchanged("readStatus() on " + sample.getKey(), sample.getValue(), x -> {
                x.readStatus();
                x.readStatus();
            });
        }
    }

    /** A full buffer, read in several pieces, from each place of its ring. */
    private static void bytes() {
        for (int turn = 0; turn < 64; turn++) {
            TtyDiscipline x = Checks.fresh();
            Checks.turnInput(x, turn);
            x.setFlags(0);
            int[] pieces = {1, 30, 33};
            int first = 0;
            for (int n : pieces) {
                Checks.putInput(x, first, n);
                x.startRead(n);
                first += n;
            }
            for (int i = 0; i < 64; i++) {
                Checks.due("left", x.query(TtyDiscipline.Q_USER_COUNT), 64 - i);
                Checks.due("byte " + i, x.takeByte(), i);
            }
            Checks.due("empty", x.takeByte(), -1);
        }
        TtyDiscipline x = Checks.fresh();
        x.setFlags(0);
        int[] edges = {0, 255, 128, 127, 10};
        for (int b : edges) {
            x.receive(b);
        }
        x.startRead(64);
        Checks.due("every kind of byte", Checks.takeBytes(x), "0 255 128 127 10");
    }

    private static void noByte() {
        for (Map.Entry<String, Supplier<TtyDiscipline>> sample : Samples.all().entrySet()) {
            Supplier<TtyDiscipline> emptied = () -> {
                TtyDiscipline x = sample.getValue().get();
                Checks.takeBytes(x);
                return x;
            };
            Checks.unchanged("takeByte() on " + sample.getKey(), emptied, x -> {
                Checks.due("takeByte()", x.takeByte(), -1);
                Checks.due("takeByte()", x.takeByte(), -1);
            });
        }
    }

    /** A full queue from each place of its ring. */
    private static void signals() {
        for (int turn = 0; turn < 8; turn++) {
            TtyDiscipline x = Checks.fresh();
            for (int i = 0; i < turn; i++) {
                x.receive(3);
                x.takeSignal();
            }
            int[] groups = {1, 30000, 2, 29999, 3, 16384, 255, 256};
            for (int i = 0; i < 8; i++) {
                x.setForeground(groups[i]);
                x.receive(i % 2 == 0 ? 3 : 26);
            }
            for (int i = 0; i < 8; i++) {
                Checks.due("left", x.query(TtyDiscipline.Q_SIGNALS), 8 - i);
                Checks.due("signal " + i, x.takeSignal(), groups[i] * 32 + (i % 2 == 0 ? 2 : 20));
            }
            Checks.due("empty", x.takeSignal(), -1);
        }
    }

    private static void noSignal() {
        for (Map.Entry<String, Supplier<TtyDiscipline>> sample : Samples.all().entrySet()) {
            Supplier<TtyDiscipline> emptied = () -> {
                TtyDiscipline x = sample.getValue().get();
                Checks.takeSignals(x);
                return x;
            };
            Checks.unchanged("takeSignal() on " + sample.getKey(), emptied, x -> {
                Checks.due("takeSignal()", x.takeSignal(), -1);
                Checks.due("takeSignal()", x.takeSignal(), -1);
            });
        }
    }
}
