import java.util.LinkedHashMap;
import java.util.Map;
import java.util.function.Supplier;

/** Objects in very different states, to try on each of them what must hold in every state. */
final class Samples {
    private Samples() { }

    static Map<String, Supplier<TtyDiscipline>> all() {
        Map<String, Supplier<TtyDiscipline>> all = new LinkedHashMap<>();
        all.put("new", Checks::fresh);
        all.put("least", Checks::small);
        all.put("editing", Samples::editing);
        all.put("lines", Samples::lines);
        all.put("raw", Samples::raw);
        all.put("interrupted", Samples::interrupted);
        all.put("turned", Samples::turned);
        all.put("full", Samples::full);
        return all;
    }

    /** An unfinished line with bytes of several widths, and a read that waits for its end. */
    private static TtyDiscipline editing() {
        TtyDiscipline x = Checks.fresh();
        x.setForeground(77);
        Checks.write(x, 'w', 3);
        Checks.type(x, "a\t\1 b");
        x.startRead(9);
        x.tick(5);
        return x;
    }

    /** Finished lines and marks in the input queue, bytes of an earlier read, stopped output. */
    private static TtyDiscipline lines() {
        TtyDiscipline x = Checks.fresh();
        x.receive(26);
        Checks.type(x, "abc\nde\n\4\4fg");
        x.startRead(3);
        x.tick(2);
        x.receive(19);
        return x;
    }

    /** A non-canonical read that waits for more bytes. */
    private static TtyDiscipline raw() {
        TtyDiscipline x = Checks.fresh();
        x.setFlags(TtyDiscipline.ECHO | TtyDiscipline.ISIG);
        x.setControl(TtyDiscipline.C_MIN, 20);
        x.setControl(TtyDiscipline.C_TIME, 9);
        Checks.type(x, "a\nb\0c");
        x.startRead(30);
        x.tick(8);
        return x;
    }

    private static TtyDiscipline interrupted() {
        TtyDiscipline x = Checks.small();
        Checks.type(x, "ab\ncd");
        x.startRead(3);
        x.startRead(5);
        x.tick(7);
        x.receive(3);
        Checks.type(x, "x\t");
        return x;
    }

    /** Queues whose contents pass the end of their places. */
    private static TtyDiscipline turned() {
        TtyDiscipline x = Checks.fresh();
        for (int i = 0; i < 6; i++) {
            x.receive(i % 2 == 0 ? 3 : 26);
            x.takeSignal();
        }
        for (int i = 1; i <= 5; i++) {
            x.setForeground(i);
            x.receive(26);
        }
        Checks.turnInput(x, 59);
        Checks.turnOutput(x, 59);
        Checks.type(x, "hello\nworld\n\4again\n");
        x.startRead(64);
        x.startRead(3);
        return x;
    }

    /** Nothing has room left, neither of the queues nor the line. */
    private static TtyDiscipline full() {
        TtyDiscipline x = Checks.small();
        for (int i = 0; i < 8; i++) {
            x.receive(3);
        }
        x.setFlags(0);
        for (int i = 0; i < 64; i++) {
            x.receive(i);
            x.startRead(1);
        }
        for (int i = 0; i < 16; i++) {
            x.receive('A' + i);
        }
        x.setFlags(31);
        Checks.type(x, "abcdefgh");
        Checks.leaveRoom(x, 32, 0);
        return x;
    }
}
