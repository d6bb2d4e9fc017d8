/** Promise 9: startRead, with the rule COMPLETION CHECK. */
final class P09StartReadTest {
    public static void main(String[] args) {
        refusals();
        roomInTheUserBuffer();
        pending();
        canonicalLines();
        canonicalMarks();
        canonicalNeedsAnEnding();
        minAndTimeZero();
        minOnly();
        timeOnly();
        minAndTime();
        rawMovesUpToMax();
        lastResultStays();
        everyCallChecks();
        Checks.end();
    }

    private static TtyDiscipline raw(int min, int time) {
        TtyDiscipline x = Checks.fresh();
        x.setFlags(0);
        x.setControl(TtyDiscipline.C_MIN, min);
        x.setControl(TtyDiscipline.C_TIME, time);
        return x;
    }

    private static void status(String what, TtyDiscipline x, int due) {
        Checks.due(what, x.readStatus(), due);
    }

    private static void refusals() {
        int[] wrong = {Integer.MIN_VALUE, -1, 0, 65, 1000, Integer.MAX_VALUE};
        for (int max : wrong) {
            TtyDiscipline x = Checks.fresh();
            Checks.type(x, "a\n");
            String before = Checks.state(x);
            Checks.due("startRead(" + max + ")", x.startRead(max), false);
            Checks.due("state", Checks.state(x), before);
        }
        TtyDiscipline x = Checks.fresh();
        Checks.due("startRead(64)", x.startRead(64), true);
        Checks.due("a read is pending", x.startRead(1), false);
        x = Checks.fresh();
        Checks.due("startRead(1)", x.startRead(1), true);
        x.tick(5);
        String before = Checks.state(x);
        Checks.due("a read is pending", x.startRead(2), false);
        Checks.due("state", Checks.state(x), before);
        Checks.type(x, "ab\n");
        status("the first max holds", x, 1);
    }

    private static void roomInTheUserBuffer() {
        TtyDiscipline x = raw(1, 0);
        for (int i = 0; i < 64; i++) {
            x.receive(i);
        }
        Checks.due("60 of 64", x.startRead(60), true);
        Checks.due("user", x.query(TtyDiscipline.Q_USER_COUNT), 60);
        Checks.due("5 do not fit", x.startRead(5), false);
        Checks.due("4 do", x.startRead(4), true);
        status("4 read", x, 4);
        Checks.due("none fits", x.startRead(1), false);
        Checks.due("first", x.takeByte(), 0);
        Checks.due("one fits", x.startRead(1), true);
        status("nothing there", x, TtyDiscipline.READ_PENDING);
        x.receive(99);
        status("one read", x, 1);
        for (int i = 1; i < 64; i++) {
            Checks.due("user buffer", x.takeByte(), i);
        }
        Checks.due("user buffer", x.takeByte(), 99);
        Checks.due("user buffer", x.takeByte(), -1);
    }

    private static void pending() {
        TtyDiscipline x = Checks.fresh();
        String before = Checks.state(x);
        x.startRead(9);
        Checks.due("state", Checks.state(x), before.replace("read=-1", "read=-3"));
        x.tick(3);
        Checks.type(x, "a");
        status("an unfinished line", x, TtyDiscipline.READ_PENDING);
        x.receive(10);
        status("a finished one", x, 2);
        Checks.due("idle", x.query(TtyDiscipline.Q_IDLE), 3);
        x.startRead(9);
        Checks.due("idle of a new read", x.query(TtyDiscipline.Q_IDLE), 0);
    }

    private static void canonicalLines() {
        TtyDiscipline x = Checks.fresh();
        Checks.type(x, "abc\nde\n\n");
        x.startRead(2);
        status("part of a line", x, 2);
        x.startRead(2);
        status("its rest", x, 2);
        Checks.due("bytes", Checks.takeBytes(x), "97 98 99 10");
        x.startRead(64);
        status("no more than a line", x, 3);
        Checks.due("input", Checks.input(x), "10");
        x.startRead(1);
        status("an empty line", x, 1);
        Checks.due("bytes", Checks.takeBytes(x), "100 101 10 10");
    }

    private static void canonicalMarks() {
        TtyDiscipline x = Checks.fresh();
        Checks.type(x, "ab\4cd\4\4ef\4");
        x.startRead(64);
        status("up to the mark", x, 2);
        Checks.due("the mark is gone", Checks.input(x), "99 100 256 256 101 102 256");
        x.startRead(2);
        status("exactly max", x, 2);
        Checks.due("the mark behind it is gone", Checks.input(x), "256 101 102 256");
        x.startRead(5);
        status("end of file", x, 0);
        x.startRead(1);
        status("less than a line", x, 1);
        Checks.due("the mark stays", Checks.input(x), "102 256");
        Checks.due("bytes", Checks.takeBytes(x), "97 98 99 100 101");
        x.startRead(3);
        status("the rest", x, 1);
        x = Checks.fresh();
        Checks.type(x, "a\n\4");
        x.startRead(2);
        status("a newline ends it before the mark", x, 2);
        Checks.due("the mark stays", Checks.input(x), "256");
    }

    private static void canonicalNeedsAnEnding() {
        TtyDiscipline x = Checks.fresh();
        x.setFlags(0);
        Checks.type(x, "abc");
        x.setFlags(31);
        x.startRead(2);
        status("three bytes without ending", x, TtyDiscipline.READ_PENDING);
        Checks.type(x, "d");
        status("the line is not passed", x, TtyDiscipline.READ_PENDING);
        x.receive(4);
        status("now it is", x, 2);
        Checks.due("input", Checks.input(x), "99 100 256");
        x.startRead(9);
        status("the rest", x, 2);
    }

    private static void minAndTimeZero() {
        TtyDiscipline x = raw(0, 0);
        x.startRead(4);
        status("at once", x, 0);
        Checks.type(x, "abcdef");
        x.startRead(4);
        status("what is there", x, 4);
        x.startRead(4);
        status("the rest", x, 2);
        Checks.due("bytes", Checks.takeBytes(x), "97 98 99 100 101 102");
    }

    private static void minOnly() {
        TtyDiscipline x = raw(3, 0);
        x.startRead(5);
        Checks.type(x, "ab");
        x.tick(1000);
        status("two of three", x, TtyDiscipline.READ_PENDING);
        x.receive('c');
        status("three", x, 3);
        x.startRead(2);
        x.receive('d');
        status("one of max two", x, TtyDiscipline.READ_PENDING);
        x.receive('e');
        status("max is less than MIN", x, 2);
        x = raw(255, 0);
        x.startRead(1);
        x.receive('a');
        status("MIN 255, max 1", x, 1);
    }

    private static void timeOnly() {
        TtyDiscipline x = raw(0, 5);
        x.startRead(3);
        x.tick(4);
        status("4 of 5", x, TtyDiscipline.READ_PENDING);
        x.receive('a');
        status("one byte is enough", x, 1);
        x.startRead(3);
        x.tick(5);
        status("time is over", x, 0);
        x.receive('b');
        x.receive('c');
        x.startRead(3);
        status("bytes were there", x, 2);
    }

    private static void minAndTime() {
        TtyDiscipline x = raw(3, 5);
        x.startRead(9);
        x.tick(1000);
        status("no time limit before the first byte", x, TtyDiscipline.READ_PENDING);
        x.receive('a');
        Checks.due("the byte restarts the timer", x.query(TtyDiscipline.Q_IDLE), 0);
        x.tick(4);
        x.receive('b');
        x.tick(4);
        status("between bytes", x, TtyDiscipline.READ_PENDING);
        x.tick(1);
        status("too long between bytes", x, 2);
        x.startRead(9);
        Checks.type(x, "cde");
        status("MIN is reached", x, 3);
        x.startRead(2);
        Checks.type(x, "fg");
        status("max is reached", x, 2);
        x.receive('h');
        x.startRead(9);
        x.tick(4);
        status("a byte from before", x, TtyDiscipline.READ_PENDING);
        x.tick(1);
        status("counts for the timer", x, 1);
    }

    private static void rawMovesUpToMax() {
        TtyDiscipline x = raw(1, 0);
        Checks.type(x, "ab\ncdef");
        x.startRead(5);
        status("newlines are bytes", x, 5);
        Checks.due("bytes", Checks.takeBytes(x), "97 98 10 99 100");
        Checks.due("input", Checks.input(x), "101 102");
    }

    private static void lastResultStays() {
        TtyDiscipline x = raw(2, 0);
        Checks.type(x, "ab");
        x.startRead(2);
        status("two", x, 2);
        x.startRead(9);
        status("pending", x, TtyDiscipline.READ_PENDING);
        Checks.due("refused", x.startRead(9), false);
        x.setControl(TtyDiscipline.C_MIN, 0);
        status("none", x, 0);
        Checks.due("refused", x.startRead(0), false);
        status("a refused read changes nothing", x, 0);
    }

    /** write, transmit, takeByte, takeSignal and setForeground do not run the check. */
    private static void everyCallChecks() {
        TtyDiscipline x = raw(9, 0);
        Checks.type(x, "abc");
        x.startRead(9);
        x.write('a');
        x.transmit();
        x.takeByte();
        x.takeSignal();
        x.setForeground(3);
        x.query(1);
        status("pending", x, TtyDiscipline.READ_PENDING);
        x.setControl(TtyDiscipline.C_STOP, 'q');
        x.setFlags(TtyDiscipline.IXON);
        Checks.due("STOP", x.receive('q'), TtyDiscipline.IN_STOPPED);
        status("pending", x, TtyDiscipline.READ_PENDING);
        x.setControl(TtyDiscipline.C_MIN, 3);
        status("three are there", x, 3);
    }
}
