/** The boundary cases of COMPLETION CHECK, sentence by sentence. */
final class E00CompletionTest {
    private static final int EOF = 4, PENDING = TtyDiscipline.READ_PENDING;

    public static void main(String[] args) {
        Checks.sentence("Run at the end of startRead, ...", E00CompletionTest::afterStartRead);
        Checks.sentence("... receive, ...", E00CompletionTest::afterReceive);
        Checks.sentence("... tick, ...", E00CompletionTest::afterTick);
        Checks.sentence("... a successful setControl, ...", E00CompletionTest::afterSetControl);
        Checks.sentence("... and setFlags;", E00CompletionTest::afterSetFlags);
        Checks.sentence("it does nothing unless a read is pending.", E00CompletionTest::withoutRead);

        Checks.sentence("completes only if the input queue holds an entry equal to 10 or EOF_MARK.",
            E00CompletionTest::needsAnEnding);
        Checks.sentence("completes only if the input queue holds an entry ... (one that has left it does not count)",
            E00CompletionTest::endingsThatHaveLeft);
        Checks.sentence("completes ... if the input queue holds an entry equal to 10 or EOF_MARK (at any place)",
            E00CompletionTest::endingAtAnyPlace);
        Checks.sentence("if h == EOF_MARK remove it and stop", E00CompletionTest::markAtTheHead);
        Checks.sentence("if h == EOF_MARK remove it and stop (asked before count == max)",
            E00CompletionTest::markBehindMax);
        Checks.sentence("if count == max stop", E00CompletionTest::maxBeforeTheEnd);
        Checks.sentence("if h == 10 stop", E00CompletionTest::newlineEnds);

        Checks.sentence("m == 0 and t == 0: always", E00CompletionTest::always);
        Checks.sentence("need = min(m, max)", E00CompletionTest::need);
        Checks.sentence("t == 0 (m > 0): a >= need", E00CompletionTest::minOnly);
        Checks.sentence("m == 0 (t > 0): a >= 1 or idle >= t", E00CompletionTest::timeOnly);
        Checks.sentence("m > 0 and t > 0: a >= need, ...", E00CompletionTest::minBeforeTime);
        Checks.sentence("... or (a >= 1 and idle >= t).", E00CompletionTest::timeAfterAByte);
        Checks.sentence("the first min(a, max) entries move in order from the input queue to the user buffer; "
            + "count = that number.", E00CompletionTest::howMuchMoves);
        Checks.sentence("Completing sets pending to false and last read result to count "
            + "(0 means end of file or timeout).", E00CompletionTest::completing);
        Checks.sentence("Without completion nothing changes.", E00CompletionTest::notCompleting);
        Checks.end();
    }

    private static TtyDiscipline raw(int min, int time) {
        TtyDiscipline x = Checks.fresh();
        x.setFlags(0);
        x.setControl(TtyDiscipline.C_MIN, min);
        x.setControl(TtyDiscipline.C_TIME, time);
        return x;
    }

    private static void status(String what, TtyDiscipline x, int due) {
        Checks.due(what + ": readStatus()", x.readStatus(), due);
    }

    // ---- when it runs ----

    private static void afterStartRead() {
        TtyDiscipline x = Checks.fresh();
        Checks.type(x, "ab\n");
        x.startRead(9);
        status("a line is there", x, 3);
        x.receive(EOF);
        x.startRead(9);
        status("a mark is there", x, 0);
        x = raw(2, 0);
        Checks.type(x, "ab");
        x.startRead(9);
        status("MIN bytes are there", x, 2);
        x = raw(0, 0);
        x.startRead(9);
        status("nothing is needed", x, 0);
    }

    private static void afterReceive() {
        TtyDiscipline x = Checks.fresh();
        x.startRead(9);
        x.receive('a');
        status("a", x, PENDING);
        x.receive(10);
        status("a newline", x, 2);
        x.startRead(9);
        x.receive(EOF);
        status("EOF", x, 0);
        x = raw(2, 0);
        x.startRead(9);
        x.receive('a');
        status("one of two", x, PENDING);
        x.receive('b');
        status("two of two", x, 2);
    }

    private static void afterTick() {
        TtyDiscipline x = raw(0, 3);
        x.startRead(9);
        x.tick(2);
        status("2 of 3", x, PENDING);
        x.tick(1);
        status("3 of 3", x, 0);
    }

    private static void afterSetControl() {
        TtyDiscipline x = raw(3, 0);
        Checks.type(x, "ab");
        x.startRead(9);
        Checks.due("refused", x.setControl(TtyDiscipline.C_MIN, -1), false);
        Checks.due("refused", x.setControl(TtyDiscipline.C_MIN, 256), false);
        status("refused", x, PENDING);
        x.setControl(TtyDiscipline.C_MIN, 2);
        status("MIN 2", x, 2);
        x = raw(3, 0);
        x.receive('a');
        x.startRead(9);
        x.tick(4);
        x.setControl(TtyDiscipline.C_TIME, 5);
        status("TIME 5 at 4", x, PENDING);
        x.setControl(TtyDiscipline.C_TIME, 4);
        status("TIME 4 at 4", x, 1);
    }

    private static void afterSetFlags() {
        TtyDiscipline x = raw(9, 0);
        Checks.type(x, "ab\nc");
        x.startRead(9);
        x.setFlags(TtyDiscipline.ECHO);
        status("still raw", x, PENDING);
        x.setFlags(TtyDiscipline.ICANON);
        status("a line in canonical mode", x, 3);
        x = Checks.fresh();
        Checks.type(x, "ab");
        x.startRead(9);
        x.setFlags(31);
        status("still canonical", x, PENDING);
        x.setFlags(30);
        status("the line as raw bytes", x, 2);
        x = Checks.fresh();
        x.setControl(TtyDiscipline.C_MIN, 9);
        x.setControl(TtyDiscipline.C_TIME, 4);
        x.receive('a');
        x.startRead(9);
        x.tick(4);
        status("time does not count yet", x, PENDING);
        x.setFlags(30);
        status("now it does", x, 1);
    }

    private static void withoutRead() {
        TtyDiscipline x = raw(0, 0);
        Checks.type(x, "ab\n");
        x.tick(1000);
        x.setControl(TtyDiscipline.C_MIN, 1);
        x.setFlags(31);
        x.receive(EOF);
        x.setFlags(0);
        Checks.due("input", Checks.input(x), "97 98 10");
        Checks.due("user count", x.query(TtyDiscipline.Q_USER_COUNT), 0);
        status("no read yet", x, TtyDiscipline.READ_NONE);
        x.startRead(2);
        x.receive('c');
        x.tick(1);
        status("the read is over", x, 2);
        Checks.due("input", Checks.input(x), "10 99");
        Checks.due("user count", x.query(TtyDiscipline.Q_USER_COUNT), 2);
    }

    // ---- canonical ----

    private static void needsAnEnding() {
        TtyDiscipline x = Checks.fresh();
        x.setControl(TtyDiscipline.C_MIN, 0);
        x.startRead(1);
        status("empty", x, PENDING);
        x.tick(1000);
        status("time does not count", x, PENDING);
        Checks.type(x, "a\r\0");
        status("an unfinished line", x, PENDING);

        x = Checks.fresh();
        x.setFlags(0);
        for (int i = 0; i < 64; i++) {
            x.receive(i == 10 ? 0 : i);
        }
        x.setFlags(31);
        Checks.due("full of bytes that end nothing", x.query(TtyDiscipline.Q_INPUT_COUNT), 64);
        x.startRead(1);
        status("full without ending", x, PENDING);
        x.receive(10);
        status("a newline that is dropped ends nothing", x, PENDING);
        x.receive(EOF);
        status("nor does a lost mark", x, PENDING);
        Checks.due("user count", x.query(TtyDiscipline.Q_USER_COUNT), 0);
    }

    /** Every place of the ring has held an ending, then the queue is emptied by reading or by a signal. */
    private static void endingsThatHaveLeft() {
        int[] endings = {10, EOF};
        for (int ending : endings) {
            for (int bytes = 0; bytes < 64; bytes++) {
                TtyDiscipline x = Checks.fresh();
                for (int i = 0; i < 64 + bytes; i++) {
                    x.receive(ending);
                    x.startRead(1);
                    x.takeByte();
                }
                Checks.putInput(x, 'A', bytes);
                x.startRead(1);
                status(bytes + " bytes where endings were", x, PENDING);
            }
            for (int bytes = 0; bytes <= 3; bytes++) {
                TtyDiscipline x = Checks.fresh();
                for (int i = 0; i < 64; i++) {
                    x.receive(ending);
                }
                x.receive(3);
                Checks.putInput(x, 'A', bytes);
                x.startRead(1);
                status(bytes + " bytes where endings were flushed", x, PENDING);
            }
        }
    }

    /** The ending stands at each place of the queue, and the queue begins at each place of its ring. */
    private static void endingAtAnyPlace() {
        int[] endings = {10, EOF};
        for (int ending : endings) {
            for (int place = 0; place < 64; place++) {
                TtyDiscipline x = Checks.fresh();
                Checks.turnInput(x, place * 5 % 64);
                Checks.putInput(x, 'A', place);
                x.receive(ending);
                x.startRead(64);
                status("ending at " + place, x, ending == 10 ? place + 1 : place);
                Checks.due("bytes", Checks.takeBytes(x),
                    Checks.join(Checks.row('A', place), ending == 10 ? "10" : ""));
                Checks.due("input", Checks.input(x), "");
            }
        }
    }

    private static void markAtTheHead() {
        TtyDiscipline x = Checks.fresh();
        Checks.type(x, "\4\4\4a\n");
        for (int marks = 2; marks >= 0; marks--) {
            x.startRead(5);
            status("one mark", x, 0);
            Checks.due("input", Checks.input(x), Checks.join(Checks.times(256, marks), "97 10"));
            Checks.due("user count", x.query(TtyDiscipline.Q_USER_COUNT), 0);
        }
        x.startRead(5);
        status("the line behind them", x, 2);

        x = Checks.fresh();
        Checks.type(x, "ab\4c\n");
        x.startRead(5);
        status("bytes before the mark", x, 2);
        Checks.due("bytes", Checks.takeBytes(x), "97 98");
        Checks.due("only the mark is gone", Checks.input(x), "99 10");
    }

    private static void markBehindMax() {
        int[] counts = {1, 2, 31};
        for (int n : counts) {
            TtyDiscipline x = Checks.fresh();
            Checks.putInput(x, 'A', n);
            Checks.type(x, "\4\4z\n");
            x.startRead(n);
            status("exactly max bytes before the mark", x, n);
            Checks.due("that mark is gone, the next stays", Checks.input(x), "256 122 10");
        }
        TtyDiscipline x = Checks.fresh();
        Checks.type(x, "ab\4");
        x.startRead(1);
        status("one less than the line", x, 1);
        Checks.due("the mark stays", Checks.input(x), "98 256");
        x.startRead(1);
        status("the rest", x, 1);
        Checks.due("the mark went with it", Checks.input(x), "");
    }

    private static void maxBeforeTheEnd() {
        for (int max = 1; max <= 5; max++) {
            TtyDiscipline x = Checks.fresh();
            Checks.type(x, "abcde\n");
            x.startRead(max);
            status("max " + max, x, max);
            Checks.due("bytes", Checks.takeBytes(x), Checks.row('a', max));
            Checks.due("input", Checks.input(x), Checks.join(Checks.row('a' + max, 5 - max), "10"));
        }
        TtyDiscipline x = Checks.fresh();
        Checks.type(x, "abcde\n");
        x.startRead(5);
        x.startRead(5);
        status("the newline alone", x, 1);
        Checks.due("bytes", Checks.takeBytes(x), "97 98 99 100 101 10");
    }

    private static void newlineEnds() {
        int[] maxima = {3, 4, 64};
        for (int max : maxima) {
            TtyDiscipline x = Checks.fresh();
            Checks.type(x, "ab\ncd\n");
            x.startRead(max);
            status("max " + max, x, 3);
            Checks.due("bytes", Checks.takeBytes(x), "97 98 10");
            Checks.due("input", Checks.input(x), "99 100 10");
        }
        for (int first = 0; first < 256; first += 32) {
            TtyDiscipline x = Checks.fresh();
            Checks.putInput(x, first, 10);
            Checks.putInput(x, first + 11, 21);
            x.receive(10);
            x.startRead(64);
            status("no other byte ends it, from " + first, x, 32);
        }
        TtyDiscipline x = Checks.fresh();
        Checks.type(x, "\n\n\4");
        x.startRead(9);
        status("an empty line", x, 1);
        Checks.due("input", Checks.input(x), "10 256");
        x.startRead(1);
        status("another", x, 1);
        Checks.due("the mark behind a newline stays", Checks.input(x), "256");
        x.startRead(1);
        status("end of file", x, 0);
    }

    // ---- non-canonical ----

    private static void always() {
        for (int a = 0; a <= 4; a++) {
            TtyDiscipline x = raw(0, 0);
            Checks.putInput(x, 'a', a);
            x.startRead(3);
            status(a + " bytes", x, Math.min(a, 3));
        }
    }

    /** With a waiting byte too few the read waits; the byte that makes up the need ends it. */
    private static void waitsFor(int min, int time, int max, int need) {
        TtyDiscipline x = raw(min, time);
        x.startRead(max);
        for (int a = 1; a < need; a++) {
            x.receive('a');
            status(a + " bytes of MIN " + min + ", max " + max, x, PENDING);
        }
        x.receive('b');
        status("MIN " + min + ", max " + max, x, need);

        x = raw(min, time);
        Checks.putInput(x, 0, need - 1);
        x.startRead(max);
        status(need - 1 + " bytes were there", x, PENDING);
        x = raw(min, time);
        Checks.putInput(x, 0, need);
        x.startRead(max);
        status(need + " bytes were there", x, need);
    }

    private static void need() {
        int[][] cases = {{1, 1, 1}, {1, 64, 1}, {2, 1, 1}, {2, 2, 2}, {2, 3, 2}, {3, 2, 2}, {5, 4, 4}, {4, 5, 4},
            {63, 64, 63}, {64, 64, 64}, {65, 64, 64}, {255, 1, 1}, {255, 63, 63}, {255, 64, 64}};
        for (int[] c : cases) {
            waitsFor(c[0], 0, c[1], c[2]);
            waitsFor(c[0], 9, c[1], c[2]);
        }
    }

    private static void minOnly() {
        TtyDiscipline x = raw(2, 0);
        x.startRead(9);
        x.tick(1000);
        status("no byte, no time limit", x, PENDING);
        x.receive('a');
        x.tick(1000);
        status("one of two, no time limit", x, PENDING);
        x.receive('b');
        status("two of two", x, 2);
        for (int a = 2; a <= 10; a++) {
            x = raw(2, 0);
            Checks.putInput(x, 'a', a);
            x.startRead(9);
            status(a + " bytes were there", x, Math.min(a, 9));
        }
    }

    private static void timeOnly() {
        int[] times = {1, 2, 5, 255};
        for (int t : times) {
            TtyDiscipline x = raw(0, t);
            x.startRead(9);
            status("at the start", x, PENDING);
            if (t > 1) {
                x.tick(t - 1);
                status("one tick before", x, PENDING);
            }
            x.tick(1);
            status("at TIME " + t, x, 0);

            x = raw(0, t);
            x.startRead(9);
            x.tick(t + 1);
            status("past TIME " + t, x, 0);

            x = raw(0, t);
            x.startRead(9);
            x.receive('a');
            status("one byte", x, 1);
        }
        for (int a = 1; a <= 10; a++) {
            TtyDiscipline x = raw(0, 5);
            Checks.putInput(x, 'a', a);
            x.startRead(9);
            status(a + " bytes were there", x, Math.min(a, 9));
        }
    }

    private static void minBeforeTime() {
        TtyDiscipline x = raw(2, 5);
        x.startRead(9);
        x.tick(5);
        status("no byte: time does not count", x, PENDING);
        x.tick(1000);
        status("no byte: no limit at all", x, PENDING);
        x.receive('a');
        status("the byte restarts the timer", x, PENDING);
        x.receive('b');
        status("MIN bytes at once", x, 2);
        for (int a = 2; a <= 10; a++) {
            x = raw(2, 5);
            Checks.putInput(x, 'a', a);
            x.startRead(9);
            status(a + " bytes were there", x, Math.min(a, 9));
        }
    }

    private static void timeAfterAByte() {
        int[] times = {1, 2, 5, 255};
        for (int t : times) {
            TtyDiscipline x = raw(3, t);
            x.startRead(9);
            x.receive('a');
            if (t > 1) {
                x.tick(t - 1);
                status("one tick before TIME " + t, x, PENDING);
            }
            x.tick(1);
            status("at TIME " + t, x, 1);

            x = raw(3, t);
            Checks.type(x, "ab");
            x.startRead(9);
            x.tick(t + 1);
            status("past TIME " + t, x, 2);
        }
    }

    private static void howMuchMoves() {
        int[][] cases = {{1, 5}, {4, 5}, {5, 5}, {6, 5}, {64, 63}, {63, 64}, {64, 64}, {64, 1}};
        for (int[] c : cases) {
            for (int turn = 0; turn < 64; turn += 21) {
                int moved = Math.min(c[0], c[1]);
                TtyDiscipline x = raw(1, 0);
                Checks.turnInput(x, turn);
                Checks.putInput(x, 0, c[0]);
                x.startRead(c[1]);
                status(c[0] + " bytes, max " + c[1], x, moved);
                Checks.due("user buffer", Checks.takeBytes(x), Checks.row(0, moved));
                Checks.due("input", Checks.input(x), Checks.row(moved, c[0] - moved));
            }
        }
    }

    private static void completing() {
        TtyDiscipline x = Checks.fresh();
        x.startRead(9);
        x.receive(EOF);
        status("end of file", x, 0);
        Checks.due("a new read may begin", x.startRead(9), true);
        status("it waits", x, PENDING);
        x.receive(10);
        status("it ends", x, 1);
        x = raw(0, 2);
        x.startRead(9);
        x.tick(2);
        status("timeout", x, 0);
        Checks.due("a new read may begin", x.startRead(9), true);
        status("it waits", x, PENDING);
        x = raw(64, 0);
        Checks.putInput(x, 0, 64);
        x.startRead(64);
        status("the greatest count", x, 64);
    }

    private static void notCompleting() {
        TtyDiscipline x = raw(3, 5);
        Checks.type(x, "ab");
        x.startRead(9);
        String before = Checks.state(x);
        x.setFlags(0);
        x.setControl(TtyDiscipline.C_MIN, 3);
        Checks.due("state", Checks.state(x), before);
        x.tick(4);
        Checks.due("state", Checks.state(x), before.replace("q10=0", "q10=4"));

        x = Checks.fresh();
        Checks.putInput(x, 'a', 3);
        x.startRead(2);
        before = Checks.state(x);
        x.setFlags(31);
        x.setControl(TtyDiscipline.C_MIN, 1);
        Checks.due("state", Checks.state(x), before);
        Checks.due("input", Checks.input(x), "97 98 99");
    }
}
