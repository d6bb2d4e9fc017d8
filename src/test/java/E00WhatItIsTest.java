/** The document's opening section and its list of the state, sentence by sentence. */
final class E00WhatItIsTest {
    private static final int INTR = 3, SUSP = 26, ERASE = 127, WERASE = 23, KILL = 21, EOF = 4, START = 17, STOP = 19;
    private static final int[] EDIT_KEYS = {ERASE, WERASE, KILL, EOF, 10};

    public static void main(String[] args) {
        Checks.sentence("In canonical mode they are gathered into an edit line: ...", E00WhatItIsTest::gathered);
        Checks.sentence("... the erase, word-erase and kill characters edit that line, ...", E00WhatItIsTest::edited);
        Checks.sentence("... and newline or end-of-file passes it to an input queue.", E00WhatItIsTest::passed);
        Checks.sentence("In non-canonical mode bytes go straight to the input queue.", E00WhatItIsTest::straight);
        Checks.sentence("Echo, including tab-aware rub-out sequences that follow the output column, "
            + "goes to a bounded output queue.", E00WhatItIsTest::echoed);
        Checks.sentence("The process's writes also go there, ...", E00WhatItIsTest::written);
        Checks.sentence("... and the device drains it byte by byte unless start/stop flow control has halted it.",
            E00WhatItIsTest::drained);
        Checks.sentence("Interrupt and suspend characters post signals to the foreground process group, "
            + "flush queues and interrupt a pending read.", E00WhatItIsTest::signalled);
        Checks.sentence("Reads are begun by one call and complete when canonical line rules ...",
            E00WhatItIsTest::canonicalRead);
        Checks.sentence("... or the non-canonical MIN/TIME rules are met, with time advanced by explicit ticks.",
            E00WhatItIsTest::timedRead);
        Checks.sentence("Completed reads land in a user buffer drained byte by byte.", E00WhatItIsTest::landed);

        Checks.sentence("Input bytes lost to a full edit line, ... are counted", E00WhatItIsTest::lostToTheLine);
        Checks.sentence("Input bytes lost to ... a full input queue ... are counted", E00WhatItIsTest::lostToTheQueue);
        Checks.sentence("Input bytes lost to ... a signal flush are counted", E00WhatItIsTest::lostToASignal);
        Checks.sentence("lost output, ... are not.", E00WhatItIsTest::lostOutput);
        Checks.sentence("lost signals ... are not.", E00WhatItIsTest::lostSignals);
        Checks.sentence("... and EOF_MARK entries are not.", E00WhatItIsTest::lostMarks);

        Checks.sentence("Defaults: INTR 3, SUSP 26, ERASE 127, WERASE 23, KILL 21, EOF 4, START 17, STOP 19, "
            + "MIN 1, TIME 0.", E00WhatItIsTest::defaults);
        Checks.sentence("readStatus answers besides counts 0..64: READ_NONE, READ_INTERRUPTED, READ_PENDING",
            E00WhatItIsTest::readAnswers);
        Checks.sentence("user buffer: FIFO of 0..USER_CAP bytes", E00WhatItIsTest::userBuffer);
        Checks.sentence("signal queue: FIFO of 0..8 entries", E00WhatItIsTest::signalQueue);
        Checks.sentence("input queue: ... each a byte 0..255 or EOF_MARK", E00WhatItIsTest::inputEntries);
        Checks.end();
    }

    private static void gathered() {
        TtyDiscipline x = Checks.fresh();
        Checks.type(x, "ab c");
        Checks.due("line", Checks.line(x), "97 98 32 99");
        Checks.due("input", Checks.input(x), "");
    }

    private static void edited() {
        TtyDiscipline x = Checks.fresh();
        Checks.type(x, "one two tree");
        x.receive(ERASE);
        Checks.due("after erase", Checks.line(x), "111 110 101 32 116 119 111 32 116 114 101");
        x.receive(WERASE);
        Checks.due("after word-erase", Checks.line(x), "111 110 101 32 116 119 111 32");
        x.receive(KILL);
        Checks.due("after kill", Checks.line(x), "");
        Checks.due("input", Checks.input(x), "");
        Checks.due("what is edited away is not lost", x.query(TtyDiscipline.Q_DROPPED), 0);
    }

    private static void passed() {
        TtyDiscipline x = Checks.fresh();
        Checks.type(x, "ab\n");
        Checks.due("after newline", Checks.input(x), "97 98 10");
        Checks.type(x, "c\4");
        Checks.due("after end-of-file", Checks.input(x), "97 98 10 99 256");
        Checks.due("line", Checks.line(x), "");
    }

    private static void straight() {
        TtyDiscipline x = Checks.fresh();
        x.setFlags(0);
        x.receive('a');
        for (int key : EDIT_KEYS) {
            Checks.due("receive(" + key + ")", x.receive(key), TtyDiscipline.IN_STORED);
        }
        Checks.due("input", Checks.input(x), "97 127 23 21 4 10");
        Checks.due("line", Checks.line(x), "");
    }

    /** The same tab is three columns wide behind five bytes, and eight behind none. */
    private static void echoed() {
        TtyDiscipline x = Checks.fresh();
        Checks.type(x, "abcde\t");
        Checks.transmitAll(x);
        x.receive(ERASE);
        Checks.due("rub-out at column 8", Checks.output(x), "8 8 8");
        x.receive(KILL);
        Checks.transmitAll(x);
        Checks.type(x, "\t");
        Checks.transmitAll(x);
        x.receive(ERASE);
        Checks.due("rub-out of a wide tab", Checks.output(x), Checks.times(8, 8));

        x = new TtyDiscipline(32, 64, 32);
        x.setFlags(TtyDiscipline.ECHO);
        for (int i = 0; i < 40; i++) {
            x.receive('a');
        }
        Checks.due("the queue is bounded", x.query(TtyDiscipline.Q_OUTPUT_COUNT), 32);
        Checks.due("the input is not held up", x.query(TtyDiscipline.Q_INPUT_COUNT), 40);
    }

    private static void written() {
        TtyDiscipline x = Checks.fresh();
        x.receive('a');
        x.write('b');
        x.receive('c');
        Checks.due("output", Checks.output(x), "97 98 99");
    }

    private static void drained() {
        TtyDiscipline x = Checks.fresh();
        x.write('a');
        x.write('b');
        Checks.due("transmit()", x.transmit(), 'a');
        x.receive(STOP);
        Checks.due("transmit() when stopped", x.transmit(), -1);
        Checks.due("output", Checks.output(x), "98");
        x.receive(START);
        Checks.due("transmit() when started", x.transmit(), 'b');
        Checks.due("transmit() when empty", x.transmit(), -1);
    }

    private static void signalled() {
        int[] keys = {INTR, SUSP};
        int[] signals = {TtyDiscipline.SIGINT, TtyDiscipline.SIGTSTP};
        for (int k = 0; k < keys.length; k++) {
            TtyDiscipline x = Checks.fresh();
            x.setForeground(700);
            Checks.putInput(x, 'A', 3);
            x.startRead(10);
            Checks.type(x, "de");
            Checks.due("receive(" + keys[k] + ")", x.receive(keys[k]), TtyDiscipline.IN_SIGNAL);
            Checks.due("signal", x.takeSignal(), 700 * 32 + signals[k]);
            Checks.due("line", Checks.line(x), "");
            Checks.due("input", Checks.input(x), "");
            Checks.due("only the echo is left", Checks.output(x), "94 " + (keys[k] ^ 64));
            Checks.due("readStatus()", x.readStatus(), TtyDiscipline.READ_INTERRUPTED);
        }
    }

    private static void canonicalRead() {
        TtyDiscipline x = Checks.fresh();
        x.startRead(10);
        Checks.type(x, "ab");
        Checks.due("without an ending", x.readStatus(), TtyDiscipline.READ_PENDING);
        x.receive(10);
        Checks.due("with one", x.readStatus(), 3);
    }

    private static void timedRead() {
        TtyDiscipline x = Checks.fresh();
        x.setFlags(0);
        x.setControl(TtyDiscipline.C_MIN, 3);
        x.setControl(TtyDiscipline.C_TIME, 5);
        x.startRead(10);
        Checks.type(x, "ab");
        Checks.due("below MIN", x.readStatus(), TtyDiscipline.READ_PENDING);
        x.tick(4);
        Checks.due("before TIME", x.readStatus(), TtyDiscipline.READ_PENDING);
        x.tick(1);
        Checks.due("at TIME", x.readStatus(), 2);
        x.startRead(10);
        Checks.type(x, "cde");
        Checks.due("at MIN", x.readStatus(), 3);
    }

    private static void landed() {
        TtyDiscipline x = Checks.fresh();
        Checks.type(x, "ab\n");
        Checks.due("nothing lands without a read", x.takeByte(), -1);
        x.startRead(10);
        Checks.due("user count", x.query(TtyDiscipline.Q_USER_COUNT), 3);
        Checks.due("input", Checks.input(x), "");
        Checks.due("first", x.takeByte(), 'a');
        Checks.due("second", x.takeByte(), 'b');
        Checks.due("third", x.takeByte(), 10);
        Checks.due("fourth", x.takeByte(), -1);
    }

    private static void lostToTheLine() {
        TtyDiscipline x = Checks.small();
        Checks.type(x, "abcdefgh");
        Checks.due("dropped", x.query(TtyDiscipline.Q_DROPPED), 0);
        Checks.type(x, "ijk");
        Checks.due("dropped", x.query(TtyDiscipline.Q_DROPPED), 3);
    }

    private static void lostToTheQueue() {
        TtyDiscipline x = Checks.small();
        Checks.putInput(x, 'A', 18);
        Checks.due("one by one", x.query(TtyDiscipline.Q_DROPPED), 2);
        Checks.type(x, "abc\n");
        Checks.due("a line with its newline", x.query(TtyDiscipline.Q_DROPPED), 6);
        Checks.type(x, "abc\4");
        Checks.due("a line without its mark", x.query(TtyDiscipline.Q_DROPPED), 9);
        Checks.type(x, "ab");
        x.setFlags(0);
        Checks.due("a line that is spilt", x.query(TtyDiscipline.Q_DROPPED), 11);
    }

    private static void lostToASignal() {
        TtyDiscipline x = Checks.fresh();
        Checks.type(x, "ab\ncd\4efg");
        x.receive(INTR);
        Checks.due("dropped", x.query(TtyDiscipline.Q_DROPPED), 8);
    }

    private static void lostOutput() {
        TtyDiscipline x = Checks.small();
        Checks.leaveRoom(x, 32, 0);
        Checks.due("write", x.write('a'), false);
        Checks.type(x, "ab");
        x.receive(ERASE);
        Checks.due("no room", x.query(TtyDiscipline.Q_DROPPED), 0);
        x.receive(KILL);
        x.receive(INTR);
        Checks.due("flushed", x.query(TtyDiscipline.Q_DROPPED), 0);
    }

    private static void lostSignals() {
        TtyDiscipline x = Checks.fresh();
        for (int i = 0; i < 12; i++) {
            x.receive(SUSP);
        }
        Checks.due("dropped", x.query(TtyDiscipline.Q_DROPPED), 0);
    }

    private static void lostMarks() {
        TtyDiscipline x = Checks.small();
        for (int i = 0; i < 18; i++) {
            x.receive(EOF);
        }
        Checks.due("no room", x.query(TtyDiscipline.Q_DROPPED), 0);
        Checks.due("input", Checks.input(x), Checks.times(256, 16));
        x.receive(INTR);
        Checks.due("flushed", x.query(TtyDiscipline.Q_DROPPED), 0);
        x.receive(EOF);
        x.setFlags(0);
        Checks.due("removed", x.query(TtyDiscipline.Q_DROPPED), 0);
        Checks.due("input", Checks.input(x), "");
    }

    private static void defaults() {
        TtyDiscipline x = Checks.fresh();
        Checks.due("INTR", x.getControl(TtyDiscipline.C_INTR), 3);
        Checks.due("SUSP", x.getControl(TtyDiscipline.C_SUSP), 26);
        Checks.due("ERASE", x.getControl(TtyDiscipline.C_ERASE), 127);
        Checks.due("WERASE", x.getControl(TtyDiscipline.C_WERASE), 23);
        Checks.due("KILL", x.getControl(TtyDiscipline.C_KILL), 21);
        Checks.due("EOF", x.getControl(TtyDiscipline.C_EOF), 4);
        Checks.due("START", x.getControl(TtyDiscipline.C_START), 17);
        Checks.due("STOP", x.getControl(TtyDiscipline.C_STOP), 19);
        Checks.due("MIN", x.getControl(TtyDiscipline.C_MIN), 1);
        Checks.due("TIME", x.getControl(TtyDiscipline.C_TIME), 0);
    }

    private static void readAnswers() {
        TtyDiscipline x = Checks.fresh();
        Checks.due("at first", x.readStatus(), TtyDiscipline.READ_NONE);
        x.setFlags(0);
        for (int count = 1; count <= 64; count++) {
            Checks.putInput(x, 128, count);
            x.startRead(64);
            Checks.due("a read of " + count, x.readStatus(), count);
            Checks.due("its bytes", Checks.takeBytes(x), Checks.row(128, count));
        }
        x.setControl(TtyDiscipline.C_MIN, 0);
        x.startRead(64);
        Checks.due("a read of nothing", x.readStatus(), 0);
        x.setFlags(31);
        x.startRead(64);
        Checks.due("a read that waits", x.readStatus(), TtyDiscipline.READ_PENDING);
        x.receive(INTR);
        Checks.due("a read that was interrupted", x.readStatus(), TtyDiscipline.READ_INTERRUPTED);
    }

    private static void userBuffer() {
        TtyDiscipline x = Checks.fresh();
        Checks.putInput(x, 0, 64);
        x.setFlags(0);
        x.startRead(20);
        x.startRead(44);
        Checks.due("user count", x.query(TtyDiscipline.Q_USER_COUNT), TtyDiscipline.USER_CAP);
        Checks.due("startRead(1) on a full buffer", x.startRead(1), false);
        Checks.due("user bytes", Checks.takeBytes(x), Checks.row(0, 64));
        Checks.due("takeByte()", x.takeByte(), -1);
    }

    private static void signalQueue() {
        TtyDiscipline x = Checks.fresh();
        for (int i = 1; i <= 10; i++) {
            x.setForeground(i);
            x.receive(INTR);
            Checks.due("signals after " + i, x.query(TtyDiscipline.Q_SIGNALS), Math.min(i, 8));
        }
        for (int i = 1; i <= 8; i++) {
            Checks.due("signal " + i, x.takeSignal(), i * 32 + TtyDiscipline.SIGINT);
        }
        Checks.due("takeSignal()", x.takeSignal(), -1);
    }

    private static void inputEntries() {
        for (int b = 0; b <= 255; b++) {
            TtyDiscipline x = Checks.fresh();
            Checks.putInput(x, b, 1);
            Checks.due("input", Checks.input(x), "" + b);
            x.receive(EOF);
            Checks.due("input", Checks.input(x), b + " 256");
        }
    }
}
