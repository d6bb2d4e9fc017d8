/**
 * Long runs of calls on the class and on the model: every answer, and after every
 * call the whole state, must be the same. The runs are drawn from a fixed row of
 * numbers, so they are the same every time.
 */
final class ModelTest {
    private static final int RUNS = 4000, CALLS = 250;
    private static final int[] KEYS = {3, 26, 127, 23, 21, 4, 17, 19};
    private static final int[] TEXT = {'a', 'b', ' ', 9, 10, 13, 8, 0, 1, 27, 31, 126, 128, 255, 32, 9};
    private static final int[] ODD = {Integer.MIN_VALUE, -257, -256, -2, -1, 0, 1, 7, 8, 9, 10, 11, 63, 64,
        65, 255, 256, 1000, 1001, 30000, 30001, Integer.MAX_VALUE};

    private static long seed;
    private static int wrong = 0;
    private static TtyDiscipline x;
    private static Model m;

    public static void main(String[] args) {
        for (int run = 0; run < RUNS && wrong == 0; run++) {
            seed = run * 7919L + 1;
            int lineCap = next(40), inCap = next(72), outCap = next(72);
            x = new TtyDiscipline(lineCap, inCap, outCap);
            m = new Model(lineCap, inCap, outCap);
            StringBuilder calls = new StringBuilder("new(" + lineCap + ", " + inCap + ", " + outCap + ")");
            int mood = next(5);
            for (int i = 0; i < CALLS && wrong == 0; i++) {
                String call = step(mood);
                calls.append(", ").append(call);
                compareState(call);
            }
            drain();
            if (wrong != 0) {
                System.out.println("run " + run + ": " + calls);
            }
        }
        if (wrong != 0) {
            System.exit(1);
        }
    }

    private static int next(int bound) {
        seed = seed * 6364136223846793005L + 1442695040888963407L;
        return (int) ((seed >>> 33) % bound);
    }

    private static int pick(int[] from) {
        return from[next(from.length)];
    }

    private static void same(String what, int got, int due) {
        if (got != due) {
            wrong++;
            System.out.println(what + " answered " + got + ", due is " + due);
        }
    }

    private static void same(String what, boolean got, boolean due) {
        same(what, got ? 1 : 0, due ? 1 : 0);
    }

    /** The mood of a run makes some calls rare, so that queues fill up or run empty. */
    private static String step(int mood) {
        int kind = next(100);
        if (kind < 50) {
            return receive();
        }
        if (kind < 58) {
            return write();
        }
        if (kind < 70) {
            return mood == 1 ? receive() : transmit();
        }
        if (kind < 76) {
            return mood == 2 ? receive() : startRead();
        }
        if (kind < 84) {
            return mood == 3 ? receive() : take();
        }
        if (kind < 89) {
            return tick();
        }
        if (kind < 93) {
            return setFlags();
        }
        return kind < 99 ? setControl() : setForeground();
    }

    private static String receive() {
        int kind = next(16);
        int c = kind < 11 ? pick(TEXT) : kind < 13 ? pick(KEYS) : kind < 15 ? 'c' + next(20) : next(256);
        c = next(20) == 0 ? c - 256 * next(1000) : c;
        String call = "receive(" + c + ")";
        same(call, x.receive(c), m.receive(c));
        return call;
    }

    private static String write() {
        int c = next(4) == 0 ? pick(ODD) : pick(TEXT);
        String call = "write(" + c + ")";
        same(call, x.write(c), m.write(c));
        return call;
    }

    private static String transmit() {
        String call = "transmit()";
        for (int i = next(6); i >= 0; i--) {
            same(call, x.transmit(), m.transmit());
        }
        return call + " some times";
    }

    private static String startRead() {
        int max = next(4) == 0 ? pick(ODD) : next(3) == 0 ? 1 + next(64) : 1 + next(6);
        String call = "startRead(" + max + ")";
        same(call, x.startRead(max), m.startRead(max));
        return call;
    }

    private static String take() {
        for (int i = next(12); i >= 0; i--) {
            same("takeByte()", x.takeByte(), m.takeByte());
        }
        if (next(3) == 0) {
            same("takeSignal()", x.takeSignal(), m.takeSignal());
        }
        return "takeByte() some times";
    }

    private static String tick() {
        int n = next(5) == 0 ? pick(ODD) : 1 + next(4);
        String call = "tick(" + n + ")";
        same(call, x.tick(n), m.tick(n));
        return call;
    }

    private static String setFlags() {
        int flags = next(2) == 0 ? 31 ^ 1 << next(5) : next(3) == 0 ? pick(ODD) : next(64);
        x.setFlags(flags);
        m.setFlags(flags);
        return "setFlags(" + flags + ")";
    }

    private static String setControl() {
        int kind = next(6);
        int which = kind == 0 ? pick(ODD) : kind < 3 ? next(10) : 8 + next(2);
        int value = kind == 1 ? pick(ODD) : which < 8 ? (next(2) == 0 ? pick(TEXT) : pick(KEYS)) : next(5);
        String call = "setControl(" + which + ", " + value + ")";
        same(call, x.setControl(which, value), m.setControl(which, value));
        return call;
    }

    private static String setForeground() {
        int pgrp = next(2) == 0 ? pick(ODD) : next(30002);
        String call = "setForeground(" + pgrp + ")";
        same(call, x.setForeground(pgrp), m.setForeground(pgrp));
        return call;
    }

    private static void compareState(String call) {
        for (int kind = -1; kind <= 11; kind++) {
            same(call + ", then query(" + kind + ")", x.query(kind), m.query(kind));
        }
        for (int which = -1; which <= 10; which++) {
            same(call + ", then getControl(" + which + ")", x.getControl(which), m.getControl(which));
        }
        for (int i = -1; i <= 64; i++) {
            same(call + ", then lineAt(" + i + ")", x.lineAt(i), m.lineAt(i));
            same(call + ", then inputAt(" + i + ")", x.inputAt(i), m.inputAt(i));
            same(call + ", then outputAt(" + i + ")", x.outputAt(i), m.outputAt(i));
        }
        same(call + ", then readStatus()", x.readStatus(), m.readStatus());
    }

    private static void drain() {
        for (int i = 0; i <= TtyDiscipline.USER_CAP; i++) {
            same("takeByte() at the end", x.takeByte(), m.takeByte());
            same("takeSignal() at the end", x.takeSignal(), m.takeSignal());
        }
    }
}
