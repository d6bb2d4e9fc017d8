import java.util.Map;
import java.util.function.Supplier;

/** The boundary cases of promise 2, sentence by sentence. */
final class E02SetFlagsTest {
    private static final int ALL = 31, RAW = 30, EOF = 4;

    public static void main(String[] args) {
        Checks.sentence("uses f = flags & 31 (other bits are ignored).", E02SetFlagsTest::otherBits);
        Checks.sentence("every EOF_MARK entry is removed from the input queue (the others keep their order)",
            E02SetFlagsTest::marksGo);
        Checks.sentence("If ICANON is set now and clear in f (and not otherwise)", E02SetFlagsTest::marksStay);
        Checks.sentence("each edit-line byte, in order, is appended to the input queue if it is not full, "
            + "else dropped += 1", E02SetFlagsTest::lineIntoTheRoom);
        Checks.sentence("every EOF_MARK entry is removed ...; then each edit-line byte ... (in this order)",
            E02SetFlagsTest::marksMakeRoom);
        Checks.sentence("the edit line becomes empty.", E02SetFlagsTest::lineBecomesEmpty);
        Checks.sentence("If IXON is clear in f, stopped = false.", E02SetFlagsTest::ixonClear);
        Checks.sentence("Nothing else changes: no echo or output, column, controls, signals, foreground and idle "
            + "stay as they were.", E02SetFlagsTest::nothingElse);
        Checks.sentence("Turning ICANON on from clear moves nothing.", E02SetFlagsTest::turningCanonicalOn);
        Checks.sentence("Setting the same flags again changes nothing except what the completion check may do.",
            E02SetFlagsTest::sameFlags);
        Checks.end();
    }

    private static void otherBits() {
        int[] high = {0, 32, 64, 256, 1 << 16, 1 << 30, Integer.MIN_VALUE, -32, Integer.MAX_VALUE - 31};
        for (int bits : high) {
            for (int f = 0; f < 32; f++) {
                TtyDiscipline x = Checks.fresh();
                x.setFlags(bits | f);
                Checks.due("setFlags(" + (bits | f) + "): flags", x.query(TtyDiscipline.Q_FLAGS), f);
            }
        }
        TtyDiscipline x = Checks.fresh();
        Checks.type(x, "a\4b");
        x.setFlags(-1);
        Checks.due("-1 leaves ICANON set", Checks.input(x), "97 256");
        x.setFlags(-2);
        Checks.due("-2 clears it", Checks.input(x), "97 98");
    }

    /** Marks at the head, in the middle, at the end and alone, at several places of the ring. */
    private static void marksGo() {
        String[][] cases = {{"", ""}, {"\4", ""}, {"\4\4\4", ""}, {"a\n", "97 10"}, {"\4a\n", "97 10"},
            {"a\4", "97"}, {"a\4b\4\4c\nd\4", "97 98 99 10 100"}, {"\4\4a\n\4", "97 10"}, {"\0\4\n\4", "0 10"}};
        for (String[] c : cases) {
            for (int turn = 0; turn < 64; turn++) {
                TtyDiscipline x = Checks.fresh();
                Checks.turnInput(x, turn);
                Checks.type(x, c[0]);
                x.setFlags(RAW);
                Checks.due("input", Checks.input(x), c[1]);
                Checks.due("dropped", x.query(TtyDiscipline.Q_DROPPED), 0);
                x.receive('z');
                Checks.due("the next byte follows", Checks.input(x), Checks.join(c[1], "122"));
            }
        }
        TtyDiscipline x = Checks.fresh();
        for (int i = 0; i < 64; i++) {
            x.receive(EOF);
        }
        x.setFlags(RAW);
        Checks.due("a queue full of marks", x.query(TtyDiscipline.Q_INPUT_COUNT), 0);
    }

    private static void marksStay() {
        for (int f = 1; f < 32; f += 2) {
            TtyDiscipline x = Checks.fresh();
            Checks.type(x, "a\4b");
            x.setFlags(f);
            Checks.due("flags " + f + ": input", Checks.input(x), "97 256");
            Checks.due("flags " + f + ": line", Checks.line(x), "98");
        }
        for (int f = 0; f < 32; f += 2) {
            TtyDiscipline x = Checks.fresh();
            Checks.type(x, "a\4b");
            x.setFlags(f);
            Checks.due("flags " + f + ": input", Checks.input(x), "97 98");
            Checks.due("flags " + f + ": line", Checks.line(x), "");
        }
    }

    private static void lineIntoTheRoom() {
        int[] caps = {16, 17, 40, 63, 64};
        int[] lengths = {0, 1, 2, 8, 16, 31, 32};
        for (int inCap : caps) {
            for (int length : lengths) {
                for (int room = 0; room <= inCap && room <= length + 1; room++) {
                    spill(inCap, length, room);
                }
            }
        }
    }

    private static void spill(int inCap, int length, int room) {
        TtyDiscipline x = new TtyDiscipline(32, inCap, 64);
        Checks.turnInput(x, 50);
        Checks.putInput(x, 0, inCap - room);
        x.setFlags(TtyDiscipline.ICANON);
        for (int i = 0; i < length; i++) {
            x.receive(128 + i);
        }
        x.setFlags(0);
        int moved = Math.min(length, room);
        String what = length + " bytes into room " + room + " of " + inCap + ": ";
        Checks.due(what + "input", Checks.input(x),
            Checks.join(Checks.row(0, inCap - room), Checks.row(128, moved)));
        Checks.due(what + "dropped", x.query(TtyDiscipline.Q_DROPPED), length - moved);
        Checks.due(what + "line", x.query(TtyDiscipline.Q_LINE_LENGTH), 0);
    }

    private static void marksMakeRoom() {
        TtyDiscipline x = Checks.small();
        Checks.putInput(x, 'A', 13);
        Checks.type(x, "\4\4\4");
        Checks.due("full", x.query(TtyDiscipline.Q_INPUT_COUNT), 16);
        Checks.type(x, "abcd");
        x.setFlags(RAW);
        Checks.due("input", Checks.input(x), Checks.row('A', 13) + " 97 98 99");
        Checks.due("dropped", x.query(TtyDiscipline.Q_DROPPED), 1);
    }

    private static void lineBecomesEmpty() {
        int[] rooms = {0, 1, 16};
        for (int room : rooms) {
            TtyDiscipline x = Checks.small();
            Checks.putInput(x, 'A', 16 - room);
            Checks.type(x, "abcdefgh");
            x.setFlags(RAW);
            Checks.due("line length", x.query(TtyDiscipline.Q_LINE_LENGTH), 0);
            Checks.due("lineAt(0)", x.lineAt(0), -1);
            x.setFlags(ALL);
            Checks.due("in canonical mode again", x.query(TtyDiscipline.Q_LINE_LENGTH), 0);
            Checks.type(x, "z");
            Checks.due("a new line", Checks.line(x), "122");
        }
    }

    private static void ixonClear() {
        for (int f = 0; f < 32; f++) {
            TtyDiscipline x = Checks.fresh();
            x.write('a');
            x.receive(19);
            x.setFlags(f);
            boolean ixon = (f & TtyDiscipline.IXON) != 0;
            Checks.due("stopped, flags " + f, x.query(TtyDiscipline.Q_STOPPED), ixon ? 1 : 0);
            Checks.due("transmit()", x.transmit(), ixon ? -1 : 'a');
            x = Checks.fresh();
            x.setFlags(f);
            Checks.due("not stopped, flags " + f, x.query(TtyDiscipline.Q_STOPPED), 0);
        }
        TtyDiscipline x = Checks.fresh();
        x.receive(19);
        x.setFlags(15);
        x.setFlags(31);
        Checks.due("setting IXON again stops nothing", x.query(TtyDiscipline.Q_STOPPED), 0);
    }

    private static void nothingElse() {
        for (Map.Entry<String, Supplier<TtyDiscipline>> sample : Samples.all().entrySet()) {
            for (int f = 0; f < 32; f++) {
                TtyDiscipline x = sample.getValue().get();
                x.setControl(TtyDiscipline.C_TIME, 0);
                x.setControl(TtyDiscipline.C_MIN, 255);
                String output = Checks.output(x), controls = Checks.controls(x);
                int[] kept = {TtyDiscipline.Q_COLUMN, TtyDiscipline.Q_FOREGROUND, TtyDiscipline.Q_SIGNALS,
                    TtyDiscipline.Q_IDLE};
                int[] before = new int[kept.length];
                for (int i = 0; i < kept.length; i++) {
                    before[i] = x.query(kept[i]);
                }
                int entries = x.query(TtyDiscipline.Q_INPUT_COUNT);
                int marks = marks(x);
                int line = x.query(TtyDiscipline.Q_LINE_LENGTH);
                int user = x.query(TtyDiscipline.Q_USER_COUNT);
                int dropped = x.query(TtyDiscipline.Q_DROPPED);
                boolean leaving = x.query(TtyDiscipline.Q_FLAGS) % 2 == 1 && f % 2 == 0;
                boolean full = sample.getKey().equals("full");
                x.setFlags(f);
                String what = sample.getKey() + ", flags " + f + ": ";
                Checks.due(what + "output", Checks.output(x), output);
                Checks.due(what + "controls", Checks.controls(x), controls);
                for (int i = 0; i < kept.length; i++) {
                    Checks.due(what + "query(" + kept[i] + ")", x.query(kept[i]), before[i]);
                }
                Checks.due(what + "dropped", x.query(TtyDiscipline.Q_DROPPED) - dropped,
                    leaving && full ? line : 0);
                boolean readMovedBytes = x.query(TtyDiscipline.Q_USER_COUNT) != user;
                if (!readMovedBytes) {
                    Checks.due(what + "input", x.query(TtyDiscipline.Q_INPUT_COUNT),
                        leaving ? entries - marks + (full ? 0 : line) : entries);
                }
            }
        }
    }

    private static int marks(TtyDiscipline x) {
        int marks = 0;
        for (int i = 0; i < x.query(TtyDiscipline.Q_INPUT_COUNT); i++) {
            marks += x.inputAt(i) == TtyDiscipline.EOF_MARK ? 1 : 0;
        }
        return marks;
    }

    private static void turningCanonicalOn() {
        int[] counts = {0, 1, 9, 64};
        for (int n : counts) {
            TtyDiscipline x = Checks.fresh();
            x.setFlags(RAW);
            Checks.putInput(x, 0, n);
            String before = Checks.state(x);
            x.setFlags(ALL);
            Checks.due(n + " bytes", Checks.state(x), before.replace("q7=30", "q7=31"));
            Checks.due("line length", x.query(TtyDiscipline.Q_LINE_LENGTH), 0);
        }
    }

    private static void sameFlags() {
        for (Map.Entry<String, Supplier<TtyDiscipline>> sample : Samples.all().entrySet()) {
            Checks.unchanged("the same flags on " + sample.getKey(), sample.getValue(),
                x -> x.setFlags(x.query(TtyDiscipline.Q_FLAGS)));
        }
        for (int f = 0; f < 32; f++) {
            int flags = f;
            Checks.unchanged("setFlags(" + f + ") again", () -> typed(flags), x -> x.setFlags(flags));
        }
    }

    private static TtyDiscipline typed(int flags) {
        TtyDiscipline x = Checks.fresh();
        x.setFlags(flags);
        Checks.type(x, "ab\4c\nd\t");
        x.receive(19);
        return x;
    }
}
