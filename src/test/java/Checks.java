import java.util.StringJoiner;
import java.util.function.Consumer;
import java.util.function.Supplier;

/** What the tests share: counting wrong answers, and showing an object's state as text. */
final class Checks {
    private static int wrong = 0;
    private static String sentence = "";

    private Checks() { }

    /** Runs the test of one sentence of the document; its words stand over the test's wrong answers. */
    static void sentence(String words, Runnable test) {
        sentence = words;
        try {
            test.run();
        } catch (RuntimeException e) {
            wrong("a call threw " + e);
        }
        sentence = "";
    }

    private static void wrong(String message) {
        wrong++;
        if (!sentence.isEmpty()) {
            System.out.println("Does not hold: " + sentence);
            sentence = "";
        }
        System.out.println(message);
    }

    static void due(String what, long got, long want) {
        if (got != want) {
            wrong(what + " answered " + got + ", due is " + want);
        }
    }

    static void due(String what, boolean got, boolean want) {
        if (got != want) {
            wrong(what + " answered " + got + ", due is " + want);
        }
    }

    static void due(String what, String got, String want) {
        if (!got.equals(want)) {
            wrong(what + " is\n  [" + got + "], due is\n  [" + want + "]");
        }
    }

    /** The call leaves an object as it was, also in what only later calls bring to light. */
    static void unchanged(String what, Supplier<TtyDiscipline> make, Consumer<TtyDiscipline> call) {
        TtyDiscipline x = make.get();
        call.accept(x);
        String got = usedUp(x);
        due("after " + what + " the object", got, usedUp(make.get()));
    }

    static void end() {
        if (wrong != 0) {
            System.out.println(wrong + " answers are not as due");
            System.exit(1);
        }
    }

    static TtyDiscipline fresh() {
        return new TtyDiscipline(32, 64, 64);
    }

    static TtyDiscipline small() {
        return new TtyDiscipline(8, 16, 32);
    }

    /** Receives every character of the text. */
    static void type(TtyDiscipline x, String text) {
        for (int i = 0; i < text.length(); i++) {
            x.receive(text.charAt(i));
        }
    }

    /** Writes n times the byte b. */
    static void write(TtyDiscipline x, int b, int n) {
        for (int i = 0; i < n; i++) {
            due("write(" + b + ") nr " + i, x.write(b), true);
        }
    }

    static String line(TtyDiscipline x) {
        StringJoiner all = new StringJoiner(" ");
        for (int i = 0; i < x.query(TtyDiscipline.Q_LINE_LENGTH); i++) {
            all.add("" + x.lineAt(i));
        }
        return all.toString();
    }

    static String input(TtyDiscipline x) {
        StringJoiner all = new StringJoiner(" ");
        for (int i = 0; i < x.query(TtyDiscipline.Q_INPUT_COUNT); i++) {
            all.add("" + x.inputAt(i));
        }
        return all.toString();
    }

    static String output(TtyDiscipline x) {
        StringJoiner all = new StringJoiner(" ");
        for (int i = 0; i < x.query(TtyDiscipline.Q_OUTPUT_COUNT); i++) {
            all.add("" + x.outputAt(i));
        }
        return all.toString();
    }

    static String controls(TtyDiscipline x) {
        StringJoiner all = new StringJoiner(" ");
        for (int which = 0; which <= 9; which++) {
            all.add("" + x.getControl(which));
        }
        return all.toString();
    }

    /** All that can be seen without taking anything away. */
    static String state(TtyDiscipline x) {
        StringBuilder all = new StringBuilder();
        for (int kind = 0; kind <= 10; kind++) {
            all.append("q").append(kind).append('=').append(x.query(kind)).append(' ');
        }
        all.append("line=").append(line(x)).append("; input=").append(input(x));
        all.append("; output=").append(output(x)).append("; controls=").append(controls(x));
        return all.append("; read=").append(x.readStatus()).toString();
    }

    /**
     * All that can be found out about an object by using it up: the state, then the
     * signals, the user buffer, the widths of the line's bytes, and the pending read's max.
     */
    static String usedUp(TtyDiscipline x) {
        StringBuilder all = new StringBuilder(state(x));
        all.append("; signals=").append(takeSignals(x)).append("; user=").append(takeBytes(x));
        x.setFlags(x.query(TtyDiscipline.Q_FLAGS) & ~TtyDiscipline.IXON | TtyDiscipline.ECHO | TtyDiscipline.ECHOE);
        all.append("; sent=").append(transmitAll(x)).append("; widths=");
        x.setControl(TtyDiscipline.C_ERASE, 127);
        for (int left = x.query(TtyDiscipline.Q_LINE_LENGTH); left > 0; left--) {
            x.receive(127);
            all.append(transmitAll(x)).append(',');
        }
        x.setControl(TtyDiscipline.C_TIME, 0);
        x.setControl(TtyDiscipline.C_MIN, 255);
        x.setFlags(0);
        for (int i = 0; i < 64; i++) {
            x.receive('m');
        }
        return all.append("; read=").append(x.readStatus()).append(" of ").append(takeBytes(x)).toString();
    }

    static String takeBytes(TtyDiscipline x) {
        StringJoiner all = new StringJoiner(" ");
        for (int i = x.query(TtyDiscipline.Q_USER_COUNT); i > 0; i--) {
            all.add("" + x.takeByte());
        }
        return all.toString();
    }

    static String takeSignals(TtyDiscipline x) {
        StringJoiner all = new StringJoiner(" ");
        for (int i = x.query(TtyDiscipline.Q_SIGNALS); i > 0; i--) {
            all.add("" + x.takeSignal());
        }
        return all.toString();
    }

    static String transmitAll(TtyDiscipline x) {
        StringJoiner all = new StringJoiner(" ");
        for (int i = x.query(TtyDiscipline.Q_OUTPUT_COUNT); i > 0; i--) {
            all.add("" + x.transmit());
        }
        return all.toString();
    }

    /** Writes and transmits n bytes: the places of the output queue move on by n, the column stays 0. */
    static void turnOutput(TtyDiscipline x, int n) {
        for (int i = 0; i < n; i++) {
            x.write(13);
            x.transmit();
        }
    }

    /** Reads n bytes, one at a time: the places of the input queue and the user buffer move on by n. */
    static void turnInput(TtyDiscipline x, int n) {
        int flags = x.query(TtyDiscipline.Q_FLAGS);
        x.setFlags(0);
        for (int i = 0; i < n; i++) {
            x.receive('t');
            x.startRead(1);
            x.takeByte();
        }
        x.setFlags(flags);
    }

    /** Puts n bytes, from the given one on, into the input queue, without echo and without a line. */
    static void putInput(TtyDiscipline x, int first, int n) {
        int flags = x.query(TtyDiscipline.Q_FLAGS);
        x.setFlags(0);
        for (int i = 0; i < n; i++) {
            x.receive(first + i);
        }
        x.setFlags(flags);
    }

    /** Writes until only so many places of the output queue are free. */
    static void leaveRoom(TtyDiscipline x, int outCap, int room) {
        while (x.query(TtyDiscipline.Q_OUTPUT_COUNT) < outCap - room && x.write('w')) {
            continue;
        }
        due("places left", outCap - x.query(TtyDiscipline.Q_OUTPUT_COUNT), room);
    }

    /** The texts that are not empty, with a space between them. */
    static String join(String... texts) {
        StringJoiner all = new StringJoiner(" ");
        for (String text : texts) {
            if (!text.isEmpty()) {
                all.add(text);
            }
        }
        return all.toString();
    }

    /** The text of n numbers from the given one on. */
    static String row(int first, int n) {
        StringJoiner all = new StringJoiner(" ");
        for (int i = 0; i < n; i++) {
            all.add("" + (first + i));
        }
        return all.toString();
    }

    /** The text of one number n times. */
    static String times(int number, int n) {
        StringJoiner all = new StringJoiner(" ");
        for (int i = 0; i < n; i++) {
            all.add("" + number);
        }
        return all.toString();
    }
}
