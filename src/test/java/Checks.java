import java.util.StringJoiner;

/** What the tests share: counting wrong answers, and showing an object's state as text. */
final class Checks {
    private static int wrong = 0;

    private Checks() { }

    static void due(String what, long got, long want) {
        if (got != want) {
            wrong++;
            System.out.println(what + " answered " + got + ", due is " + want);
        }
    }

    static void due(String what, boolean got, boolean want) {
        if (got != want) {
            wrong++;
            System.out.println(what + " answered " + got + ", due is " + want);
        }
    }

    static void due(String what, String got, String want) {
        if (!got.equals(want)) {
            wrong++;
            System.out.println(what + " is\n  [" + got + "], due is\n  [" + want + "]");
        }
    }

    static void end() {
        if (wrong != 0) {
            System.out.println(wrong + " answers are not as due");
            System.exit(1);
        }
    }

    static TtyDiscipline fresh() {
        return new TtyDiscipline(32, 64, 64);
    }

    static TtyDiscipline small() {
        return new TtyDiscipline(8, 16, 32);
    }

    /** Receives every character of the text. */
    static void type(TtyDiscipline x, String text) {
        for (int i = 0; i < text.length(); i++) {
            x.receive(text.charAt(i));
        }
    }

    /** Writes n times the byte b. */
    static void write(TtyDiscipline x, int b, int n) {
        for (int i = 0; i < n; i++) {
            due("write(" + b + ") nr " + i, x.write(b), true);
        }
    }

    static String line(TtyDiscipline x) {
        StringJoiner all = new StringJoiner(" ");
        for (int i = 0; i < x.query(TtyDiscipline.Q_LINE_LENGTH); i++) {
            all.add("" + x.lineAt(i));
        }
        return all.toString();
    }

    static String input(TtyDiscipline x) {
        StringJoiner all = new StringJoiner(" ");
        for (int i = 0; i < x.query(TtyDiscipline.Q_INPUT_COUNT); i++) {
            all.add("" + x.inputAt(i));
        }
        return all.toString();
    }

    static String output(TtyDiscipline x) {
        StringJoiner all = new StringJoiner(" ");
        for (int i = 0; i < x.query(TtyDiscipline.Q_OUTPUT_COUNT); i++) {
            all.add("" + x.outputAt(i));
        }
        return all.toString();
    }

    static String controls(TtyDiscipline x) {
        StringJoiner all = new StringJoiner(" ");
        for (int which = 0; which <= 9; which++) {
            all.add("" + x.getControl(which));
        }
        return all.toString();
    }

    /** All that can be seen without taking anything away. */
    static String state(TtyDiscipline x) {
        StringBuilder all = new StringBuilder();
        for (int kind = 0; kind <= 10; kind++) {
            all.append("q").append(kind).append('=').append(x.query(kind)).append(' ');
        }
        all.append("line=").append(line(x)).append("; input=").append(input(x));
        all.append("; output=").append(output(x)).append("; controls=").append(controls(x));
        return all.append("; read=").append(x.readStatus()).toString();
    }

    static String takeBytes(TtyDiscipline x) {
        StringJoiner all = new StringJoiner(" ");
        for (int i = x.query(TtyDiscipline.Q_USER_COUNT); i > 0; i--) {
            all.add("" + x.takeByte());
        }
        return all.toString();
    }

    static String takeSignals(TtyDiscipline x) {
        StringJoiner all = new StringJoiner(" ");
        for (int i = x.query(TtyDiscipline.Q_SIGNALS); i > 0; i--) {
            all.add("" + x.takeSignal());
        }
        return all.toString();
    }

    static String transmitAll(TtyDiscipline x) {
        StringJoiner all = new StringJoiner(" ");
        for (int i = x.query(TtyDiscipline.Q_OUTPUT_COUNT); i > 0; i--) {
            all.add("" + x.transmit());
        }
        return all.toString();
    }

    /** The text of one number n times. */
    static String times(int number, int n) {
        StringJoiner all = new StringJoiner(" ");
        for (int i = 0; i < n; i++) {
            all.add("" + number);
        }
        return all.toString();
    }
}
