/**
 * A terminal line discipline between a serial device and one reading process.
 *
 * The input queue, the output queue and the user buffer are rings of 64 places,
 * whatever the capacity: masking with 63 then keeps every index inside its array.
 */
public final class TtyDiscipline {
    public static final int ICANON = 1, ECHO = 2, ECHOE = 4, ISIG = 8, IXON = 16;
    public static final int C_INTR = 0, C_SUSP = 1, C_ERASE = 2, C_WERASE = 3, C_KILL = 4,
        C_EOF = 5, C_START = 6, C_STOP = 7, C_MIN = 8, C_TIME = 9;
    public static final int EOF_MARK = 256;
    public static final int USER_CAP = 64;
    public static final int SIGINT = 2, SIGTSTP = 20;
    public static final int READ_NONE = -1, READ_INTERRUPTED = -2, READ_PENDING = -3;
    public static final int IN_STOPPED = 1, IN_STARTED = 2, IN_SIGNAL = 3, IN_EDITED = 4,
        IN_LINE = 5, IN_STORED = 6, IN_DROPPED = 7;
    public static final int Q_LINE_LENGTH = 0, Q_INPUT_COUNT = 1, Q_OUTPUT_COUNT = 2,
        Q_USER_COUNT = 3, Q_COLUMN = 4, Q_DROPPED = 5, Q_STOPPED = 6, Q_FLAGS = 7,
        Q_FOREGROUND = 8, Q_SIGNALS = 9, Q_IDLE = 10;

    private static final int LEAST_LINE = 8, GREATEST_LINE = 32;
    private static final int LEAST_INPUT = 16, GREATEST_INPUT = 64;
    private static final int LEAST_OUTPUT = 32, GREATEST_OUTPUT = 64;
    private static final int RING_MASK = 63;
    private static final int SIGNAL_CAP = 8, SIGNAL_MASK = 7;
    private static final int ALL_FLAGS = 31;
    private static final int BYTE_MASK = 255;
    private static final int DISABLED = -1;
    private static final int GREATEST_GROUP = 30000;
    private static final int LONGEST_TICK = 1000;
    private static final int BACKSPACE = 8, TAB = 9, NEWLINE = 10, RETURN = 13, SPACE = 32,
        CARET = 94, DELETE = 127;
    private static final int NO_ENTRY = -1;
    private static final int NO_CONTROL = -2;
    private static final int UNKNOWN_KIND = -1;

    private final int lineCap;
    private final int inCap;
    private final int outCap;

    private final int[] line = new int[GREATEST_LINE];
    private final int[] lineWidth = new int[GREATEST_LINE];
    private int lineLength;

    private final int[] input = new int[GREATEST_INPUT];
    private int inputHead;
    private int inputCount;

    private final int[] output = new int[GREATEST_OUTPUT];
    private int outputHead;
    private int outputCount;

    private final int[] user = new int[USER_CAP];
    private int userHead;
    private int userCount;

    private final int[] signals = new int[SIGNAL_CAP];
    private int signalHead;
    private int signalCount;

    private final int[] control = new int[10];
    private int flags;
    private int dropped;
    private int column;
    private boolean stopped;
    private int foreground;
    private int idle;
    private boolean pending;
    private int lastResult;
    private int readMax;

    public TtyDiscipline(int lineCap, int inCap, int outCap) {
        this.lineCap = clamp(lineCap, LEAST_LINE, GREATEST_LINE);
        this.inCap = clamp(inCap, LEAST_INPUT, GREATEST_INPUT);
        this.outCap = clamp(outCap, LEAST_OUTPUT, GREATEST_OUTPUT);
        control[C_INTR] = 3;
        control[C_SUSP] = 26;
        control[C_ERASE] = 127;
        control[C_WERASE] = 23;
        control[C_KILL] = 21;
        control[C_EOF] = 4;
        control[C_START] = 17;
        control[C_STOP] = 19;
        control[C_MIN] = 1;
        control[C_TIME] = 0;
        flags = ALL_FLAGS;
        foreground = 1;
        lastResult = READ_NONE;
    }

    public void setFlags(int flags) {
        int wanted = flags & ALL_FLAGS;
        if (isSet(ICANON) && (wanted & ICANON) == 0) {
            removeEofMarks();
            spillLine();
        }
        if ((wanted & IXON) == 0) {
            stopped = false;
        }
        this.flags = wanted;
        checkCompletion();
    }

    public boolean setControl(int which, int value) {
        if (which < C_INTR || which > C_TIME) {
            return false;
        }
        int least = which <= C_STOP ? DISABLED : 0;
        if (value < least || value > BYTE_MASK) {
            return false;
        }
        control[which] = value;
        checkCompletion();
        return true;
    }

    public int getControl(int which) {
        if (which < C_INTR || which > C_TIME) {
            return NO_CONTROL;
        }
        return control[which];
    }

    public boolean setForeground(int pgrp) {
        if (pgrp < 1 || pgrp > GREATEST_GROUP) {
            return false;
        }
        foreground = pgrp;
        return true;
    }

    public int receive(int c) {
        int b = c & BYTE_MASK;
        int answer;
        if (isSet(IXON) && b == control[C_STOP]) {
            stopped = true;
            answer = IN_STOPPED;
        } else if (isSet(IXON) && b == control[C_START]) {
            stopped = false;
            answer = IN_STARTED;
        } else if (isSet(ISIG) && (b == control[C_INTR] || b == control[C_SUSP])) {
            raiseSignal(b);
            answer = IN_SIGNAL;
        } else if (isSet(ICANON)) {
            answer = receiveCanonical(b);
        } else {
            answer = receiveRaw(b);
        }
        checkCompletion();
        return answer;
    }

    public boolean write(int c) {
        int b = c & BYTE_MASK;
        if (b == NEWLINE) {
            return putPair(RETURN, NEWLINE);
        }
        return putSingle(b);
    }

    public int transmit() {
        if (stopped || outputCount == 0) {
            return NO_ENTRY;
        }
        int b = output[outputHead];
        outputHead = (outputHead + 1) & RING_MASK;
        outputCount--;
        return b;
    }

    public boolean tick(int n) {
        if (n < 1 || n > LONGEST_TICK) {
            return false;
        }
        if (pending) {
            idle += n;
            checkCompletion();
        }
        return true;
    }

    public boolean startRead(int max) {
        if (pending || max < 1 || max > USER_CAP - userCount) {
            return false;
        }
        pending = true;
        readMax = max;
        idle = 0;
        checkCompletion();
        return true;
    }

    public int readStatus() {
        return pending ? READ_PENDING : lastResult;
    }

    public int takeByte() {
        if (userCount == 0) {
            return NO_ENTRY;
        }
        int b = user[userHead];
        userHead = (userHead + 1) & RING_MASK;
        userCount--;
        return b;
    }

    public int takeSignal() {
        if (signalCount == 0) {
            return NO_ENTRY;
        }
        int entry = signals[signalHead];
        signalHead = (signalHead + 1) & SIGNAL_MASK;
        signalCount--;
        return entry;
    }

    public int query(int kind) {
        switch (kind) {
            case Q_LINE_LENGTH: return lineLength;
            case Q_INPUT_COUNT: return inputCount;
            case Q_OUTPUT_COUNT: return outputCount;
            case Q_USER_COUNT: return userCount;
            case Q_COLUMN: return column;
            case Q_DROPPED: return dropped;
            case Q_STOPPED: return stopped ? 1 : 0;
            case Q_FLAGS: return flags;
            case Q_FOREGROUND: return foreground;
            case Q_SIGNALS: return signalCount;
            case Q_IDLE: return idle;
            default: return UNKNOWN_KIND;
        }
    }

    public int lineAt(int i) {
        if (i < 0 || i >= lineLength) {
            return NO_ENTRY;
        }
        return line[i];
    }

    public int inputAt(int i) {
        if (i < 0 || i >= inputCount) {
            return NO_ENTRY;
        }
        return input[(inputHead + i) & RING_MASK];
    }

    public int outputAt(int i) {
        if (i < 0 || i >= outputCount) {
            return NO_ENTRY;
        }
        return output[(outputHead + i) & RING_MASK];
    }

    private static int clamp(int value, int least, int greatest) {
        if (value < least) {
            return least;
        }
        return value > greatest ? greatest : value;
    }

    private boolean isSet(int flag) {
        return (flags & flag) != 0;
    }

    // ---- one received byte ----

    private void raiseSignal(int b) {
        // INTR is asked first, so that it wins when SUSP holds the same value.
        int signal = b == control[C_INTR] ? SIGINT : SIGTSTP;
        postSignal(signal);
        dropped += lineLength + countInputBytes();
        lineLength = 0;
        inputCount = 0;
        outputCount = 0;
        stopped = false;
        if (pending) {
            endRead(READ_INTERRUPTED);
        }
        // Only after the flush, so that the echo is what the device sees next.
        echoByte(b);
    }

    private void postSignal(int signal) {
        if (signalCount < SIGNAL_CAP) {
            signals[(signalHead + signalCount) & SIGNAL_MASK] = foreground * 32 + signal;
            signalCount++;
        }
    }

    private int receiveCanonical(int b) {
        if (b == control[C_ERASE]) {
            eraseLast(b);
            return IN_EDITED;
        }
        if (b == control[C_WERASE]) {
            eraseWord(b);
            return IN_EDITED;
        }
        if (b == control[C_KILL]) {
            killLine(b);
            return IN_EDITED;
        }
        if (b == control[C_EOF]) {
            return endOfFile();
        }
        if (b == NEWLINE) {
            return endOfLine();
        }
        return storeInLine(b);
    }

    private void eraseLast(int b) {
        if (lineLength == 0) {
            return;
        }
        cutLine(lineLength - 1);
        if (!isSet(ECHOE)) {
            echoByte(b);
        }
    }

    private void eraseWord(int b) {
        if (lineLength == 0) {
            return;
        }
        int start = lastWordStart();
        cutLine(start);
        if (!isSet(ECHOE)) {
            echoByte(b);
        }
    }

    private void killLine(int b) {
        if (lineLength == 0) {
            return;
        }
        cutLine(0);
        if (!isSet(ECHOE)) {
            // Two units: one of them may fit where both together would not.
            echoByte(b);
            echoByte(NEWLINE);
        }
    }

    private int lastWordStart() {
        int start = lineLength;
        while (start > 0 && isBlank(line[start - 1])) {
            start--;
        }
        while (start > 0 && !isBlank(line[start - 1])) {
            start--;
        }
        return start;
    }

    private static boolean isBlank(int b) {
        return b == SPACE || b == TAB;
    }

    /** Shortens the line to the given length, rubbing out from its end. */
    private void cutLine(int length) {
        for (int i = lineLength - 1; i >= length; i--) {
            rubOut(line[i], lineWidth[i]);
        }
        lineLength = length;
    }

    private int endOfFile() {
        // The mark is no input byte: a lost one isn't counted as dropped.
        if (inCap - inputCount < lineLength + 1) {
            dropped += lineLength;
            lineLength = 0;
            return IN_DROPPED;
        }
        passLine(EOF_MARK);
        return IN_LINE;
    }

    private int endOfLine() {
        if (inCap - inputCount < lineLength + 1) {
            dropped += lineLength + 1;
            lineLength = 0;
            return IN_DROPPED;
        }
        passLine(NEWLINE);
        echoByte(NEWLINE);
        return IN_LINE;
    }

    /** Moves the line and its ending to the input queue; the caller has seen that there is room. */
    private void passLine(int ending) {
        for (int i = 0; i < lineLength; i++) {
            appendInput(line[i]);
        }
        appendInput(ending);
        lineLength = 0;
    }

    private int storeInLine(int b) {
        if (lineLength >= lineCap) {
            dropped++;
            return IN_DROPPED;
        }
        int width = echoByte(b);
        line[lineLength] = b;
        lineWidth[lineLength] = width;
        lineLength++;
        return IN_STORED;
    }

    private int receiveRaw(int b) {
        if (inputCount >= inCap) {
            dropped++;
            return IN_DROPPED;
        }
        appendInput(b);
        idle = 0;
        echoByte(b);
        return IN_STORED;
    }

    // ---- the input queue ----

    private void appendInput(int entry) {
        input[(inputHead + inputCount) & RING_MASK] = entry;
        inputCount++;
    }

    private int countInputBytes() {
        int bytes = 0;
        for (int i = 0; i < inputCount; i++) {
            if (input[(inputHead + i) & RING_MASK] != EOF_MARK) {
                bytes++;
            }
        }
        return bytes;
    }

    private void removeEofMarks() {
        int kept = 0;
        for (int i = 0; i < inputCount; i++) {
            int entry = input[(inputHead + i) & RING_MASK];
            if (entry != EOF_MARK) {
                input[(inputHead + kept) & RING_MASK] = entry;
                kept++;
            }
        }
        inputCount = kept;
    }

    /** Moves the unfinished line to the input queue as far as there is room. */
    private void spillLine() {
        for (int i = 0; i < lineLength; i++) {
            if (inputCount < inCap) {
                appendInput(line[i]);
            } else {
                dropped++;
            }
        }
        lineLength = 0;
    }

    // ---- the pending read ----

    private void checkCompletion() {
        if (!pending) {
            return;
        }
        if (isSet(ICANON)) {
            if (holdsLineEnd()) {
                int count = deliverLine();
                endRead(count);
            }
        } else if (rawReadIsDue()) {
            int count = deliverRaw();
            endRead(count);
        }
    }

    private void endRead(int result) {
        pending = false;
        lastResult = result;
    }

    private boolean holdsLineEnd() {
        for (int i = 0; i < inputCount; i++) {
            int entry = input[(inputHead + i) & RING_MASK];
            if (entry == NEWLINE || entry == EOF_MARK) {
                return true;
            }
        }
        return false;
    }

    private int deliverLine() {
        int count = 0;
        for (int left = inputCount; left > 0; left--) {
            int head = input[inputHead];
            // The mark goes even when the read is full: else the next read
            // would take it for an end of file of its own.
            if (head == EOF_MARK) {
                dropInputHead();
                return count;
            }
            if (count == readMax) {
                return count;
            }
            dropInputHead();
            appendUser(head);
            count++;
            if (head == NEWLINE) {
                return count;
            }
        }
        return count;
    }

    private boolean rawReadIsDue() {
        int min = control[C_MIN];
        int time = control[C_TIME];
        int need = min < readMax ? min : readMax;
        if (min == 0 && time == 0) {
            return true;
        }
        if (time == 0) {
            return inputCount >= need;
        }
        if (min == 0) {
            return inputCount >= 1 || idle >= time;
        }
        return inputCount >= need || (inputCount >= 1 && idle >= time);
    }

    private int deliverRaw() {
        int count = inputCount < readMax ? inputCount : readMax;
        for (int i = 0; i < count; i++) {
            int head = input[inputHead];
            dropInputHead();
            appendUser(head);
        }
        return count;
    }

    private void dropInputHead() {
        inputHead = (inputHead + 1) & RING_MASK;
        inputCount--;
    }

    /** There is always room: startRead refuses a read that the buffer could not hold. */
    private void appendUser(int b) {
        user[(userHead + userCount) & RING_MASK] = b;
        userCount++;
    }

    // ---- echo and the output queue ----

    /** Answers the width of the echo: the columns that it moved. */
    private int echoByte(int b) {
        if (!isSet(ECHO)) {
            return 0;
        }
        int before = column;
        if (b == NEWLINE) {
            putPair(RETURN, NEWLINE);
        } else if (b == TAB || (b >= SPACE && b != DELETE)) {
            putSingle(b);
        } else {
            putPair(CARET, b ^ 64);
        }
        return column - before;
    }

    private void rubOut(int erased, int width) {
        if (!isSet(ECHO) || !isSet(ECHOE)) {
            return;
        }
        // A tab left nothing on the screen to blank: stepping back is enough.
        boolean blanks = erased != TAB;
        int length = blanks ? width * 3 : width;
        if (length > outCap - outputCount) {
            return;
        }
        for (int i = 0; i < width; i++) {
            appendOutput(BACKSPACE);
            if (blanks) {
                appendOutput(SPACE);
                appendOutput(BACKSPACE);
            }
        }
    }

    private boolean putSingle(int b) {
        if (1 > outCap - outputCount) {
            return false;
        }
        appendOutput(b);
        return true;
    }

    private boolean putPair(int first, int second) {
        if (2 > outCap - outputCount) {
            return false;
        }
        appendOutput(first);
        appendOutput(second);
        return true;
    }

    /** Appends one byte of a unit; the caller has seen that the whole unit fits. */
    private void appendOutput(int b) {
        output[(outputHead + outputCount) & RING_MASK] = b;
        outputCount++;
        if (b == BACKSPACE) {
            if (column > 0) {
                column--;
            }
        } else if (b == TAB) {
            column += 8 - column % 8;
        } else if (b == NEWLINE || b == RETURN) {
            column = 0;
        } else if (b >= SPACE && b != DELETE) {
            column++;
        }
    }
}
