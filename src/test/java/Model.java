import java.util.ArrayList;
import java.util.List;

/**
 * The document once more, written over lists and apart from the class, so that
 * the two can be compared. Nothing here is meant to be fast.
 */
final class Model {
    private final int lineCap, inCap, outCap;
    private final List<int[]> line = new ArrayList<>(); // byte, width
    private final List<Integer> input = new ArrayList<>();
    private final List<Integer> output = new ArrayList<>();
    private final List<Integer> user = new ArrayList<>();
    private final List<Integer> signals = new ArrayList<>();
    private final int[] control = {3, 26, 127, 23, 21, 4, 17, 19, 1, 0};
    private boolean canon = true, echo = true, echoe = true, isig = true, ixon = true;
    private int dropped, column, idle, max;
    private boolean stopped, pending;
    private int foreground = 1, last = -1;

    Model(int lineCap, int inCap, int outCap) {
        this.lineCap = Math.min(32, Math.max(8, lineCap));
        this.inCap = Math.min(64, Math.max(16, inCap));
        this.outCap = Math.min(64, Math.max(32, outCap));
    }

    void setFlags(int f) {
        if (canon && f % 2 == 0) {
            input.removeIf(e -> e == 256);
            for (int[] e : line) {
                if (input.size() == inCap) {
                    dropped++;
                } else {
                    input.add(e[0]);
                }
            }
            line.clear();
        }
        canon = (f & 1) > 0;
        echo = (f & 2) > 0;
        echoe = (f & 4) > 0;
        isig = (f & 8) > 0;
        ixon = (f & 16) > 0;
        stopped &= ixon;
        complete();
    }

    boolean setControl(int which, int value) {
        boolean wrong = which < 0 || which > 9 || value > 255 || value < -1 || which > 7 && value == -1;
        if (!wrong) {
            control[which] = value;
            complete();
        }
        return !wrong;
    }

    int getControl(int which) {
        return 0 <= which && which < 10 ? control[which] : -2;
    }

    boolean setForeground(int pgrp) {
        boolean fits = 0 < pgrp && pgrp < 30001;
        foreground = fits ? pgrp : foreground;
        return fits;
    }

    int receive(int c) {
        int answer = step(Math.floorMod(c, 256));
        complete();
        return answer;
    }

    private int step(int b) {
        if (ixon && b == control[7]) {
            stopped = true;
            return 1;
        }
        if (ixon && b == control[6]) {
            stopped = false;
            return 2;
        }
        if (isig && (b == control[0] || b == control[1])) {
            if (signals.size() < 8) {
                signals.add(foreground * 32 + (b == control[0] ? 2 : 20));
            }
            dropped += line.size() + (int) input.stream().filter(e -> e < 256).count();
            line.clear();
            input.clear();
            output.clear();
            stopped = false;
            last = pending ? -2 : last;
            pending = false;
            echo(b);
            return 3;
        }
        return canon ? canonical(b) : raw(b);
    }

    private int canonical(int b) {
        List<int[]> gone = new ArrayList<>();
        if (b == control[2] || b == control[3] || b == control[4]) {
            boolean kill = false;
            if (b == control[2]) {
                pop(gone);
            } else if (b == control[3]) {
                while (!line.isEmpty() && blank()) {
                    pop(gone);
                }
                while (!line.isEmpty() && !blank()) {
                    pop(gone);
                }
            } else {
                kill = true;
                while (!line.isEmpty()) {
                    pop(gone);
                }
            }
            if (echoe) {
                gone.forEach(this::rubOut);
            } else if (!gone.isEmpty()) {
                echo(b);
                if (kill) {
                    echo(10);
                }
            }
            return 4;
        }
        if (b == control[5] || b == 10) {
            boolean file = b == control[5];
            boolean fits = input.size() + line.size() < inCap;
            if (fits) {
                line.forEach(e -> input.add(e[0]));
                input.add(file ? 256 : 10);
            } else {
                dropped += line.size() + (file ? 0 : 1);
            }
            line.clear();
            if (fits && !file) {
                echo(10);
            }
            return fits ? 5 : 7;
        }
        if (line.size() == lineCap) {
            dropped++;
            return 7;
        }
        line.add(new int[] {b, echo(b)});
        return 6;
    }

    private boolean blank() {
        int b = line.get(line.size() - 1)[0];
        return b == ' ' || b == '\t';
    }

    private void pop(List<int[]> gone) {
        if (!line.isEmpty()) {
            gone.add(line.remove(line.size() - 1));
        }
    }

    private int raw(int b) {
        if (input.size() == inCap) {
            dropped++;
            return 7;
        }
        input.add(b);
        idle = 0;
        echo(b);
        return 6;
    }

    private int echo(int b) {
        int before = column;
        if (echo) {
            if (b == 10) {
                unit(List.of(13, 10));
            } else if (b == 9 || b > 31 && b < 127 || b > 127) {
                unit(List.of(b));
            } else {
                unit(List.of(94, b ^ 64));
            }
        }
        return column - before;
    }

    private void rubOut(int[] e) {
        List<Integer> bytes = new ArrayList<>();
        for (int i = 0; i < e[1]; i++) {
            bytes.addAll(e[0] == 9 ? List.of(8) : List.of(8, 32, 8));
        }
        if (echo) {
            unit(bytes);
        }
    }

    private boolean unit(List<Integer> bytes) {
        if (output.size() + bytes.size() > outCap) {
            return false;
        }
        for (int b : bytes) {
            output.add(b);
            if (b == 8) {
                column = Math.max(0, column - 1);
            } else if (b == 9) {
                column = (column / 8 + 1) * 8;
            } else if (b == 10 || b == 13) {
                column = 0;
            } else if (b > 31 && b != 127) {
                column++;
            }
        }
        return true;
    }

    boolean write(int c) {
        int b = Math.floorMod(c, 256);
        return unit(b == 10 ? List.of(13, 10) : List.of(b));
    }

    int transmit() {
        return stopped ? -1 : take(output);
    }

    boolean tick(int n) {
        if (n <= 0 || n > 1000) {
            return false;
        }
        if (pending) {
            idle += n;
        }
        complete();
        return true;
    }

    boolean startRead(int max) {
        if (pending || max <= 0 || (long) user.size() + max > 64) {
            return false;
        }
        pending = true;
        this.max = max;
        idle = 0;
        complete();
        return true;
    }

    private void complete() {
        if (!pending || !(canon ? input.contains(10) || input.contains(256) : due())) {
            return;
        }
        int count = 0;
        while (!input.isEmpty()) {
            int head = input.get(0);
            if (canon && head == 256) {
                input.remove(0);
                break;
            }
            if (count == max) {
                break;
            }
            user.add(input.remove(0));
            count++;
            if (canon && head == 10) {
                break;
            }
        }
        pending = false;
        last = count;
    }

    private boolean due() {
        int a = input.size(), m = control[8], t = control[9];
        boolean enough = a >= Math.min(m, max);
        if (t == 0) {
            return m == 0 || enough;
        }
        return m == 0 ? a > 0 || idle >= t : enough || a > 0 && idle >= t;
    }

    int readStatus() {
        return pending ? -3 : last;
    }

    int takeByte() {
        return take(user);
    }

    int takeSignal() {
        return take(signals);
    }

    private static int take(List<Integer> queue) {
        return queue.isEmpty() ? -1 : queue.remove(0);
    }

    int query(int kind) {
        int flags = (canon ? 1 : 0) + (echo ? 2 : 0) + (echoe ? 4 : 0) + (isig ? 8 : 0) + (ixon ? 16 : 0);
        int[] all = {line.size(), input.size(), output.size(), user.size(), column, dropped,
            stopped ? 1 : 0, flags, foreground, signals.size(), idle};
        return 0 <= kind && kind < all.length ? all[kind] : -1;
    }

    int lineAt(int i) {
        return 0 <= i && i < line.size() ? line.get(i)[0] : -1;
    }

    int inputAt(int i) {
        return 0 <= i && i < input.size() ? input.get(i) : -1;
    }

    int outputAt(int i) {
        return 0 <= i && i < output.size() ? output.get(i) : -1;
    }
}
