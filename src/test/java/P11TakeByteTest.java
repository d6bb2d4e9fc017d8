/** Promise 11: takeByte. */
final class P11TakeByteTest {
    public static void main(String[] args) {
        TtyDiscipline x = Checks.fresh();
        String before = Checks.state(x);
        Checks.due("empty", x.takeByte(), -1);
        Checks.due("state", Checks.state(x), before);

        x.setFlags(0);
        int[] bytes = {0, 255, 10, 128, 4};
        for (int b : bytes) {
            x.receive(b);
        }
        x.startRead(3);
        x.startRead(64 - 3);
        before = Checks.state(x);
        for (int i = 0; i < bytes.length; i++) {
            Checks.due("byte " + i, x.takeByte(), bytes[i]);
            Checks.due("left", x.query(TtyDiscipline.Q_USER_COUNT), bytes.length - 1 - i);
        }
        Checks.due("only the user buffer changes", Checks.state(x), before.replace("q3=5", "q3=0"));
        Checks.due("empty again", x.takeByte(), -1);
        Checks.due("count", x.query(TtyDiscipline.Q_USER_COUNT), 0);
        Checks.end();
    }
}
