/** Promise 10: readStatus. */
final class P10ReadStatusTest {
    public static void main(String[] args) {
        TtyDiscipline x = Checks.fresh();
        Checks.due("no read yet", x.readStatus(), -1);
        x.startRead(64);
        Checks.due("pending", x.readStatus(), -3);
        String before = Checks.state(x);
        Checks.due("pending again", x.readStatus(), -3);
        Checks.due("nothing changes", Checks.state(x), before);
        x.receive(3);
        Checks.due("interrupted", x.readStatus(), -2);
        Checks.due("interrupted again", x.readStatus(), -2);
        x.receive(4);
        x.startRead(1);
        Checks.due("end of file", x.readStatus(), 0);
        x.setFlags(0);
        for (int i = 0; i < 64; i++) {
            x.receive('a');
        }
        x.startRead(64);
        Checks.due("the most", x.readStatus(), 64);
        x.takeByte();
        Checks.due("taking bytes changes nothing", x.readStatus(), 64);
        x.setFlags(TtyDiscipline.ISIG);
        x.receive(3);
        Checks.due("a signal without read neither", x.readStatus(), 64);
        x.startRead(1);
        Checks.due("pending once more", x.readStatus(), -3);
        x.receive(26);
        Checks.due("interrupted once more", x.readStatus(), -2);
        Checks.end();
    }
}
