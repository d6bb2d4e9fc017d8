/** Promise 7: transmit. */
final class P07TransmitTest {
    public static void main(String[] args) {
        TtyDiscipline x = Checks.fresh();
        String fresh = Checks.state(x);
        Checks.due("empty", x.transmit(), -1);
        Checks.due("empty state", Checks.state(x), fresh);

        x.write('a');
        x.write(255);
        x.write(0);
        x.write(10);
        Checks.due("head", x.transmit(), 'a');
        Checks.due("rest", Checks.output(x), "255 0 13 10");
        Checks.due("255", x.transmit(), 255);
        Checks.due("0", x.transmit(), 0);
        x.write('b');
        Checks.due("column", x.query(TtyDiscipline.Q_COLUMN), 1);
        Checks.due("13", x.transmit(), 13);
        Checks.due("10", x.transmit(), 10);
        Checks.due("b", x.transmit(), 'b');
        Checks.due("column stays", x.query(TtyDiscipline.Q_COLUMN), 1);
        Checks.due("empty again", x.transmit(), -1);

        stopped();
        Checks.end();
    }

    private static void stopped() {
        TtyDiscipline x = Checks.fresh();
        Checks.type(x, "ab");
        x.receive(19);
        String before = Checks.state(x);
        Checks.due("stopped", x.transmit(), -1);
        Checks.due("stopped state", Checks.state(x), before);
        x.receive(17);
        Checks.due("started", x.transmit(), 'a');
        x.receive(19);
        x.setFlags(15);
        Checks.due("IXON clear", x.transmit(), 'b');
    }
}
