/**
 * Column, idle and dropped are promised up to Integer.MAX_VALUE; past it they are
 * free, but no call fails. Only idle gets there in few enough calls for a test: the
 * others are followed to a million steps.
 */
final class E00FarCountsTest {
    private static final int FAR = 1000000;

    public static void main(String[] args) {
        Checks.sentence("Behaviour once ... idle ... would exceed Integer.MAX_VALUE is free.", E00FarCountsTest::idle);
        Checks.sentence("idle >= t (however long it has been)", E00FarCountsTest::timeOut);
        Checks.sentence("Behaviour once column ... would exceed Integer.MAX_VALUE is free.", E00FarCountsTest::column);
        Checks.sentence("Behaviour once ... dropped would exceed Integer.MAX_VALUE is free.", E00FarCountsTest::dropped);
        Checks.end();
    }

    /** An object whose pending read has been idle for Integer.MAX_VALUE. */
    private static TtyDiscipline longIdle() {
        TtyDiscipline x = Checks.fresh();
        x.startRead(5);
        for (int i = 0; i < Integer.MAX_VALUE / 1000; i++) {
            x.tick(1000);
        }
        x.tick(Integer.MAX_VALUE % 1000);
        return x;
    }

    private static void idle() {
        TtyDiscipline x = longIdle();
        Checks.due("idle", x.query(TtyDiscipline.Q_IDLE), Integer.MAX_VALUE);
        Checks.due("readStatus()", x.readStatus(), TtyDiscipline.READ_PENDING);
        Checks.due("tick(1000) past the greatest", x.tick(1000), true);
        Checks.type(x, "ab\n");
        Checks.due("the line still comes", x.readStatus(), 3);
        x.startRead(5);
        Checks.due("idle of the next read", x.query(TtyDiscipline.Q_IDLE), 0);
    }

    private static void timeOut() {
        TtyDiscipline x = longIdle();
        x.setControl(TtyDiscipline.C_TIME, 255);
        x.receive('a');
        Checks.due("in the line", x.readStatus(), TtyDiscipline.READ_PENDING);
        x.setControl(TtyDiscipline.C_MIN, 5);
        x.setFlags(0);
        Checks.due("as a byte", x.readStatus(), 1);
    }

    private static void column() {
        TtyDiscipline x = Checks.fresh();
        for (int i = 0; i < FAR; i++) {
            x.write(9);
            x.transmit();
        }
        Checks.due("column", x.query(TtyDiscipline.Q_COLUMN), 8 * FAR);
        Checks.type(x, "abc\t");
        Checks.due("column", x.query(TtyDiscipline.Q_COLUMN), 8 * FAR + 8);
        Checks.transmitAll(x);
        x.receive(127);
        Checks.due("rub-out of the tab", Checks.output(x), Checks.times(8, 5));
        Checks.due("column", x.query(TtyDiscipline.Q_COLUMN), 8 * FAR + 3);
    }

    private static void dropped() {
        TtyDiscipline x = Checks.small();
        for (int i = 0; i < 8 + FAR; i++) {
            x.receive('a');
        }
        Checks.due("dropped", x.query(TtyDiscipline.Q_DROPPED), FAR);
        x.receive(3);
        Checks.due("dropped", x.query(TtyDiscipline.Q_DROPPED), FAR + 8);
    }
}
