/** Promise 13: query. */
final class P13QueryTest {
    public static void main(String[] args) {
        TtyDiscipline x = busy();
        int[] due = {2, 9, 17, 3, 13, 5, 1, 27, 1234, 1, 40};
        for (int kind = 0; kind <= 10; kind++) {
            Checks.due("query(" + kind + ")", x.query(kind), due[kind]);
            Checks.due("query(" + kind + ") again", x.query(kind), due[kind]);
        }
        int[] unknown = {Integer.MIN_VALUE, -2, -1, 11, 12, 256, Integer.MAX_VALUE};
        for (int kind : unknown) {
            Checks.due("query(" + kind + ")", x.query(kind), -1);
        }
        for (int kind = 0; kind <= 10; kind++) {
            Checks.due("after all: query(" + kind + ")", x.query(kind), due[kind]);
        }
        Checks.end();
    }

    /** An object whose eleven values are all different from the initial ones. */
    private static TtyDiscipline busy() {
        TtyDiscipline x = new TtyDiscipline(8, 16, 32);
        Checks.type(x, "four!");
        x.receive(3);                       // 5 dropped, 1 signal, column 7
        x.setForeground(1234);
        x.setFlags(27);
        x.startRead(3);
        x.tick(40);                         // idle 40
        Checks.type(x, "ab\n");             // 3 in the user buffer
        Checks.type(x, "cdefg\nhi\nk");     // 9 input entries
        x.receive('l');                     // line of 2
        Checks.transmitAll(x);
        Checks.write(x, 'w', 6);
        Checks.write(x, 13, 2);
        Checks.write(x, 'w', 9);            // 17 in the output queue
        x.write(9);
        x.transmit();
        x.write(8);
        x.transmit();
        x.write(8);
        x.transmit();
        x.write(8);
        x.transmit();                       // column 16 - 3
        x.receive(19);
        return x;
    }
}
