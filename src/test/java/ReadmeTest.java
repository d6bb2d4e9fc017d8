import java.io.IOException;
import java.lang.reflect.Method;
import java.lang.reflect.Modifier;
import java.nio.file.Files;
import java.nio.file.Path;

/**
 * README.md tells the class as it is: its example is run here, its table has every
 * call and what a refused one answers. It is run in the project's directory.
 */
final class ReadmeTest {
    public static void main(String[] args) throws IOException {
        String readme = Files.readString(Path.of("README.md"));
        String own = Files.readString(Path.of("src/test/java/ReadmeTest.java"));
        example();
        exampleIsTheSame(readme, own);
        everyCall(readme);
        newObject();
        refusals();
        Checks.end();
    }

    private static void example() {
TtyDiscipline tty = new TtyDiscipline(32, 64, 64);

tty.startRead(16);                 // the process wants up to 16 bytes
tty.receive('h');                  // the device feeds bytes
tty.receive('j');
tty.receive(127);                  // ERASE takes the 'j' back
tty.receive('i');
int before = tty.readStatus();     // READ_PENDING: the line has no end yet
tty.receive('\n');                 // passes the line on: the read completes
int count = tty.readStatus();      // 3

int first = tty.takeByte();        // 'h', then 'i', then '\n', then -1
int sent = tty.transmit();         // 'h', the first byte of the echo

tty.receive(3);                    // INTR: a signal for the foreground group
int signal = tty.takeSignal();     // 1 * 32 + SIGINT

        Checks.due("before", before, TtyDiscipline.READ_PENDING);
        Checks.due("count", count, 3);
        Checks.due("first", first, 'h');
        Checks.due("the others", Checks.takeBytes(tty), "105 10");
        Checks.due("then", tty.takeByte(), -1);
        Checks.due("sent", sent, 'h');
        Checks.due("signal", signal, 1 * 32 + TtyDiscipline.SIGINT);
    }

    private static void exampleIsTheSame(String readme, String own) {
        int from = readme.indexOf("```java\n");
        Checks.due("README.md has an example", from >= 0, true);
        if (from >= 0) {
            from += "```java\n".length();
            String block = readme.substring(from, readme.indexOf("```", from));
            Checks.due("README.md's example is the one that is run here", own.contains(block), true);
        }
    }

    private static void everyCall(String readme) {
        for (Method m : TtyDiscipline.class.getDeclaredMethods()) {
            if (Modifier.isPublic(m.getModifiers())) {
                boolean told = readme.contains("\n| `" + m.getName() + "(");
                Checks.due("README.md's table has " + m.getName(), told, true);
            }
        }
        String[] ranges = {"`lineCap` .* 8\\.\\.32 ", "`inCap` .* 16\\.\\.64 ", "`outCap` .* 32\\.\\.64 "};
        for (String range : ranges) {
            boolean told = readme.lines().anyMatch(line -> line.matches(".*" + range + ".*"));
            Checks.due("README.md tells " + range, told, true);
        }
    }

    private static void newObject() {
        TtyDiscipline x = Checks.fresh();
        Checks.due("flags", x.query(TtyDiscipline.Q_FLAGS), TtyDiscipline.ICANON + TtyDiscipline.ECHO
            + TtyDiscipline.ECHOE + TtyDiscipline.ISIG + TtyDiscipline.IXON);
        String keys = "CZ?WUDQS";
        for (int which = 0; which < keys.length(); which++) {
            Checks.due("key " + which, x.getControl(which), keys.charAt(which) ^ 64);
        }
        Checks.due("MIN", x.getControl(TtyDiscipline.C_MIN), 1);
        Checks.due("TIME", x.getControl(TtyDiscipline.C_TIME), 0);
        Checks.due("foreground", x.query(TtyDiscipline.Q_FOREGROUND), 1);
        Checks.due("readStatus()", x.readStatus(), TtyDiscipline.READ_NONE);
    }

    private static void refusals() {
        TtyDiscipline x = Checks.small();
        Checks.leaveRoom(x, 32, 0);
        x.receive(19);
        x.startRead(64);
        String before = Checks.state(x);
        Checks.due("setControl", x.setControl(10, 1), false);
        Checks.due("setControl", x.setControl(TtyDiscipline.C_MIN, -1), false);
        Checks.due("getControl", x.getControl(10), -2);
        Checks.due("setForeground", x.setForeground(30001), false);
        Checks.due("write", x.write('a'), false);
        Checks.due("transmit", x.transmit(), -1);
        Checks.due("tick", x.tick(1001), false);
        Checks.due("startRead", x.startRead(1), false);
        Checks.due("takeByte", x.takeByte(), -1);
        Checks.due("takeSignal", x.takeSignal(), -1);
        Checks.due("query", x.query(11), -1);
        Checks.due("lineAt", x.lineAt(0), -1);
        Checks.due("inputAt", x.inputAt(0), -1);
        Checks.due("outputAt", x.outputAt(32), -1);
        Checks.due("the state after refused calls", Checks.state(x), before);
    }
}
