import java.lang.reflect.Constructor;
import java.lang.reflect.Field;
import java.lang.reflect.Method;
import java.lang.reflect.Modifier;
import java.util.Set;
import java.util.TreeSet;

/** The members that can be seen from outside are those of the document's face, and no others. */
final class FaceTest {
    private static final Set<String> CONSTANTS = Set.of(
        "ICANON=1", "ECHO=2", "ECHOE=4", "ISIG=8", "IXON=16",
        "C_INTR=0", "C_SUSP=1", "C_ERASE=2", "C_WERASE=3", "C_KILL=4", "C_EOF=5", "C_START=6", "C_STOP=7",
        "C_MIN=8", "C_TIME=9", "EOF_MARK=256", "USER_CAP=64", "SIGINT=2", "SIGTSTP=20",
        "READ_NONE=-1", "READ_INTERRUPTED=-2", "READ_PENDING=-3",
        "IN_STOPPED=1", "IN_STARTED=2", "IN_SIGNAL=3", "IN_EDITED=4", "IN_LINE=5", "IN_STORED=6", "IN_DROPPED=7",
        "Q_LINE_LENGTH=0", "Q_INPUT_COUNT=1", "Q_OUTPUT_COUNT=2", "Q_USER_COUNT=3", "Q_COLUMN=4",
        "Q_DROPPED=5", "Q_STOPPED=6", "Q_FLAGS=7", "Q_FOREGROUND=8", "Q_SIGNALS=9", "Q_IDLE=10");
    private static final Set<String> METHODS = Set.of(
        "void setFlags(int)", "boolean setControl(int,int)", "int getControl(int)", "boolean setForeground(int)",
        "int receive(int)", "boolean write(int)", "int transmit()", "boolean tick(int)", "boolean startRead(int)",
        "int readStatus()", "int takeByte()", "int takeSignal()", "int query(int)", "int lineAt(int)",
        "int inputAt(int)", "int outputAt(int)");

    public static void main(String[] args) throws IllegalAccessException {
        Class<?> face = TtyDiscipline.class;
        Checks.due("class", Modifier.toString(face.getModifiers()), "public final");
        Checks.due("nested classes", face.getDeclaredClasses().length, 0);
        Checks.due("superclass", face.getSuperclass().getName(), "java.lang.Object");
        Checks.due("interfaces", face.getInterfaces().length, 0);
        constructors(face);
        fields(face);
        methods(face);
        Checks.end();
    }

    private static void constructors(Class<?> face) {
        Constructor<?>[] all = face.getDeclaredConstructors();
        Checks.due("constructors", all.length, 1);
        Checks.due("constructor", all[0].toString(), "public TtyDiscipline(int,int,int)");
    }

    private static void fields(Class<?> face) throws IllegalAccessException {
        Set<String> seen = new TreeSet<>();
        for (Field f : face.getDeclaredFields()) {
            int is = f.getModifiers();
            if (!Modifier.isPrivate(is)) {
                Checks.due(f.getName(), Modifier.toString(is) + " " + f.getType(), "public static final int");
                seen.add(f.getName() + "=" + f.getInt(null));
            }
            if (Modifier.isStatic(is)) {
                Checks.due(f.getName() + " final", Modifier.isFinal(is), true);
                Checks.due(f.getName() + " int or long", f.getType() == int.class || f.getType() == long.class, true);
            }
        }
        Checks.due("constants", seen.toString(), new TreeSet<>(CONSTANTS).toString());
    }

    private static void methods(Class<?> face) {
        Set<String> seen = new TreeSet<>();
        for (Method m : face.getDeclaredMethods()) {
            if (!Modifier.isPrivate(m.getModifiers())) {
                Checks.due(m.getName(), Modifier.toString(m.getModifiers()), "public");
                seen.add(m.toString().replace("public ", "").replace("TtyDiscipline.", ""));
            }
        }
        Checks.due("methods", seen.toString(), new TreeSet<>(METHODS).toString());
    }
}
