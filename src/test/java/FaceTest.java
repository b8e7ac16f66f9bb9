import java.lang.reflect.Constructor;
import java.lang.reflect.Field;
import java.lang.reflect.Method;
import java.lang.reflect.Modifier;
import java.util.Set;
import java.util.TreeSet;

/** The public face of the document, and that nothing else of the class can be seen. */
public final class FaceTest {
    private static final Due due = new Due();

    public static void main(String[] args) throws IllegalAccessException {
        theClass();
        theStatuses();
        theKinds();
        theLevels();
        theBounds();
        noOtherConstants();
        theMethods();
        allElseIsPrivate();
        due.end();
    }

    private static void theClass() {
        due.sentence("The public face", "the class");
        int modifiers = JobServer.class.getModifiers();
        due.is("public", Modifier.isPublic(modifiers), true);
        due.is("final", Modifier.isFinal(modifiers), true);
        due.same("package", JobServer.class.getPackageName(), "");
        due.same("superclass", JobServer.class.getSuperclass().getName(), "java.lang.Object");
        due.is("interfaces", JobServer.class.getInterfaces().length, 0);
        due.is("nested classes", JobServer.class.getDeclaredClasses().length, 0);
        due.is("constructors", JobServer.class.getDeclaredConstructors().length, 1);
        Constructor<?> only = JobServer.class.getDeclaredConstructors()[0];
        due.same("constructor", only.toString(), "public JobServer(int,int,int)");
    }

    private static void theStatuses() {
        due.sentence("Statuses: STATUS_WAITING = 0, STATUS_RUNNING = 1, STATUS_REMADE = 2, "
                + "STATUS_UPTODATE = 3, STATUS_FAILED = 4, STATUS_SKIPPED = 5.");
        due.is("STATUS_WAITING", JobServer.STATUS_WAITING, 0);
        due.is("STATUS_RUNNING", JobServer.STATUS_RUNNING, 1);
        due.is("STATUS_REMADE", JobServer.STATUS_REMADE, 2);
        due.is("STATUS_UPTODATE", JobServer.STATUS_UPTODATE, 3);
        due.is("STATUS_FAILED", JobServer.STATUS_FAILED, 4);
        due.is("STATUS_SKIPPED", JobServer.STATUS_SKIPPED, 5);
    }

    private static void theKinds() {
        due.sentence("Edge kinds: KIND_NONE = 0, KIND_NORMAL = 1, KIND_ORDER_ONLY = 2.");
        due.is("KIND_NONE", JobServer.KIND_NONE, 0);
        due.is("KIND_NORMAL", JobServer.KIND_NORMAL, 1);
        due.is("KIND_ORDER_ONLY", JobServer.KIND_ORDER_ONLY, 2);
    }

    private static void theLevels() {
        due.sentence("Levels: LEVEL_TOP = 0, LEVEL_SUB = 1, LEVEL_SUBMAKE = 2.");
        due.is("LEVEL_TOP", JobServer.LEVEL_TOP, 0);
        due.is("LEVEL_SUB", JobServer.LEVEL_SUB, 1);
        due.is("LEVEL_SUBMAKE", JobServer.LEVEL_SUBMAKE, 2);
    }

    private static void theBounds() {
        due.sentence("MAX_TIME = 1000000, STAMP_BASE = 1000000, MAX_DURATION = 15.");
        due.is("MAX_TIME", JobServer.MAX_TIME, 1000000);
        due.is("STAMP_BASE", JobServer.STAMP_BASE, 1000000);
        due.is("MAX_DURATION", JobServer.MAX_DURATION, 15);
    }

    private static void noOtherConstants() throws IllegalAccessException {
        due.sentence("Public constants:");
        Set<String> seen = new TreeSet<>();
        for (Field field : JobServer.class.getFields()) {
            String kind = Modifier.toString(field.getModifiers()) + " " + field.getType();
            due.same(field.getName(), kind, "public static final int");
            seen.add(field.getName() + "=" + field.getInt(null));
        }
        Set<String> want = new TreeSet<>(Set.of("STATUS_WAITING=0", "STATUS_RUNNING=1",
                "STATUS_REMADE=2", "STATUS_UPTODATE=3", "STATUS_FAILED=4", "STATUS_SKIPPED=5",
                "KIND_NONE=0", "KIND_NORMAL=1", "KIND_ORDER_ONLY=2", "LEVEL_TOP=0",
                "LEVEL_SUB=1", "LEVEL_SUBMAKE=2", "MAX_TIME=1000000", "STAMP_BASE=1000000",
                "MAX_DURATION=15"));
        due.same("constants", seen.toString(), want.toString());
    }

    private static void theMethods() {
        due.sentence("The public face", "the methods");
        Set<String> seen = new TreeSet<>();
        for (Method method : JobServer.class.getDeclaredMethods()) {
            if (!Modifier.isPrivate(method.getModifiers())) {
                seen.add(method.toString().replace("JobServer.", ""));
            }
        }
        Set<String> want = new TreeSet<>(Set.of("public boolean addPrereq(int,int,boolean)",
                "public boolean setTime(int,int)", "public boolean setCommand(int,int,boolean)",
                "public boolean setSubmake(int)", "public boolean setSub(int)",
                "public boolean start()", "public int tick()", "public int status(int)",
                "public int timeOf(int)", "public int commandOf(int)",
                "public int startedAt(int)", "public int finishedAt(int)",
                "public int prereqKind(int,int)", "public int level(int)",
                "public int tokensFree()", "public boolean isQuiet()"));
        due.same("methods", seen.toString(), want.toString());
    }

    /** So nothing of the state can be seen but by the methods of the document. */
    private static void allElseIsPrivate() {
        due.sentence("The remaining time of a target cannot be observed");
        for (Field field : JobServer.class.getDeclaredFields()) {
            int modifiers = field.getModifiers();
            boolean hidden = Modifier.isPrivate(modifiers);
            due.is(field.getName() + " hidden", hidden || Modifier.isPublic(modifiers), true);
            if (Modifier.isStatic(modifiers)) {
                due.is(field.getName() + " final", Modifier.isFinal(modifiers), true);
                due.same(field.getName() + " type", field.getType().getName(), "int");
            }
        }
    }
}
