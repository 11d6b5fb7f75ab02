import java.lang.reflect.Constructor;
import java.lang.reflect.Field;
import java.lang.reflect.Method;
import java.lang.reflect.Modifier;
import java.util.Arrays;
import java.util.Set;
import java.util.TreeSet;

/** The public face of the document, and nothing beside it. */
public final class FaceTest {
    private static final String[] METHODS = {
        "int setRoom(int, int, int, int)", "int setAbsence(int, int, int)", "int addOrder(int, int)",
        "int clearOrders()", "int create(int, int, int, int, int, int)", "int createFromText(int)",
        "int move(int, int, int, int)", "int changeRoom(int, int, int, int)", "int resize(int, int, int, int)",
        "int join(int, int, int, int)", "int leave(int, int, int, int)", "int cancel(int, int, int)",
        "int send(int, int)", "int sendOne(int, int, int)", "int compact()", "int meetings(int)",
        "int meetingAt(int, int)", "int startOf(int, int)", "int durationOf(int, int)", "int roomOf(int, int)",
        "int personsOf(int, int)", "int periodOf(int, int)", "int countOf(int, int)", "int edits()",
        "int editAt(int)", "int kindOf(int)", "int meetingOf(int)", "int authorOf(int)", "int weightOf(int)",
        "int clash(int, int)", "int state(int, int)", "int acceptedWeight(int)", "int rejectedWeight(int)",
        "int agree(int, int)", "int obstacle(int, int)", "int cost(int, int)", "int alternative(int, int)",
        "int freeStart(int, int, int, int)", "int commonStart(int, int, int, int)", "int busySlots(int, int)",
        "int append(int)", "int clearText()", "int faultPosition()", "int print(int, int)", "int printed(int)",
        "int keep(int)", "int restore(int)", "long checksum()"};
    private static final String[] CONSTANTS = {"BAD_VALUE=-1", "FULL=-2", "NOT_POSSIBLE=-3", "NONE=-4", "CREATE=0",
        "MOVE=1", "ROOM=2", "DURATION=3", "JOIN=4", "LEAVE=5", "CANCEL=6", "UNKNOWN=0", "BLOCKED=1", "REJECTED=2",
        "ACCEPTED=3"};

    public static void main(String[] args) throws IllegalAccessException {
        Class<?> face = CalendarReplicas.class;
        Check.due("the modifiers of the class", face.getModifiers(), Modifier.PUBLIC | Modifier.FINAL);
        methods(face);
        constants(face);
        Constructor<?>[] constructors = face.getDeclaredConstructors();
        Check.due("the number of constructors", constructors.length, 1);
        Check.due("the parameters of the constructor", constructors[0].getParameterCount(), 0);
        Check.due("the modifiers of the constructor", constructors[0].getModifiers(), Modifier.PUBLIC);
        for (Class<?> inside : face.getDeclaredClasses()) {
            Check.isTrue(inside + " is static, and neither public nor protected",
                    Modifier.isStatic(inside.getModifiers())
                            && (inside.getModifiers() & (Modifier.PUBLIC | Modifier.PROTECTED)) == 0);
        }
        Check.end();
    }

    private static void methods(Class<?> face) {
        Set<String> found = new TreeSet<>();
        Set<String> publicNames = new TreeSet<>();
        Set<String> privateNames = new TreeSet<>();
        for (Method method : face.getDeclaredMethods()) {
            if (Modifier.isPrivate(method.getModifiers())) {
                privateNames.add(method.getName());
                continue;
            }
            Check.due("the modifiers of " + method.getName(), method.getModifiers(), Modifier.PUBLIC);
            StringBuilder parameters = new StringBuilder();
            for (Class<?> type : method.getParameterTypes()) {
                parameters.append(parameters.length() == 0 ? "" : ", ").append(type.getName());
            }
            found.add(method.getReturnType().getName() + " " + method.getName() + "(" + parameters + ")");
            publicNames.add(method.getName());
        }
        Set<String> want = new TreeSet<>(Arrays.asList(METHODS));
        Check.isTrue("the methods " + found + " are " + want, found.equals(want));
        for (Class<?> inside : face.getDeclaredClasses()) {
            for (Method method : inside.getDeclaredMethods()) {
                privateNames.add(method.getName());
            }
        }
        privateNames.retainAll(publicNames);
        Check.isTrue("no other method has a public one's name, but " + privateNames, privateNames.isEmpty());
    }

    private static void constants(Class<?> face) throws IllegalAccessException {
        Set<String> found = new TreeSet<>();
        for (Field field : face.getDeclaredFields()) {
            if (Modifier.isPrivate(field.getModifiers())) {
                continue;
            }
            Check.due("the modifiers of " + field.getName(), field.getModifiers(),
                    Modifier.PUBLIC | Modifier.STATIC | Modifier.FINAL);
            Check.isTrue(field.getName() + " is an int", field.getType() == int.class);
            found.add(field.getName() + "=" + field.get(null));
        }
        Set<String> want = new TreeSet<>(Arrays.asList(CONSTANTS));
        Check.isTrue("the constants " + found + " are " + want, found.equals(want));
    }
}
