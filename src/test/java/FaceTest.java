import java.lang.reflect.Constructor;
import java.lang.reflect.Field;
import java.lang.reflect.Method;
import java.lang.reflect.Modifier;
import java.util.Set;
import java.util.TreeSet;

/** The class has the document's face and nothing beside it. */
public final class FaceTest {
    private static final String[] FACE = {
        "int feed(int,int,int,int,int)", "int back(int)", "int read()", "int place()", "int clear()",
        "int copy(int,boolean,boolean)", "int join(int,int)", "int lots(int,int,int,boolean)",
        "int ladder(int,int)", "int element(int,int,int)", "int digit(int,int,int)",
        "int down(int,int,int)", "int ends(int,int,int,int)", "int fewest(int,int)",
        "long ladders(int,int)", "int rung(int,int,long,int)", "long rank(int)",
        "int cleared(int)", "int kept(int,int)", "int turns(int,int,int,int)",
        "int moves(int,int,int,int)", "int classes(int,int)", "long ways(int)",
        "long odds(int,int,int,int)", "long oddsOf(int,int,int)", "int possible(int,int)",
        "int log(int,int,int)", "int annul(int)", "long fitting(int,int)",
        "long likely(int,int,int,int)", "int next(int,int)", "int drawn(int,int,int)",
        "int drawnAt(int,int,int,int)", "int drawnAll(int,int)", "int sorts(int)",
        "int unsorted(int)", "int fails(int)", "int firstFail(int)", "int idle(int,int)",
        "int needed(int,int)", "int mend(int)", "int mendAt(int,int)", "int unlike(int,int)",
        "int count(int)"};

    private static String told(Method method) {
        StringBuilder text = new StringBuilder();
        text.append(method.getReturnType()).append(' ').append(method.getName()).append('(');
        for (Class<?> type : method.getParameterTypes()) {
            text.append(text.charAt(text.length() - 1) == '(' ? "" : ",").append(type);
        }
        return text.append(')').toString();
    }

    private static void testMethods(Report report) {
        report.begin("the public methods are those of the document");
        Set<String> due = new TreeSet<>(Set.of(FACE));
        Set<String> names = new TreeSet<>();
        for (Method method : LadderLots.class.getDeclaredMethods()) {
            if (!Modifier.isPrivate(method.getModifiers())) {
                report.holds("a public method", Modifier.isPublic(method.getModifiers()));
                report.holds(told(method), due.remove(told(method)));
                names.add(method.getName());
            }
        }
        report.holds("none is left of " + due, due.isEmpty());
        for (Method method : LadderLots.class.getDeclaredMethods()) {
            report.holds("no private " + method.getName(),
                    !Modifier.isPrivate(method.getModifiers()) || !names.contains(method.getName()));
        }
        report.end();
    }

    private static void testFields(Report report) {
        report.begin("the public fields are those of the document");
        for (Field field : LadderLots.class.getDeclaredFields()) {
            boolean none = field.getName().equals("NONE");
            report.holds(field.getName(), none || Modifier.isPrivate(field.getModifiers()));
        }
        report.due("NONE", LadderLots.NONE, -1);
        report.end();
    }

    private static void testClasses(Report report) {
        report.begin("the class is final, and its classes inside are private and static");
        report.holds("final", Modifier.isFinal(LadderLots.class.getModifiers()));
        Constructor<?>[] constructors = LadderLots.class.getDeclaredConstructors();
        report.due("constructors", constructors.length, 1);
        report.holds("public", Modifier.isPublic(constructors[0].getModifiers()));
        report.due("parameters", constructors[0].getParameterCount(), 0);
        report.holds("some twelve", LadderLots.class.getDeclaredClasses().length <= 11);
        for (Class<?> inside : LadderLots.class.getDeclaredClasses()) {
            int modifiers = inside.getModifiers();
            report.holds(inside.getName(),
                    Modifier.isPrivate(modifiers) && Modifier.isStatic(modifiers));
        }
        report.end();
    }

    public static void main(String[] args) {
        Report report = new Report();
        testMethods(report);
        testFields(report);
        testClasses(report);
        report.exit();
    }
}
