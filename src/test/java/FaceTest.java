import java.lang.management.ManagementFactory;
import java.lang.reflect.Constructor;
import java.lang.reflect.Field;
import java.lang.reflect.Method;
import java.lang.reflect.Modifier;
import java.util.List;
import java.util.TreeSet;

/** The public face, and the room that objects and calls take. */
public final class FaceTest {
    private static final List<String> FACE = List.of("feed(int,int,int,int,int)", "text(int)",
            "fault(int)", "value(int,int)", "stateOf(int,int,int)", "is(int,int)", "next(int,int)",
            "holds(int,int)", "many(int)", "ways(int,int)", "learn(int)", "ended()",
            "brought(int)", "point(int,int)", "pair(int,int)", "node(int,int)", "cost(int)",
            "run(int,int)", "trace(int)", "rows(int,boolean)", "row(int,int,boolean)",
            "shortMany()", "together(int)", "togetherProves()", "bySteps()",
            "ifLearned(int,int,int,int)", "needed(int,int)", "count(int)");

    public static void main(String[] args) {
        Class<?> face = InvariantLearner.class;
        Due.is("public and final", face.getModifiers(), Modifier.PUBLIC | Modifier.FINAL);
        TreeSet<String> names = methods(face);
        fields(face);
        Constructor<?>[] made = face.getDeclaredConstructors();
        Due.is("constructors", made.length, 1);
        Due.is("its arguments", made[0].getParameterCount(), 0);
        Due.is("public", made[0].getModifiers(), Modifier.PUBLIC);
        inside(face, names);
        room();
        Due.end();
    }

    private static TreeSet<String> methods(Class<?> face) {
        TreeSet<String> names = new TreeSet<>();
        TreeSet<String> open = new TreeSet<>();
        for (Method method : face.getDeclaredMethods()) {
            if (Modifier.isPrivate(method.getModifiers())) {
                continue;
            }
            names.add(method.getName());
            String all = method.toGenericString();
            int from = all.indexOf("." + method.getName() + "(") + 1;
            open.add(all.substring(from, all.indexOf(')') + 1));
            Due.is(all + " is public", method.getModifiers(), Modifier.PUBLIC);
            Due.is(all + " answers an int", method.getReturnType() == int.class ? 1 : 0, 1);
            Due.is(all + " throws", method.getExceptionTypes().length,
                    method.getName().equals("value") ? 2 : 0);
        }
        Due.is("the face is " + open, open.equals(new TreeSet<>(FACE)) ? 1 : 0, 1);
        return names;
    }

    private static void fields(Class<?> face) {
        for (Field field : face.getDeclaredFields()) {
            boolean isNone = field.getName().equals("NONE");
            Due.is(field + " is private, or NONE", isNone
                    ? field.getModifiers() == (Modifier.PUBLIC | Modifier.STATIC | Modifier.FINAL)
                            ? 1 : 0
                    : Modifier.isPrivate(field.getModifiers()) ? 1 : 0, 1);
        }
    }

    /** No private method, of classes inside too, bears the name of a public one. */
    private static void inside(Class<?> face, TreeSet<String> names) {
        for (Method method : face.getDeclaredMethods()) {
            boolean isPrivate = Modifier.isPrivate(method.getModifiers());
            Due.is("name of " + method, isPrivate && names.contains(method.getName()) ? 1 : 0, 0);
        }
        Due.is("at most 12 classes", face.getDeclaredClasses().length < 12 ? 1 : 0, 1);
        for (Class<?> one : face.getDeclaredClasses()) {
            Due.is(one + " is static", Modifier.isStatic(one.getModifiers()) ? 1 : 0, 1);
            Due.is(one + " is not open", one.getModifiers()
                    & (Modifier.PUBLIC | Modifier.PROTECTED), 0);
            for (Method method : one.getDeclaredMethods()) {
                Due.is("name of " + method, names.contains(method.getName()) ? 1 : 0, 0);
            }
        }
    }

    /** An object takes its room when it is made; its calls take none. */
    private static void room() {
        HardSystems.Hard hard = HardSystems.ALL[0];
        work(hard.text());
        long before = allocated();
        InvariantLearner x = new InvariantLearner();
        long made = allocated() - before;
        Due.is("an object takes " + made + " bytes", made < 300000 ? 1 : 0, 1);
        Tape.feed(x, hard.text());
        before = allocated();
        x.text(hard.text().length());
        askAll(x);
        long used = allocated() - before;
        Due.is("calls take " + used + " bytes", used < 2000 ? 1 : 0, 1);
    }

    private static void work(String text) {
        InvariantLearner x = Tape.with(text);
        askAll(x);
        allocated();
    }

    private static void askAll(InvariantLearner x) {
        x.run(1, 100);
        x.learn(100);
        x.needed(0, 0);
        x.needed(1, 1);
        x.ifLearned(0, 1, -1, 0);
        for (int i = 0; i < 30; i++) {
            x.learn(100);
            x.is(i, 4);
            x.many(i);
            x.point(i, 1);
            x.node(i, 6);
            x.cost(i);
            x.trace(i);
            x.row(i, i, true);
            x.row(i, i, false);
            x.rows(i, true);
            x.rows(i, false);
        }
        x.shortMany();
        x.together(1);
        x.togetherProves();
        x.bySteps();
    }

    private static long allocated() {
        return ((com.sun.management.ThreadMXBean) ManagementFactory.getThreadMXBean())
                .getThreadAllocatedBytes(Thread.currentThread().getId());
    }
}
