import java.lang.management.ManagementFactory;
import java.lang.reflect.Constructor;
import java.lang.reflect.Field;
import java.lang.reflect.Member;
import java.lang.reflect.Method;
import java.lang.reflect.Modifier;
import java.util.Arrays;
import java.util.List;
import java.util.TreeSet;

/** The public face of the class, and that its calls make no objects. */
public final class FaceTest {
    private static final List<String> FACE = Arrays.asList(
        "int person(int)", "int people(int, int, int)", "int cousins(int)", "int matter()", "int mend(int, int, int)",
        "int rule(int, int)", "int of(int, int)", "int feed(int)", "int law()", "int may(int, int, int)",
        "int vote(int, int, int)", "int together(int)", "int silenced(int, int)", "int leaveOut(int, int)", "int alone()",
        "int parted(int)", "int say(int, int)", "int hermit()", "int chance(int, int)", "int lies(int)",
        "int step(int, int)", "int lots(int, int, int)", "int judge(int)", "int must(int, int)", "int decide(int, int)",
        "int led(int)", "int image()", "int back()", "int undo()", "int redo()", "int body(int)", "int act(int, int, int)",
        "int trace(int)", "int keep(int, int)", "int row(int, int, int)", "int put(int, int, long)",
        "long element(int, int)", "int shift(int, int, int, int, int)", "int taken(int, int)", "int count(int)");

    private static int wrong;

    private static void due(String what, boolean holds) {
        if (!holds) {
            wrong++;
            System.out.println("the face: not so: " + what);
        }
    }

    private static void face() throws ReflectiveOperationException {
        Class<?> c = VotesUntouched.class;
        due("public and final", c.getModifiers() == (Modifier.PUBLIC | Modifier.FINAL));
        TreeSet<String> methods = new TreeSet<>();
        TreeSet<String> names = new TreeSet<>();
        for (Method m : c.getDeclaredMethods()) {
            if (!Modifier.isPrivate(m.getModifiers())) {
                due("no static method " + m, !Modifier.isStatic(m.getModifiers()));
                String s = m.getReturnType() + " " + m.getName() + Arrays.toString(m.getParameterTypes());
                methods.add(s.replace('[', '(').replace(']', ')'));
                names.add(m.getName());
            }
        }
        due("the methods of the document and no others: " + methods, methods.equals(new TreeSet<>(FACE)));
        for (Class<?> inner : c.getDeclaredClasses()) {
            due("static: " + inner, Modifier.isStatic(inner.getModifiers()));
            due("not public: " + inner, !Modifier.isPublic(inner.getModifiers()));
            for (Method m : inner.getDeclaredMethods()) {
                due("no name of the face: " + m, !names.contains(m.getName()));
            }
        }
        for (Method m : c.getDeclaredMethods()) {
            due("no name of the face: " + m, !Modifier.isPrivate(m.getModifiers()) || !names.contains(m.getName()));
        }
        Constructor<?>[] constructors = c.getDeclaredConstructors();
        due("one public constructor", constructors.length == 1 && Modifier.isPublic(constructors[0].getModifiers())
            && constructors[0].getParameterCount() == 0);
        TreeSet<String> constants = new TreeSet<>();
        for (Field f : c.getDeclaredFields()) {
            if (!isPrivate(f)) {
                due("a constant: " + f, f.getModifiers() == (Modifier.PUBLIC | Modifier.STATIC | Modifier.FINAL));
                constants.add(f.getName() + "=" + f.getInt(null));
            }
        }
        due("the constants: " + constants, constants.equals(
            new TreeSet<>(Arrays.asList("BAD=-1", "NOT=-2", "FULL=-3", "STATE=-5", "VOID=-2000000000"))));
    }

    private static boolean isPrivate(Member m) {
        return Modifier.isPrivate(m.getModifiers());
    }

    /** Each call many times: what they make all together stays far below one object a call. */
    private static void room() {
        com.sun.management.ThreadMXBean bean = (com.sun.management.ThreadMXBean) ManagementFactory.getThreadMXBean();
        long id = Thread.currentThread().getId();
        VotesUntouched x = new VotesUntouched();
        callAll(x);
        long before = bean.getThreadAllocatedBytes(id);
        for (int i = 0; i < 500; i++) {
            callAll(x);
        }
        long made = bean.getThreadAllocatedBytes(id) - before;
        due("no objects are made by calls: " + made + " bytes by 20000 calls", made < 16 * 1024);
        before = bean.getThreadAllocatedBytes(id);
        new VotesUntouched();
        made = bean.getThreadAllocatedBytes(id) - before;
        due("a new object is small: " + made + " bytes", made < 64 * 1024);
    }

    private static void callAll(VotesUntouched x) {
        x.person(3);
        x.row(0, 0, 3);
        x.people(0, 0, 1);
        x.cousins(1);
        x.matter();
        x.mend(0, 0, x.count(4) % 5);
        x.mend(10, 1, 1 + x.count(6) % 3);
        x.rule(0, 1);
        x.of(0, 0);
        x.feed('(');
        x.feed('t');
        x.feed(')');
        x.feed('=');
        x.feed('0');
        x.law();
        x.may(0, 1, 0);
        x.vote(1, 0, 3);
        x.together(0);
        x.silenced(1, 0);
        x.leaveOut(0, 3);
        x.alone();
        x.parted(0);
        x.say(0, 1);
        x.hermit();
        x.chance(1, 0);
        x.lies(1);
        x.step(1, 1);
        x.lots(1, 3001, 1);
        x.row(1, 1, 6);
        x.put(1, 0, 1);
        x.judge(1);
        x.must(1, 0);
        x.decide(2, 1);
        x.led(0);
        x.image();
        x.back();
        x.undo();
        x.redo();
        x.body(7);
        x.act(0, 3, 4);
        x.trace(0);
        x.keep(2, 0);
        x.element(1, 0);
        x.shift(1, 0, 1, 1, 3);
        x.taken(2, 0);
        x.count(0);
    }

    public static void main(String[] args) throws ReflectiveOperationException {
        face();
        room();
        System.out.println("the face: " + wrong + " wrong");
        if (wrong != 0) {
            System.exit(1);
        }
    }
}
