import java.lang.reflect.Constructor;
import java.lang.reflect.Field;
import java.lang.reflect.Method;
import java.lang.reflect.Modifier;
import java.util.Set;
import java.util.TreeSet;

/** What it is, and the public face. */
final class WalkOfFace {
    private WalkOfFace() {
    }

    private static void due(String call, long got, long want) {
        Walk.due(call, got, want);
    }

    static void test() {
        whatItIs();
        face();
    }

    private static void whatItIs() {
        Walk.heading("# VotesUntouched ## What it is");
        Walk.says("Votes only whom it doesn't touch: a council of people with cousins and likings, matters that touch them by so"
            + " much or by rumour, bundles of matters put to the vote, and a law told as a text by which one who is touched, or"
            + " whose cousins are, may vote or not; who may, who is for it, whether it is carried; by what to put together with a"
            + " matter it is, by which gifts, cheapest, what to leave out so that one may vote; all one by one, parted into"
            + " bundles so that most is carried; who has a say in how much, whose vote decides; how likely it is carried by"
            + " rumours, exactly; what a mayor must lie; lots drawn where nobody may; at which step of cousin too few are left;"
            + " told years looked at, what one must have had in a matter; likings, touches mended, undone; an image; people from"
            + " rows that lack or end; voters whose acts come from above; and each person and matter led.");
        VotesUntouched x = Walk.council(3, 1);
        Walk.touches(x, 0, 1);
        due("votes only whom it doesn't touch", x.vote(1, 0, 0), 6);
        x.cousins(1);
        due("nor whose cousins it does", x.vote(1, 0, 0), 4);
        Walk.likes(x, 0, 9, 9, -1);
        due("it is not carried", x.vote(1, 0, 3), 0);
        due("by the law told as a text", Walk.law(x, "t|k=1"), 1);
        due("it is", x.vote(1, 0, 3), 1);

        Walk.says("An object is used for at most 512 calls after it has been made; what later calls answer is free.");
        VotesUntouched y = Walk.council(2, 1);
        Walk.touches(y, 0, 7);
        for (int call = 5; call <= 511; call++) {
            due("call " + call, y.vote(1, 0, 0), 2);
        }
        due("call 512", y.of(0, 0), 7);
    }

    private static void face() {
        Walk.heading("## The public face ```java");
        Class<?> c = VotesUntouched.class;
        Walk.says("public final class VotesUntouched {");
        due("public and final", c.getModifiers(), Modifier.PUBLIC | Modifier.FINAL);
        Walk.says("public static final int BAD = -1, NOT = -2, FULL = -3, STATE = -5, VOID = -2000000000;");
        due("BAD", VotesUntouched.BAD, -1);
        due("NOT", VotesUntouched.NOT, -2);
        due("FULL", VotesUntouched.FULL, -3);
        due("STATE", VotesUntouched.STATE, -5);
        due("VOID", VotesUntouched.VOID, -2000000000);
        int constants = 0;
        for (Field f : c.getDeclaredFields()) {
            constants += Modifier.isPrivate(f.getModifiers()) ? 0 : 1;
        }
        due("how many constants are seen", constants, 5);
        Walk.says("public VotesUntouched();");
        Constructor<?>[] constructors = c.getDeclaredConstructors();
        due("constructors", constructors.length, 1);
        due("it is public", constructors[0].getModifiers(), Modifier.PUBLIC);
        due("its parameters", constructors[0].getParameterCount(), 0);
        Set<String> seen = new TreeSet<>();
        for (Method m : c.getDeclaredMethods()) {
            if (!Modifier.isPrivate(m.getModifiers())) {
                due(m + " is public alone", m.getModifiers(), Modifier.PUBLIC);
                StringBuilder s = new StringBuilder(m.getReturnType() + " " + m.getName() + "(");
                for (int i = 0; i < m.getParameterCount(); i++) {
                    s.append(i == 0 ? "" : ", ").append(m.getParameterTypes()[i]);
                }
                seen.add(s + ")");
            }
        }
        for (int i = 0; i < 40; i++) {
            String told = Walk.next(";").replaceAll("^public (.*);$", "$1").replaceAll("(int|long) \\w+(?=[,)])", "$1");
            due(told, seen.remove(told) ? 1 : 0, 1);
        }
        due("methods beside: " + seen, seen.size(), 0);
        Walk.heading("} ```");
    }
}
