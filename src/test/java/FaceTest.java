import java.lang.reflect.Constructor;
import java.lang.reflect.Field;
import java.lang.reflect.Method;
import java.lang.reflect.Modifier;
import java.util.Arrays;
import java.util.List;
import java.util.Set;
import java.util.TreeSet;

/** The public face is the document's, and nothing else can be seen from outside. */
public final class FaceTest {
    private static final String[] FACE = {
        "int feed(int, int, int, int, int)", "int tube(int)", "int fault()", "int where()",
        "int person(int, int)", "int slot(int)", "int turned(int, int)", "int quarrels()", "int met()",
        "int ring(int)", "int truth(int)", "int image(int, int)", "int selves()", "int near(int, int)",
        "int seenIn(int)", "int slides(int, int, int)", "int round(int, int)", "int even(int, int)",
        "int fixes(int, int)", "int commute(int, int)", "int undoing(int, int)", "int reach()", "int deepest()",
        "int evens()", "int orbit(int)", "int keeps(int)", "int pairs()", "int centre()", "int errand()",
        "int errandAt(int)", "int peace()", "int peaceAt(int)", "int bring(int, int)", "int calmest()",
        "long colourings(int)", "long mirrored(int)", "long necklaces(int, int)", "long bracelets(int, int)",
        "int fits()", "int fitAt(int)", "int could()", "int surely()", "int ask()", "int askLeaves()",
        "int judge()", "int gets(int, int, int)", "int getsBy(int, int, int)",
        "int looks(int, boolean, boolean, boolean)", "int rests(int)", "int rest(int)",
        "long odds(int, int, int, boolean)", "long slotOdds(int, int, int, boolean)", "long mean(int, boolean)",
        "int shaken(int, int, int)", "int peaceIn(int, int)", "int turn(int)", "int turnBack(int)",
        "int move(int, int)", "boolean undo()", "int keep()", "boolean back(int)", "int led(int)", "int size(int)",
        "int trouble()"};

    public static void main(String[] args) {
        Check check = new Check();
        Set<String> want = new TreeSet<>(Arrays.asList(FACE));
        Set<String> names = new TreeSet<>();
        for (String call : FACE) {
            names.add(call.substring(call.indexOf(' ') + 1, call.indexOf('(')));
        }
        Set<String> got = new TreeSet<>();
        for (Method m : StreetTube.class.getDeclaredMethods()) {
            if (Modifier.isPrivate(m.getModifiers())) {
                check.due("private " + m.getName() + " bears a public name", names.contains(m.getName()), false);
            } else {
                check.due(m.getName() + " is public, not static", m.getModifiers(), Modifier.PUBLIC);
                got.add(described(m));
            }
        }
        System.out.println(want.equals(got) ? "the calls are the document's" : "want " + want + "\ngot " + got);
        check.due("the calls are the document's", want.equals(got), true);
        fieldsAndClasses(check, names);
        check.end();
    }

    private static void fieldsAndClasses(Check check, Set<String> names) {
        check.due("NONE", StreetTube.NONE, -1);
        check.due("public and final", StreetTube.class.getModifiers(), Modifier.PUBLIC | Modifier.FINAL);
        for (Field f : StreetTube.class.getDeclaredFields()) {
            boolean open = !Modifier.isPrivate(f.getModifiers());
            check.due(f.getName() + " can be seen", open, f.getName().equals("NONE"));
        }
        Constructor<?>[] made = StreetTube.class.getDeclaredConstructors();
        check.due("constructors", made.length, 1);
        check.due("its parameters", made[0].getParameterCount(), 0);
        check.due("it is public", made[0].getModifiers(), Modifier.PUBLIC);
        fieldsOf(check, StreetTube.class);
        Class<?>[] inside = StreetTube.class.getDeclaredClasses();
        check.due("at most twelve classes", inside.length < 12, true);
        for (Class<?> c : inside) {
            check.due(c.getName() + " is static", Modifier.isStatic(c.getModifiers()), true);
            fieldsOf(check, c);
            for (Method m : c.getDeclaredMethods()) {
                check.due(m + " bears a public name", names.contains(m.getName()), false);
                check.due(m + " has few parameters", m.getParameterCount() <= 7, true);
            }
        }
    }

    /** Static fields are constants, and a class has some twenty others at most. */
    private static void fieldsOf(Check check, Class<?> c) {
        List<Class<?>> constants = List.of(int.class, long.class, boolean.class, char.class, String.class);
        int others = 0;
        for (Field f : c.getDeclaredFields()) {
            if (Modifier.isStatic(f.getModifiers())) {
                check.due(f + " is final", Modifier.isFinal(f.getModifiers()), true);
                check.due(f + " is a constant", constants.contains(f.getType()), true);
            } else {
                others++;
            }
        }
        check.due(c.getName() + " has few fields", others <= 20, true);
    }

    private static String described(Method m) {
        StringBuilder text = new StringBuilder(m.getReturnType() + " " + m.getName() + "(");
        for (Class<?> type : m.getParameterTypes()) {
            text.append(text.charAt(text.length() - 1) == '(' ? "" : ", ").append(type);
        }
        return text.append(")").toString();
    }
}
