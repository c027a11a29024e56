import java.lang.reflect.InvocationTargetException;
import java.lang.reflect.Method;
import java.util.ArrayList;
import java.util.Arrays;
import java.util.Comparator;
import java.util.List;
import java.util.NoSuchElementException;
import java.util.Random;

/** Any call with any numbers in any state: nothing but led() throws, and a refusal changes nothing. */
public final class AnyCallTest {
    private static final List<String> CHANGING = Arrays.asList("feed", "tube", "turn", "turnBack", "move", "undo", "keep", "back");
    private static final int[] EDGES = {Integer.MIN_VALUE, Integer.MAX_VALUE, -2, -1, 100, 700, 701, 65536, 65537, 1 << 30};

    public static void main(String[] args) throws IllegalAccessException {
        Check check = new Check();
        Random chance = new Random(1118);
        Method[] calls = StreetTube.class.getDeclaredMethods();
        List<Method> face = new ArrayList<>();
        for (Method m : calls) {
            if (java.lang.reflect.Modifier.isPublic(m.getModifiers())) {
                face.add(m);
            }
        }
        face.sort(Comparator.comparing(Method::getName));
        for (int run = 0; run < 400; run++) {
            StreetTube x = new StreetTube();
            for (int i = 0; i < 500; i++) {
                if (i % 125 == 60) {
                    tellSome(x, chance);
                }
                Method m = face.get(chance.nextInt(face.size()));
                String before = state(x);
                boolean threw = call(x, m, chance, check);
                check.due(m.getName() + " threw", threw && !m.getName().equals("led"), false);
                if (!CHANGING.contains(m.getName()) || m.getName().startsWith("t") && x.trouble() == 1) {
                    check.due(m.getName() + " leaves all as it was", state(x).equals(before), true);
                }
            }
        }
        check.end();
    }

    /** A tube's text, or one with some bytes changed. */
    private static void tellSome(StreetTube x, Random chance) {
        StringBuilder text = new StringBuilder(new NaiveTube(chance, 6).text());
        int faults = chance.nextInt(3);
        for (int i = 0; i < faults; i++) {
            text.setCharAt(chance.nextInt(text.length()), " ;aqz059\0".charAt(chance.nextInt(9)));
        }
        x.tube(0);
        Check.tell(x, text.toString());
    }

    private static String state(StreetTube x) {
        StringBuilder text = new StringBuilder();
        for (int what = 0; what <= 11; what++) {
            text.append(x.size(what)).append(' ');
        }
        List<Integer> led = new ArrayList<>();
        try {
            for (int i = 0; i < 7; i++) {
                led.add(x.led(i));
            }
        } catch (NoSuchElementException e) {
            return text.append(led).append(x.fault()).toString();
        }
        return text.append("endless").toString();
    }

    private static boolean call(StreetTube x, Method m, Random chance, Check check) throws IllegalAccessException {
        Object[] arguments = new Object[m.getParameterCount()];
        for (int i = 0; i < arguments.length; i++) {
            boolean truth = m.getParameterTypes()[i] == boolean.class;
            int number = chance.nextInt(8) == 0 ? EDGES[chance.nextInt(EDGES.length)] : chance.nextInt(8);
            arguments[i] = truth ? (Object) chance.nextBoolean() : (Object) number;
        }
        try {
            m.invoke(x, arguments);
            return false;
        } catch (InvocationTargetException e) {
            if (m.getName().equals("led")) {
                check.due("led() throws NoSuchElementException",
                        e.getCause().getClass() == NoSuchElementException.class, true);
            } else {
                System.out.println(m.getName() + Arrays.toString(arguments) + ": " + e.getCause());
            }
            return true;
        }
    }
}
