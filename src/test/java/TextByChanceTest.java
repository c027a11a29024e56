import java.util.ArrayList;
import java.util.Arrays;
import java.util.List;
import java.util.Random;

/** Texts changed by chance: the FAULT and its place, against a naive reader. */
public final class TextByChanceTest {
    private static final String[] POOL = {"tube", "person", "turn", "quarrel", "wants", "shuns", "unsure", "seen",
        "mirrors", "slots", "shakes", "at", "red", "blue", "green", "beside", "far", ";", ";", ";person", "a", "b", "c",
        "pa", "pb", "ta", "tb", "abcdefgh", "abcdefghi", "0", "1", "2", "3", "4", "5", "6", "7", "9", "10", "100", "101",
        "007", "0001", "#", "A", "\0", "\u00e4", "", "  "};

    public static void main(String[] args) {
        Check check = new Check();
        Random chance = new Random(65);
        int[] met = new int[7];
        for (int i = 0; i < 40000; i++) {
            String text = changed(new NaiveTube(chance, 6).text(), chance);
            if (text.length() <= 700) {
                NaiveText naive = new NaiveText(text);
                StreetTube x = new StreetTube();
                check.due("tube of <" + text + ">", Check.tell(x, text), naive.people);
                check.due("fault() of <" + text + ">", x.fault(), naive.fault);
                check.due("where() of <" + text + ">", x.where(), naive.place);
                met[naive.fault]++;
            }
        }
        System.out.println("texts by FAULT: " + Arrays.toString(met));
        for (int fault = 0; fault <= 6; fault++) {
            check.due("some texts have FAULT " + fault, met[fault] > 100, true);
        }
        check.end();
    }

    private static String changed(String text, Random chance) {
        List<String> parts = new ArrayList<>(Arrays.asList(text.replace(";", " ; ").split(" +")));
        int changes = chance.nextInt(4);
        for (int i = 0; i < changes; i++) {
            change(parts, chance);
        }
        StringBuilder joined = new StringBuilder();
        for (String part : parts) {
            joined.append(part).append(" ".repeat(chance.nextInt(8) == 0 ? 2 : 1));
        }
        return chance.nextInt(3) == 0 ? joined.substring(0, chance.nextInt(joined.length() + 1)) : joined.toString();
    }

    private static void change(List<String> parts, Random chance) {
        int at = chance.nextInt(parts.size());
        String part = chance.nextBoolean() ? POOL[chance.nextInt(POOL.length)] : parts.get(chance.nextInt(parts.size()));
        switch (chance.nextInt(5)) {
            case 0:
                parts.add(at, part);
                break;
            case 1:
                parts.set(at, part);
                break;
            case 2:
                if (parts.size() > 1) {
                    parts.remove(at);
                }
                break;
            default:
                addLineAgain(parts, chance);
                break;
        }
    }

    /** A line that stands already comes once more, behind the end of some line. */
    private static void addLineAgain(List<String> parts, Random chance) {
        List<List<String>> lines = new ArrayList<>();
        lines.add(new ArrayList<>());
        for (String part : parts) {
            if (part.equals(";")) {
                lines.add(new ArrayList<>());
            } else {
                lines.get(lines.size() - 1).add(part);
            }
        }
        int times = 1 + chance.nextInt(4);
        List<String> again = lines.get(chance.nextInt(lines.size()));
        for (int i = 0; i < times; i++) {
            parts.add(";");
            parts.addAll(again);
        }
    }
}
