import java.util.ArrayList;
import java.util.Arrays;
import java.util.HashMap;
import java.util.HashSet;
import java.util.List;
import java.util.Map;
import java.util.Set;

/** The FAULT of a text, by a list of what must stand where, in no way as StreetTube reads it. */
final class NaiveText {
    private static final Map<String, List<String>> LINES = Map.of(
            "tube", List.of("mirrors", "2..9", "slots", "2..6", "shakes", "0..100"),
            "person", List.of("NEW", "COLOUR", "at", "FREE"),
            "turn", List.of("NEW"),
            "quarrel", List.of("PERSON", "FOE"),
            "wants", List.of("PERSON", "OTHER"),
            "shuns", List.of("PERSON", "OTHER"),
            "unsure", List.of("SURE", "SLOT"),
            "seen", List.of("PERSON", "OTHER", "HOW"));
    private static final Map<String, Integer> ROOM = Map.of(
            "tube", 1, "person", 6, "turn", 3, "quarrel", 6, "wish", 4, "unsure", 3, "seen", 5);

    int fault = 0;
    int place = -1;
    int people = 0;

    private final String text;
    private final List<int[]> tokens = new ArrayList<>();
    private final Map<String, Integer> told = new HashMap<>();
    private final Map<String, String> sortOfName = new HashMap<>();
    private final Set<Integer> slotsTaken = new HashSet<>();
    private final Set<Integer> slidInto = new HashSet<>();
    private final Set<Set<String>> foes = new HashSet<>();
    private final Set<String> unsure = new HashSet<>();
    private int slots = 0;
    private String first = "";

    NaiveText(String text) {
        this.text = text;
        cut();
        int next = 0;
        while (fault == 0) {
            next = line(next);
            if (fault == 0 && kind(next).equals("END")) {
                if (count("person") == 0 || count("turn") == 0) {
                    fail(next, 6);
                }
                break;
            }
            if (fault == 0 && !word(next).equals(";")) {
                fail(next, 1);
            }
            next++;
        }
        people = fault == 0 ? count("person") : -1;
    }

    /** Tokens by where they begin and end; the last one is the end. */
    private void cut() {
        int i = 0;
        while (i < text.length()) {
            int from = i;
            String kind = kindOf(text.charAt(i));
            i++;
            while ((kind.equals("WORD") || kind.equals("WHOLE")) && i < text.length() && kindOf(text.charAt(i)).equals(kind)) {
                i++;
            }
            if (!kind.equals("BLANK")) {
                tokens.add(new int[] {from, i});
            }
        }
        tokens.add(new int[] {text.length(), text.length()});
    }

    private static String kindOf(char sign) {
        if (sign == ' ') {
            return "BLANK";
        }
        if ("abcdefghijklmnopqrstuvwxyz".indexOf(sign) >= 0) {
            return "WORD";
        }
        return "0123456789".indexOf(sign) >= 0 ? "WHOLE" : sign == ';' ? "SINGLE" : "OTHER";
    }

    private String word(int t) {
        return text.substring(tokens.get(t)[0], tokens.get(t)[1]);
    }

    private String kind(int t) {
        String word = word(t);
        if (word.isEmpty()) {
            return "END";
        }
        String kind = kindOf(word.charAt(0));
        boolean tooLong = kind.equals("WORD") && word.length() > 8 || kind.equals("WHOLE") && word.length() > 3;
        return tooLong ? "OTHER" : kind;
    }

    private boolean fail(int t, int number) {
        fault = number;
        place = tokens.get(t)[0];
        return false;
    }

    private int count(String sort) {
        return told.getOrDefault(sort, 0);
    }

    /** Reads a line from a token on; the token behind it. */
    private int line(int t) {
        String word = word(t);
        if (!kind(t).equals("WORD") || !LINES.containsKey(word)) {
            fail(t, 1);
            return t;
        }
        String sort = word.equals("wants") || word.equals("shuns") ? "wish" : word;
        if (!word.equals("tube") && count("tube") == 0) {
            fail(t, 6);
        } else if (count(sort) == ROOM.get(sort)) {
            fail(t, word.equals("tube") ? 3 : 5);
        }
        int next = t + 1;
        List<String> due = new ArrayList<>(LINES.get(word));
        if (word.equals("turn")) {
            slidInto.clear();
            for (int k = 0; k < slots; k++) {
                due.add("INTO");
            }
        }
        for (int i = 0; i < due.size() && fault == 0; i++) {
            if (stands(next, due.get(i), word)) {
                next++;
            }
        }
        told.merge(sort, 1, Integer::sum);
        return next;
    }

    private boolean stands(int t, String due, String line) {
        String word = word(t);
        switch (due) {
            case "NEW":
                return isName(t) && isNew(t, line);
            case "COLOUR":
                return Arrays.asList("red", "blue", "green").contains(word) || fail(t, 1);
            case "HOW":
                return Arrays.asList("beside", "far").contains(word) || fail(t, 1);
            case "FREE":
                return isWhole(t, 0, slots - 1) && (slotsTaken.add(Integer.valueOf(word)) || fail(t, 3));
            case "INTO":
                return isWhole(t, 0, slots - 1) && (slidInto.add(Integer.valueOf(word)) || fail(t, 3));
            case "SLOT":
                return isWhole(t, 0, slots - 1);
            case "PERSON":
                first = word;
                return isPerson(t);
            case "SURE":
                return isPerson(t) && (unsure.add(word) || fail(t, 3));
            case "OTHER":
                return isPerson(t) && (!first.equals(word) || fail(t, 3));
            case "FOE":
                return isPerson(t) && (!first.equals(word) && foes.add(new HashSet<>(Arrays.asList(first, word))) || fail(t, 3));
            default:
                return due.contains("..") ? isBetween(t, due) : word.equals(due) || fail(t, 1);
        }
    }

    private boolean isBetween(int t, String due) {
        String[] bounds = due.split("\\.\\.");
        if (!isWhole(t, Integer.parseInt(bounds[0]), Integer.parseInt(bounds[1]))) {
            return false;
        }
        // of the three numbers of a tube the second one stays: how many slots
        slots = due.equals("2..6") ? Integer.parseInt(word(t)) : slots;
        return true;
    }

    private boolean isWhole(int t, int least, int most) {
        if (!kind(t).equals("WHOLE")) {
            return fail(t, 1);
        }
        int whole = Integer.parseInt(word(t));
        return whole >= least && whole <= most || fail(t, 4);
    }

    private boolean isName(int t) {
        return kind(t).equals("WORD") && !LINES.containsKey(word(t)) || fail(t, 1);
    }

    private boolean isNew(int t, String line) {
        return sortOfName.putIfAbsent(word(t), line) == null || fail(t, 3);
    }

    private boolean isPerson(int t) {
        return isName(t) && ("person".equals(sortOfName.get(word(t))) || fail(t, 2));
    }
}
