import java.math.BigInteger;
import java.util.ArrayList;
import java.util.Arrays;
import java.util.HashMap;
import java.util.HashSet;
import java.util.List;
import java.util.Map;
import java.util.Random;
import java.util.Set;

/** A tube made by chance, with answers by trying all, in no way as StreetTube finds them. */
final class NaiveTube {
    final int mirrors;
    final int slots;
    final int shakes;
    final int people;
    final int[] colour;
    final int[] home;
    final int[][] turns;
    final List<int[]> quarrels = new ArrayList<>();
    final List<int[]> wishes = new ArrayList<>();
    final List<int[]> unsure = new ArrayList<>();
    final List<int[]> seen = new ArrayList<>();
    int[] now;

    NaiveTube(Random chance, int mostSlots) {
        mirrors = 2 + chance.nextInt(8);
        slots = 2 + chance.nextInt(mostSlots - 1);
        shakes = chance.nextInt(4) == 0 ? chance.nextInt(2) * 100 : chance.nextInt(101);
        people = 1 + chance.nextInt(slots);
        int[] order = shuffled(chance, slots);
        home = Arrays.copyOf(order, people);
        colour = new int[people];
        for (int p = 0; p < people; p++) {
            colour[p] = chance.nextInt(3);
        }
        turns = new int[1 + chance.nextInt(3)][];
        for (int t = 0; t < turns.length; t++) {
            turns[t] = aTurn(chance);
        }
        if (people > 1) {
            addPairs(chance);
        }
        int[] who = shuffled(chance, people);
        int unsureCount = Math.min(people, chance.nextInt(4));
        for (int u = 0; u < unsureCount; u++) {
            unsure.add(new int[] {who[u], chance.nextInt(slots)});
        }
        now = home.clone();
    }

    private int[] aTurn(Random chance) {
        int[] turn = shuffled(chance, slots);
        if (chance.nextInt(3) == 0) {
            for (int k = 0; k < slots; k++) {
                turn[k] = k;
            }
            int one = chance.nextInt(slots);
            int other = chance.nextInt(slots);
            turn[one] = other;
            turn[other] = one;
        }
        return turn;
    }

    private void addPairs(Random chance) {
        Set<Integer> done = new HashSet<>();
        int quarrelCount = chance.nextInt(7);
        for (int i = 0; i < quarrelCount; i++) {
            int[] pair = aPair(chance);
            if (done.add(1 << pair[0] | 1 << pair[1])) {
                quarrels.add(pair);
            }
        }
        int wishCount = chance.nextInt(5);
        for (int i = 0; i < wishCount; i++) {
            wishes.add(aPair(chance));
        }
        int seenCount = chance.nextInt(4);
        for (int i = 0; i < seenCount; i++) {
            seen.add(aPair(chance));
        }
    }

    /** Two people, and 1 for beside, 0 for not. */
    private int[] aPair(Random chance) {
        int p = chance.nextInt(people);
        int q = (p + 1 + chance.nextInt(people - 1)) % people;
        return new int[] {p, q, chance.nextInt(2)};
    }

    private static int[] shuffled(Random chance, int n) {
        int[] order = new int[n];
        for (int i = 0; i < n; i++) {
            int j = chance.nextInt(i + 1);
            order[i] = order[j];
            order[j] = i;
        }
        return order;
    }

    String text() {
        StringBuilder text = new StringBuilder("tube mirrors " + mirrors + " slots " + slots + " shakes " + shakes);
        String[] colours = {"red", "blue", "green"};
        for (int p = 0; p < people; p++) {
            text.append(";person " + name(p) + " " + colours[colour[p]] + " at " + home[p]);
        }
        for (int t = 0; t < turns.length; t++) {
            text.append(";turn t" + (char) ('a' + t));
            for (int into : turns[t]) {
                text.append(" " + into);
            }
        }
        for (int[] q : quarrels) {
            text.append(";quarrel " + name(q[0]) + " " + name(q[1]));
        }
        for (int[] w : wishes) {
            text.append((w[2] == 1 ? ";wants " : ";shuns ") + name(w[0]) + " " + name(w[1]));
        }
        for (int[] u : unsure) {
            text.append(";unsure " + name(u[0]) + " " + u[1]);
        }
        for (int[] s : seen) {
            text.append(";seen " + name(s[0]) + " " + name(s[1]) + (s[2] == 1 ? " beside" : " far"));
        }
        return text.toString();
    }

    private static String name(int p) {
        return "" + (char) ('a' + p);
    }

    static boolean beside(int[] stand, int p, int q) {
        return Math.abs(stand[p] - stand[q]) == 1;
    }

    int[] slid(int[] stand, int t) {
        int[] next = stand.clone();
        for (int p = 0; p < next.length; p++) {
            next[p] = turns[t][next[p]];
        }
        return next;
    }

    int quarrelsOf(int[] stand) {
        int count = 0;
        for (int[] q : quarrels) {
            count += beside(stand, q[0], q[1]) ? 1 : 0;
        }
        return count;
    }

    int metOf(int[] stand) {
        int bits = 0;
        for (int i = 0; i < wishes.size(); i++) {
            int[] w = wishes.get(i);
            bits |= beside(stand, w[0], w[1]) == (w[2] == 1) ? 1 << i : 0;
        }
        return bits;
    }

    int whoIn(int k) {
        for (int p = 0; p < people; p++) {
            if (now[p] == k) {
                return p;
            }
        }
        return -2;
    }

    /** The slots of all places of the ring. */
    List<Integer> ringSlots() {
        List<Integer> ring = new ArrayList<>();
        for (int sector = 0; sector < mirrors; sector++) {
            for (int k = 0; k < slots; k++) {
                ring.add(k);
            }
            for (int k = slots - 1; k >= 0; k--) {
                ring.add(k);
            }
        }
        return ring;
    }

    /** All changes with their fewest turns, by the ways they are written. */
    Map<List<Integer>, Integer> reached() {
        Map<List<Integer>, Integer> depths = new HashMap<>();
        int[] same = new int[slots];
        for (int k = 0; k < slots; k++) {
            same[k] = k;
        }
        List<int[]> layer = List.of(same);
        for (int depth = 0; !layer.isEmpty(); depth++) {
            List<int[]> next = new ArrayList<>();
            for (int[] change : layer) {
                if (depths.putIfAbsent(asList(change), depth) == null) {
                    for (int t = 0; t < turns.length; t++) {
                        next.add(slid(change, t));
                    }
                }
            }
            layer = next;
        }
        return depths;
    }

    static List<Integer> asList(int[] numbers) {
        List<Integer> list = new ArrayList<>();
        for (int n : numbers) {
            list.add(n);
        }
        return list;
    }

    /** The first of the shortest rows behind which all is met, or null; rows of up to most turns. */
    int[] firstRow(boolean forPeace, int most) {
        for (int n = 0; n <= most; n++) {
            int[] row = firstRowOf(forPeace, now, new int[n], 0);
            if (row != null) {
                return row;
            }
        }
        return null;
    }

    private int[] firstRowOf(boolean forPeace, int[] stand, int[] row, int at) {
        if (at == row.length) {
            boolean met = forPeace ? quarrelsOf(stand) == 0 : metOf(stand) == (1 << wishes.size()) - 1;
            return met ? row : null;
        }
        for (int t = 0; t < turns.length; t++) {
            row[at] = t;
            int[] found = firstRowOf(forPeace, slid(stand, t), row, at + 1);
            if (found != null) {
                return found;
            }
        }
        return null;
    }

    /** Colourings by k colours, alike ones counted once, by going from each to all that are alike. */
    int colourings(int k, boolean mirror) {
        Set<List<Integer>> passed = new HashSet<>();
        int count = 0;
        int all = (int) Math.pow(k, slots);
        for (int i = 0; i < all; i++) {
            int[] colours = new int[slots];
            for (int j = 0, rest = i; j < slots; j++, rest /= k) {
                colours[j] = rest % k;
            }
            if (!passed.contains(asList(colours))) {
                count++;
                passAlike(colours, mirror, passed);
            }
        }
        return count;
    }

    private void passAlike(int[] colours, boolean mirror, Set<List<Integer>> passed) {
        if (!passed.add(asList(colours))) {
            return;
        }
        for (int[] turn : turns) {
            int[] next = new int[slots];
            for (int k = 0; k < slots; k++) {
                next[turn[k]] = colours[k];
            }
            passAlike(next, mirror, passed);
        }
        if (mirror) {
            int[] next = new int[slots];
            for (int k = 0; k < slots; k++) {
                next[slots - 1 - k] = colours[k];
            }
            passAlike(next, true, passed);
        }
    }

    List<Integer> fits() {
        List<Integer> fits = new ArrayList<>();
        for (int set = 0; set < 1 << unsure.size(); set++) {
            int[] stand = home.clone();
            for (int u = 0; u < unsure.size(); u++) {
                if ((set >> u) % 2 == 1) {
                    stand[unsure.get(u)[0]] = unsure.get(u)[1];
                }
            }
            boolean fit = new HashSet<>(asList(stand)).size() == people;
            for (int[] s : seen) {
                fit = fit && beside(stand, s[0], s[1]) == (s[2] == 1);
            }
            if (fit) {
                fits.add(set);
            }
        }
        return fits;
    }

    boolean gets(int[] stand, int p, int q, int n, boolean one) {
        if (n == 0) {
            return beside(stand, p, q);
        }
        List<Boolean> ends = new ArrayList<>();
        ends.add(gets(stand, p, q, n - 1, !one));
        for (int t = 0; t < turns.length; t++) {
            ends.add(gets(slid(stand, t), p, q, n - 1, !one));
        }
        return one ? ends.contains(true) : !ends.contains(false);
    }

    int getsBy(int p, int q, int n) {
        if (gets(now, p, q, n - 1, false)) {
            return -2;
        }
        for (int t = 0; t < turns.length; t++) {
            if (gets(slid(now, t), p, q, n - 1, false)) {
                return t;
            }
        }
        return -2;
    }

    /** What is counted of a stand. */
    interface Measure {
        int of(int[] stand);
    }

    /** Upper and lower WHOLE of a mean behind n shakes, by all rows of shakes. */
    BigInteger[] meanOf(Measure measure, int n) {
        BigInteger upper = weigh(measure, now, n);
        BigInteger lower = BigInteger.valueOf(100L * turns.length).pow(n);
        BigInteger common = upper.gcd(lower);
        return new BigInteger[] {upper.divide(common), lower.divide(common)};
    }

    private BigInteger weigh(Measure measure, int[] stand, int n) {
        if (n == 0) {
            return BigInteger.valueOf(measure.of(stand));
        }
        BigInteger sum = weigh(measure, stand, n - 1).multiply(BigInteger.valueOf((100L - shakes) * turns.length));
        for (int t = 0; t < turns.length; t++) {
            sum = sum.add(weigh(measure, slid(stand, t), n - 1).multiply(BigInteger.valueOf(shakes)));
        }
        return sum;
    }

    /** The stands behind 0 .. n shakes by a seed. */
    List<int[]> shakenBy(long seed, int n) {
        List<int[]> stands = new ArrayList<>();
        int[] stand = now;
        stands.add(stand);
        for (int i = 0; i < n; i++) {
            seed = (75 * seed + 74) % 65537;
            if (seed % 100 < shakes) {
                seed = (75 * seed + 74) % 65537;
                stand = slid(stand, (int) (seed % turns.length));
            }
            stands.add(stand);
        }
        return stands;
    }
}
