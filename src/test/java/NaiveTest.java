import java.math.BigInteger;
import java.util.ArrayList;
import java.util.HashSet;
import java.util.List;
import java.util.Map;
import java.util.Random;
import java.util.Set;

/** Tubes made by chance (always the same): all answers against those found by trying all. */
public final class NaiveTest {
    private static Check check;
    private static StreetTube x;
    private static NaiveTube y;
    private static String where;

    public static void main(String[] args) {
        check = new Check();
        Random chance = new Random(20261118);
        for (int i = 0; i < 700; i++) {
            begin(chance, i % 10 == 0 ? 6 : 4);
            told();
            for (int step = 0; step < 2; step++) {
                now();
                ring();
                errands(chance);
                byTurns(chance);
                shakes(chance);
                acts(chance);
            }
            begin(y);
            rows(chance);
            reach();
            counted();
            unsure();
        }
        check.end();
    }

    private static void begin(Random chance, int mostSlots) {
        begin(new NaiveTube(chance, mostSlots));
    }

    private static void begin(NaiveTube naive) {
        y = naive;
        y.now = y.home.clone();
        where = " of <" + y.text() + ">";
        x = check.told(y.text(), y.people);
    }

    private static void due(String call, long got, long want) {
        check.due(call + where, got, want);
    }

    private static void told() {
        int[] sizes = {y.mirrors, y.slots, y.shakes, y.people, y.turns.length, y.quarrels.size(),
            y.wishes.size(), y.unsure.size(), y.seen.size(), 0, 0, 0};
        for (int what = 0; what < sizes.length; what++) {
            due("size(" + what + ")", x.size(what), sizes[what]);
        }
    }

    private static void now() {
        for (int p = 0; p < y.people; p++) {
            int beside = 0;
            int foes = 0;
            for (int q = 0; q < y.people; q++) {
                beside |= NaiveTube.beside(y.now, p, q) ? 1 << q : 0;
                for (int[] pair : y.quarrels) {
                    foes |= pair[0] == p && pair[1] == q || pair[1] == p && pair[0] == q ? 1 << q : 0;
                }
            }
            int[] whats = {y.colour[p], y.now[p], beside, foes, y.home[p]};
            for (int what = 0; what < 5; what++) {
                due("person(" + p + ", " + what + ")", x.person(p, what), whats[what]);
            }
        }
        for (int k = 0; k < y.slots; k++) {
            due("slot(" + k + ")", x.slot(k), y.whoIn(k));
        }
        due("quarrels()", x.quarrels(), y.quarrelsOf(y.now));
        due("met()", x.met(), y.metOf(y.now));
    }

    private static void ring() {
        List<Integer> ring = y.ringSlots();
        int places = ring.size();
        List<List<Integer>> images = new ArrayList<>();
        for (int p = 0; p < y.people; p++) {
            images.add(new ArrayList<>());
        }
        int selves = 0;
        int[] colours = new int[3];
        for (int i = 0; i < places; i++) {
            int who = y.whoIn(ring.get(i));
            due("truth(" + i + ")", x.truth(i), ring.get(i));
            due("ring(" + i + ")", x.ring(i), who);
            if (who >= 0) {
                images.get(who).add(i);
                colours[y.colour[who]]++;
                selves |= y.whoIn(ring.get((i + 1) % places)) == who ? 1 << who : 0;
            }
        }
        due("selves()", x.selves(), selves);
        due("ring(" + places + ")", x.ring(places), -1);
        for (int c = 0; c < 3; c++) {
            due("seenIn(" + c + ")", x.seenIn(c), colours[c]);
        }
        for (int p = 0; p < y.people; p++) {
            for (int i = 0; i <= images.get(p).size(); i++) {
                due("image(" + p + ", " + i + ")", x.image(p, i), i < images.get(p).size() ? images.get(p).get(i) : -1);
            }
            for (int q = 0; q < y.people; q++) {
                due("near(" + p + ", " + q + ")", x.near(p, q), p == q ? -1 : near(images.get(p), images.get(q), places));
            }
        }
    }

    private static int near(List<Integer> one, List<Integer> other, int places) {
        int least = places;
        for (int i : one) {
            for (int j : other) {
                least = Math.min(least, Math.min(Math.floorMod(i - j, places), Math.floorMod(j - i, places)));
            }
        }
        return least;
    }

    private static void rows(Random chance) {
        for (int i = 0; i < 6; i++) {
            int n = chance.nextInt(7);
            int row = 0;
            int[] change = new int[y.slots];
            for (int k = 0; k < y.slots; k++) {
                change[k] = k;
            }
            int[] same = change;
            for (int j = 0; j < n; j++) {
                int t = chance.nextInt(y.turns.length);
                row = row * 10 + t + 1;
                change = y.slid(change, t);
            }
            String tail = "(" + row + ", " + n + ")";
            int fixed = 0;
            int inversions = 0;
            for (int k = 0; k < y.slots; k++) {
                due("slides " + k + tail, x.slides(k, row, n), change[k]);
                fixed += change[k] == k ? 1 : 0;
                for (int l = 0; l < k; l++) {
                    inversions += change[l] > change[k] ? 1 : 0;
                }
            }
            due("fixes" + tail, x.fixes(row, n), fixed);
            due("even" + tail, x.even(row, n), 1 - inversions % 2);
            due("round" + tail, x.round(row, n), round(same, change));
            due("undoing" + tail, x.undoing(row, n), y.reached().get(inverse(change)));
            due("round of a wrong row", x.round(row * 10 + y.turns.length + 1, n + 1), -1);
        }
        for (int t = 0; t < y.turns.length; t++) {
            for (int u = 0; u < y.turns.length; u++) {
                List<Integer> one = NaiveTube.asList(y.slid(y.turns[t], u));
                List<Integer> other = NaiveTube.asList(y.slid(y.turns[u], t));
                due("commute(" + t + ", " + u + ")", x.commute(t, u), one.equals(other) ? 1 : 0);
            }
            for (int k = 0; k < y.slots; k++) {
                due("turned(" + t + ", " + k + ")", x.turned(t, k), y.turns[t][k]);
            }
        }
    }

    private static int round(int[] same, int[] change) {
        int times = 1;
        int[] done = change.clone();
        while (!NaiveTube.asList(done).equals(NaiveTube.asList(same))) {
            for (int k = 0; k < done.length; k++) {
                done[k] = change[done[k]];
            }
            times++;
        }
        return times;
    }

    private static List<Integer> inverse(int[] change) {
        int[] inverse = new int[change.length];
        for (int k = 0; k < change.length; k++) {
            inverse[change[k]] = k;
        }
        return NaiveTube.asList(inverse);
    }

    private static void reach() {
        Map<List<Integer>, Integer> all = y.reached();
        int deepest = 0;
        int evens = 0;
        int centre = 0;
        int[] orbit = new int[y.slots];
        int[] keeps = new int[y.slots];
        Set<Set<Integer>> sets = new HashSet<>();
        for (List<Integer> change : all.keySet()) {
            deepest = Math.max(deepest, all.get(change));
            int inversions = 0;
            for (int k = 0; k < y.slots; k++) {
                orbit[k] |= 1 << change.get(k);
                keeps[k] += change.get(k) == k ? 1 : 0;
                for (int l = 0; l < k; l++) {
                    inversions += change.get(l) > change.get(k) ? 1 : 0;
                }
            }
            evens += 1 - inversions % 2;
            boolean central = true;
            for (int[] turn : y.turns) {
                for (int k = 0; k < y.slots; k++) {
                    central = central && turn[change.get(k)] == change.get(turn[k]);
                }
            }
            centre += central ? 1 : 0;
        }
        for (int k = 0; k < y.slots; k++) {
            due("orbit(" + k + ")", x.orbit(k), orbit[k]);
            due("keeps(" + k + ")", x.keeps(k), keeps[k]);
            for (int l = 0; l < k; l++) {
                Set<Integer> set = new HashSet<>();
                for (List<Integer> change : all.keySet()) {
                    set.add(1 << change.get(k) | 1 << change.get(l));
                }
                sets.add(set);
            }
        }
        due("reach()", x.reach(), all.size());
        due("deepest()", x.deepest(), deepest);
        due("evens()", x.evens(), evens);
        due("centre()", x.centre(), centre);
        due("pairs()", x.pairs(), sets.size());
    }

    private static void errands(Random chance) {
        Map<List<Integer>, Integer> all = y.reached();
        int calmest = 99;
        int errand = 99;
        int peace = 99;
        int p = chance.nextInt(y.people);
        int k = chance.nextInt(y.slots);
        int bring = 99;
        for (List<Integer> change : all.keySet()) {
            int[] stand = y.now.clone();
            for (int q = 0; q < y.people; q++) {
                stand[q] = change.get(stand[q]);
            }
            int depth = all.get(change);
            calmest = Math.min(calmest, y.quarrelsOf(stand));
            errand = y.metOf(stand) == (1 << y.wishes.size()) - 1 ? Math.min(errand, depth) : errand;
            peace = y.quarrelsOf(stand) == 0 ? Math.min(peace, depth) : peace;
            bring = stand[p] == k ? Math.min(bring, depth) : bring;
        }
        due("calmest()", x.calmest(), calmest);
        due("errand()", x.errand(), errand == 99 ? -2 : errand);
        due("peace()", x.peace(), peace == 99 ? -2 : peace);
        due("bring(" + p + ", " + k + ")", x.bring(p, k), bring == 99 ? -2 : bring);
        if (errand <= 7) {
            int[] row = y.firstRow(false, 7);
            for (int i = -1; i <= errand; i++) {
                due("errandAt(" + i + ")", x.errandAt(i), i >= 0 && i < errand ? row[i] : -1);
            }
        }
        if (peace <= 7) {
            int[] row = y.firstRow(true, 7);
            for (int i = -1; i <= peace; i++) {
                due("peaceAt(" + i + ")", x.peaceAt(i), i >= 0 && i < peace ? row[i] : -1);
            }
        }
    }

    private static void counted() {
        for (int k = 1; k <= 3; k++) {
            due("colourings(" + k + ")", x.colourings(k), y.colourings(k, false));
            due("mirrored(" + k + ")", x.mirrored(k), y.colourings(k, true));
        }
    }

    private static void unsure() {
        List<Integer> fits = y.fits();
        due("fits()", x.fits(), fits.size());
        int could = 0;
        int surely = fits.isEmpty() ? 0 : -1;
        for (int i = 0; i < fits.size(); i++) {
            due("fitAt(" + i + ")", x.fitAt(i), fits.get(i));
            could |= fits.get(i);
            surely &= fits.get(i);
        }
        due("fitAt(" + fits.size() + ")", x.fitAt(fits.size()), -1);
        due("could()", x.could(), could);
        due("surely()", x.surely(), surely);
        int ask = -2;
        int leaves = -2;
        for (int u = 0; u < y.unsure.size() && !fits.isEmpty(); u++) {
            int[] left = new int[2];
            for (int set : fits) {
                left[(set >> u) % 2]++;
            }
            int most = Math.max(left[0], left[1]);
            if (ask == -2 || most < leaves) {
                ask = u;
                leaves = most;
            }
        }
        due("ask()", x.ask(), ask);
        due("askLeaves()", x.askLeaves(), leaves);
        int judge = -2;
        for (int i = y.seen.size() - 1; i >= 0; i--) {
            int[] s = y.seen.get(i);
            judge = NaiveTube.beside(y.home, s[0], s[1]) == (s[2] == 1) ? judge : i;
        }
        due("judge()", x.judge(), judge);
    }

    private static void byTurns(Random chance) {
        if (y.people < 2) {
            return;
        }
        int p = chance.nextInt(y.people);
        int q = (p + 1 + chance.nextInt(y.people - 1)) % y.people;
        for (int n = 0; n <= 5; n++) {
            String tail = "(" + p + ", " + q + ", " + n + ")";
            due("gets" + tail, x.gets(p, q, n), y.gets(y.now, p, q, n, true) ? 1 : 0);
            due("getsBy" + tail, x.getsBy(p, q, n), n == 0 ? -1 : y.getsBy(p, q, n));
        }
    }

    private static void shakes(Random chance) {
        int n = chance.nextInt(6);
        int p = chance.nextInt(y.people);
        int q = chance.nextInt(y.people);
        int k = chance.nextInt(y.slots);
        if (p != q) {
            BigInteger[] odds = y.meanOf(stand -> NaiveTube.beside(stand, p, q) ? 1 : 0, n);
            due("odds upper", x.odds(p, q, n, false), odds[0].longValueExact());
            due("odds lower", x.odds(p, q, n, true), odds[1].longValueExact());
        }
        BigInteger[] slotOdds = y.meanOf(stand -> stand[p] == k ? 1 : 0, n);
        due("slotOdds upper", x.slotOdds(p, k, n, false), slotOdds[0].longValueExact());
        due("slotOdds lower", x.slotOdds(p, k, n, true), slotOdds[1].longValueExact());
        BigInteger[] mean = y.meanOf(y::quarrelsOf, n);
        due("mean upper", x.mean(n, false), mean[0].longValueExact());
        due("mean lower", x.mean(n, true), mean[1].longValueExact());
        int seed = chance.nextInt(65537);
        int most = chance.nextInt(61);
        List<int[]> stands = y.shakenBy(seed, most);
        due("shaken(" + p + ", " + seed + ", " + most + ")", x.shaken(p, seed, most), stands.get(most)[p]);
        int peaceIn = -2;
        for (int i = most; i >= 0; i--) {
            peaceIn = y.quarrelsOf(stands.get(i)) == 0 ? i : peaceIn;
        }
        due("peaceIn(" + seed + ", " + most + ")", x.peaceIn(seed, most), peaceIn);
    }

    private static void acts(Random chance) {
        int t = chance.nextInt(y.turns.length);
        int[] before = y.now;
        y.now = y.slid(y.now, t);
        due("turn(" + t + ")", x.turn(t), differing(before, y.now));
        int u = chance.nextInt(y.turns.length);
        before = y.now;
        y.now = y.now.clone();
        for (int p = 0; p < y.people; p++) {
            y.now[p] = inverse(y.turns[u]).get(before[p]);
        }
        due("turnBack(" + u + ")", x.turnBack(u), differing(before, y.now));
        int p = chance.nextInt(y.people);
        int k = chance.nextInt(y.slots);
        boolean free = y.whoIn(k) == -2;
        due("move(" + p + ", " + k + ")", x.move(p, k), free ? y.now[p] : -1);
        due("trouble()", x.trouble(), free ? 0 : 5);
        if (free) {
            y.now = y.now.clone();
            y.now[p] = k;
        }
        List<Integer> led = new ArrayList<>();
        for (int q = 0; q < y.people; q++) {
            if (y.now[q] != y.home[q]) {
                led.add(q);
            }
        }
        for (int i = 0; i < led.size(); i++) {
            due("led(" + i + ")", x.led(i), led.get(i));
        }
        check.noLed("led(" + led.size() + ")" + where, x, led.size());
    }

    private static int differing(int[] one, int[] other) {
        int bits = 0;
        for (int p = 0; p < one.length; p++) {
            bits |= one[p] != other[p] ? 1 << p : 0;
        }
        return bits;
    }
}
