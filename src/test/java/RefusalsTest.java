import java.util.function.Supplier;
import java.util.function.ToLongFunction;

/** Each call that may be refused: what it answers, its TROUBLE, and that it leaves all as it was. */
public final class RefusalsTest {
    private static final String TEXT = "tube mirrors 2 slots 4 shakes 50"
            + ";person a red at 0;person b blue at 1;person c green at 3;turn l 1 2 3 0;turn s 1 0 2 3"
            + ";quarrel a b;quarrel b c;wants a c;shuns a b;unsure c 2;unsure a 2;seen b c far";
    private static final String NEXT = "tube mirrors 3 slots 2 shakes 7;person z green at 1;turn y 1 0";

    private static Check check;

    public static void main(String[] args) {
        check = new Check();
        numbersThatAreNone();
        placesThatAreNone();
        unlikePeople();
        rowsThatAreNone();
        numbersOutOfBounds();
        beadsAndBlueOutOfBounds();
        timesOutOfBounds();
        seedsOutOfBounds();
        acts();
        theTape();
        noTube();
        noTubeAndANumber();
        whatIsNoneAheadOfANumber();
        check.end();
    }

    private static StreetTube empty() {
        StreetTube x = new StreetTube();
        Check.feedText(x, NEXT);
        return x;
    }

    private static StreetTube early() {
        StreetTube x = new StreetTube();
        Check.tell(x, TEXT);
        return x;
    }

    /** Acts that can be undone, all images kept, a full tape. */
    private static StreetTube later() {
        StreetTube x = early();
        x.keep();
        x.turn(0);
        x.keep();
        x.move(1, 3);
        x.turnBack(1);
        x.keep();
        x.turn(1);
        Check.feedText(x, NEXT + " ".repeat(700 - NEXT.length()));
        return x;
    }

    private static int[] outside(int least, int most) {
        return new int[] {least - 1, most + 1, most + 2, -100, Integer.MIN_VALUE, Integer.MAX_VALUE};
    }

    private static void refused(String what, ToLongFunction<StreetTube> call, int trouble) {
        refused(what, call, -1, trouble);
    }

    private static void refused(String what, ToLongFunction<StreetTube> call, long answer, int trouble) {
        refusedOf("early: " + what, RefusalsTest::early, call, answer, trouble);
        refusedOf("later: " + what, RefusalsTest::later, call, answer, trouble);
    }

    private static void refusedOf(String what, Supplier<StreetTube> made, ToLongFunction<StreetTube> call, long answer, int trouble) {
        StreetTube x = made.get();
        StreetTube twin = made.get();
        check.due(what, call.applyAsLong(x), answer);
        check.due(what + " as trouble()", x.trouble(), trouble);
        check.due(what + " as where()", x.where(), -1);
        check.due(what + " leaves all as it was", Whole.asked(x).equals(Whole.asked(twin)), true);
        check.due(what + " leaves what can be used up", Whole.usedUp(x).equals(Whole.usedUp(twin)), true);
    }

    private static void numbersThatAreNone() {
        for (int p : outside(0, 2)) {
            for (int what = 0; what < 5; what++) {
                int asked = what;
                refused("person(" + p + ", " + what + ")", x -> x.person(p, asked), 1);
            }
            refused("image(" + p + ", 0)", x -> x.image(p, 0), 1);
            refused("bring(" + p + ", 0)", x -> x.bring(p, 0), 1);
            refused("slotOdds(" + p + ", 0, 1)", x -> x.slotOdds(p, 0, 1, true), 1);
            refused("shaken(" + p + ", 5, 1)", x -> x.shaken(p, 5, 1), 1);
            refused("move(" + p + ", 2)", x -> x.move(p, 2), 1);
        }
        for (int what : outside(0, 4)) {
            refused("person(0, " + what + ")", x -> x.person(0, what), 1);
        }
        for (int k : outside(0, 3)) {
            refused("slot(" + k + ")", x -> x.slot(k), 1);
            refused("turned(0, " + k + ")", x -> x.turned(0, k), 1);
            refused("slides(" + k + ", 1, 1)", x -> x.slides(k, 1, 1), 1);
            refused("orbit(" + k + ")", x -> x.orbit(k), 1);
            refused("keeps(" + k + ")", x -> x.keeps(k), 1);
            refused("bring(0, " + k + ")", x -> x.bring(0, k), 1);
            refused("slotOdds(0, " + k + ", 1)", x -> x.slotOdds(0, k, 1, false), 1);
            refused("move(0, " + k + ")", x -> x.move(0, k), 1);
        }
        for (int t : outside(0, 1)) {
            refused("turned(" + t + ", 0)", x -> x.turned(t, 0), 1);
            refused("commute(" + t + ", 0)", x -> x.commute(t, 0), 1);
            refused("commute(0, " + t + ")", x -> x.commute(0, t), 1);
            refused("turn(" + t + ")", x -> x.turn(t), 1);
            refused("turnBack(" + t + ")", x -> x.turnBack(t), 1);
        }
    }

    private static void placesThatAreNone() {
        for (int i : outside(0, 15)) {
            refused("ring(" + i + ")", x -> x.ring(i), 1);
            refused("truth(" + i + ")", x -> x.truth(i), 1);
        }
        for (int i : outside(0, 3)) {
            refused("image(0, " + i + ")", x -> x.image(0, i), 1);
            refused("image(2, " + i + ")", x -> x.image(2, i), 1);
        }
        for (int colour : outside(0, 2)) {
            refused("seenIn(" + colour + ")", x -> x.seenIn(colour), 1);
        }
        for (int i : outside(0, 1)) {
            refusedOf("errandAt(" + i + ")", RefusalsTest::early, x -> x.errandAt(i), -1, 1);
        }
        for (int i : outside(0, 2)) {
            refusedOf("peaceAt(" + i + ")", RefusalsTest::early, x -> x.peaceAt(i), -1, 1);
        }
        // {}, {a}; c in slot 2 would be beside b
        for (int i : outside(0, 1)) {
            refused("fitAt(" + i + ")", x -> x.fitAt(i), 1);
        }
    }

    private static void unlikePeople() {
        for (int p = 0; p < 3; p++) {
            int one = p;
            refused("near(" + p + ", " + p + ")", x -> x.near(one, one), 1);
            refused("gets(" + p + ", " + p + ", 1)", x -> x.gets(one, one, 1), 1);
            refused("getsBy(" + p + ", " + p + ", 1)", x -> x.getsBy(one, one, 1), 1);
            refused("odds(" + p + ", " + p + ", 1)", x -> x.odds(one, one, 1, true), 1);
        }
        for (int p : outside(0, 2)) {
            refused("near(" + p + ", 0)", x -> x.near(p, 0), 1);
            refused("near(0, " + p + ")", x -> x.near(0, p), 1);
            refused("gets(" + p + ", 0, 1)", x -> x.gets(p, 0, 1), 1);
            refused("gets(0, " + p + ", 1)", x -> x.gets(0, p, 1), 1);
            refused("getsBy(" + p + ", 0, 1)", x -> x.getsBy(p, 0, 1), 1);
            refused("getsBy(0, " + p + ", 1)", x -> x.getsBy(0, p, 1), 1);
            refused("odds(" + p + ", 0, 1)", x -> x.odds(p, 0, 1, false), 1);
            refused("odds(0, " + p + ", 1)", x -> x.odds(0, p, 1, false), 1);
            refused("near(" + p + ", " + p + ")", x -> x.near(p, p), 1);
        }
    }

    private static void rowsThatAreNone() {
        int[][] wrong = {
            // n below 0, above 6
            {0, -1}, {1, -1}, {1111111, 7}, {111111, 7}, {0, 7}, {0, Integer.MIN_VALUE}, {1111111111, 10}, {0, Integer.MAX_VALUE},
            // a digit of no turn, at each end and within
            {0, 1}, {3, 1}, {9, 1}, {13, 2}, {31, 2}, {10, 2}, {101, 3}, {131, 3}, {111113, 6}, {311111, 6}, {111110, 6},
            // fewer digits, more digits
            {1, 2}, {11111, 6}, {1, 0}, {2, 0}, {11, 1}, {111, 2}, {1111111, 6}, {1111111, 5}, {1000000001, 1},
            // below 0
            {-1, 1}, {-1, 0}, {-11, 2}, {-111111, 6}, {Integer.MIN_VALUE, 6}, {Integer.MAX_VALUE, 6}};
        for (int[] row : wrong) {
            String tail = row[0] + ", " + row[1] + ")";
            refused("slides(0, " + tail, x -> x.slides(0, row[0], row[1]), 2);
            refused("slides(3, " + tail, x -> x.slides(3, row[0], row[1]), 2);
            refused("round(" + tail, x -> x.round(row[0], row[1]), 2);
            refused("even(" + tail, x -> x.even(row[0], row[1]), 2);
            refused("fixes(" + tail, x -> x.fixes(row[0], row[1]), 2);
            refused("undoing(" + tail, x -> x.undoing(row[0], row[1]), 2);
        }
    }

    private static void numbersOutOfBounds() {
        for (int k : outside(1, 9)) {
            refused("colourings(" + k + ")", x -> x.colourings(k), 2);
            refused("mirrored(" + k + ")", x -> x.mirrored(k), 2);
            refused("necklaces(1, " + k + ")", x -> x.necklaces(1, k), 2);
            refused("necklaces(12, " + k + ")", x -> x.necklaces(12, k), 2);
            refused("bracelets(1, " + k + ")", x -> x.bracelets(1, k), 2);
            refused("bracelets(12, " + k + ")", x -> x.bracelets(12, k), 2);
        }
    }

    private static void beadsAndBlueOutOfBounds() {
        for (int n : outside(1, 12)) {
            refused("necklaces(" + n + ", 1)", x -> x.necklaces(n, 1), 2);
            refused("necklaces(" + n + ", 9)", x -> x.necklaces(n, 9), 2);
            refused("bracelets(" + n + ", 1)", x -> x.bracelets(n, 1), 2);
            refused("bracelets(" + n + ", 9)", x -> x.bracelets(n, 9), 2);
        }
        for (int blue : outside(0, 9)) {
            for (int bits = 0; bits < 8; bits++) {
                boolean look = (bits & 4) != 0;
                boolean hope = (bits & 2) != 0;
                boolean street = (bits & 1) != 0;
                refused("looks(" + blue + ") " + bits, x -> x.looks(blue, look, hope, street), -100, 2);
            }
            refused("rests(" + blue + ")", x -> x.rests(blue), 2);
            refused("rest(" + blue + ")", x -> x.rest(blue), 2);
        }
    }

    private static void timesOutOfBounds() {
        for (int n : outside(0, 5)) {
            refused("gets(0, 1, " + n + ")", x -> x.gets(0, 1, n), 2);
            refused("odds(0, 1, " + n + ", true)", x -> x.odds(0, 1, n, true), 2);
            refused("odds(0, 1, " + n + ", false)", x -> x.odds(0, 1, n, false), 2);
            refused("slotOdds(0, 0, " + n + ", true)", x -> x.slotOdds(0, 0, n, true), 2);
            refused("slotOdds(0, 0, " + n + ", false)", x -> x.slotOdds(0, 0, n, false), 2);
            refused("mean(" + n + ", true)", x -> x.mean(n, true), 2);
            refused("mean(" + n + ", false)", x -> x.mean(n, false), 2);
        }
        for (int n : outside(1, 5)) {
            refused("getsBy(0, 1, " + n + ")", x -> x.getsBy(0, 1, n), 2);
        }
    }

    private static void seedsOutOfBounds() {
        for (int seed : outside(0, 65536)) {
            refused("shaken(0, " + seed + ", 0)", x -> x.shaken(0, seed, 0), 2);
            refused("shaken(0, " + seed + ", 60)", x -> x.shaken(0, seed, 60), 2);
            refused("peaceIn(" + seed + ", 0)", x -> x.peaceIn(seed, 0), 2);
            refused("peaceIn(" + seed + ", 60)", x -> x.peaceIn(seed, 60), 2);
        }
        for (int n : outside(0, 60)) {
            refused("shaken(0, 0, " + n + ")", x -> x.shaken(0, 0, n), 2);
            refused("shaken(0, 65536, " + n + ")", x -> x.shaken(0, 65536, n), 2);
            refused("peaceIn(0, " + n + ")", x -> x.peaceIn(0, n), 2);
            refused("peaceIn(65536, " + n + ")", x -> x.peaceIn(65536, n), 2);
        }
    }

    private static void acts() {
        // everybody's slot, his own too
        for (int p = 0; p < 3; p++) {
            int one = p;
            for (int q = 0; q < 3; q++) {
                int other = q;
                refused("move(" + p + ", slot of " + q + ")", x -> x.move(one, x.person(other, 1)), 5);
            }
        }
        refusedOf("undo() of nothing", RefusalsTest::early, x -> x.undo() ? 1 : 0, 0, 6);
        refusedOf("keep() the fourth", RefusalsTest::later, x -> x.keep(), -1, 3);
        for (int image : outside(0, -1)) {
            refusedOf("early: back(" + image + ")", RefusalsTest::early, x -> x.back(image) ? 1 : 0, 0, 1);
        }
        for (int image : outside(0, 2)) {
            refusedOf("later: back(" + image + ")", RefusalsTest::later, x -> x.back(image) ? 1 : 0, 0, 1);
        }
    }

    private static void theTape() {
        refused("tube(-1)", x -> x.tube(-1), 2);
        refused("tube(least)", x -> x.tube(Integer.MIN_VALUE), 2);
        refused("tube(most)", x -> x.tube(Integer.MAX_VALUE), 2);
        refusedOf("tube(1) of none", RefusalsTest::early, x -> x.tube(1), -1, 2);
        refusedOf("tube(701)", RefusalsTest::later, x -> x.tube(701), -1, 2);
        refusedOf("tube(one more)", RefusalsTest::empty, x -> x.tube(x.size(11) + 1), -1, 2);
        // of a feed that is refused no number is told: trouble() stays that of the call ahead
        refusedOf("feed of a full tape", RefusalsTest::later, x -> x.feed(0, 0, 0, 0, 0), -1, 0);
        refusedOf("feed of a full tape, again", RefusalsTest::later, x -> x.feed(1, 1, 1, 1, 1) + x.feed(2, 2, 2, 2, 2), -2, 0);
    }

    private static void without(String what, ToLongFunction<StreetTube> call, long answer, int trouble) {
        refusedOf("no tube: " + what, RefusalsTest::empty, call, answer, trouble);
    }

    private static void noTube() {
        for (int i = 0; i < 3; i++) {
            int k = i - 1;
            without("person", x -> x.person(k, 0), -1, 1);
            without("slot", x -> x.slot(k), -1, 1);
            without("turned", x -> x.turned(k, k), -1, 1);
            without("ring", x -> x.ring(k), -1, 1);
            without("truth", x -> x.truth(k), -1, 1);
            without("image", x -> x.image(k, k), -1, 1);
            without("near", x -> x.near(k, k + 1), -1, 1);
            without("seenIn", x -> x.seenIn(k), -1, 1);
            without("commute", x -> x.commute(k, k), -1, 1);
            without("orbit", x -> x.orbit(k), -1, 1);
            without("keeps", x -> x.keeps(k), -1, 1);
            without("errandAt", x -> x.errandAt(k), -1, 1);
            without("peaceAt", x -> x.peaceAt(k), -1, 1);
            without("bring", x -> x.bring(k, k), -1, 1);
            without("fitAt", x -> x.fitAt(k), -1, 1);
            without("turn", x -> x.turn(k), -1, 1);
            without("turnBack", x -> x.turnBack(k), -1, 1);
            without("move", x -> x.move(k, k), -1, 1);
            without("back", x -> x.back(k) ? 1 : 0, 0, 1);
        }
        without("quarrels", x -> x.quarrels(), -1, 1);
        without("met", x -> x.met(), -1, 1);
        without("selves", x -> x.selves(), -1, 1);
        without("reach", x -> x.reach(), -1, 1);
        without("deepest", x -> x.deepest(), -1, 1);
        without("evens", x -> x.evens(), -1, 1);
        without("pairs", x -> x.pairs(), -1, 1);
        without("centre", x -> x.centre(), -1, 1);
        without("errand", x -> x.errand(), -1, 1);
        without("peace", x -> x.peace(), -1, 1);
        without("calmest", x -> x.calmest(), -1, 1);
        without("fits", x -> x.fits(), -1, 1);
        without("could", x -> x.could(), -1, 1);
        without("surely", x -> x.surely(), -1, 1);
        without("ask", x -> x.ask(), -1, 1);
        without("askLeaves", x -> x.askLeaves(), -1, 1);
        without("judge", x -> x.judge(), -1, 1);
        without("undo", x -> x.undo() ? 1 : 0, 0, 6);
        without("keep", x -> x.keep(), -1, 1);
    }

    /** Of calls that tell of no TUBE, and then of a number: both a good one and a wrong one. */
    private static void noTubeAndANumber() {
        for (int i = 0; i < 2; i++) {
            int n = i == 0 ? 1 : 99;
            without("slides", x -> x.slides(0, n, n), -1, 1);
            without("round", x -> x.round(n, n), -1, 1);
            without("round of none", x -> x.round(0, 0), -1, 1);
            without("even", x -> x.even(n, n), -1, 1);
            without("even of none", x -> x.even(0, 0), -1, 1);
            without("fixes", x -> x.fixes(n, n), -1, 1);
            without("fixes of none", x -> x.fixes(0, 0), -1, 1);
            without("undoing", x -> x.undoing(n, n), -1, 1);
            without("undoing of none", x -> x.undoing(0, 0), -1, 1);
            without("colourings", x -> x.colourings(n), -1, 1);
            without("mirrored", x -> x.mirrored(n), -1, 1);
            without("necklaces", x -> x.necklaces(n, 1), -1, 1);
            without("bracelets", x -> x.bracelets(1, n), -1, 1);
            without("gets", x -> x.gets(0, 1, n), -1, 1);
            without("getsBy", x -> x.getsBy(0, 1, n), -1, 1);
            without("looks", x -> x.looks(n, true, true, true), -100, 1);
            without("rests", x -> x.rests(n), -1, 1);
            without("rest", x -> x.rest(n), -1, 1);
            without("odds", x -> x.odds(0, 1, n, true), -1, 1);
            without("slotOdds", x -> x.slotOdds(0, 0, n, true), -1, 1);
            without("mean", x -> x.mean(n, true), -1, 1);
            without("shaken", x -> x.shaken(0, 0, n), -1, 1);
            without("peaceIn", x -> x.peaceIn(0, n), -1, 1);
        }
    }

    /** Two refusals at once: the one that the document tells first. */
    private static void whatIsNoneAheadOfANumber() {
        refused("slides(4, 9, 9)", x -> x.slides(4, 9, 9), 1);
        refused("gets(1, 1, 6)", x -> x.gets(1, 1, 6), 1);
        refused("gets(0, 3, -1)", x -> x.gets(0, 3, -1), 1);
        refused("getsBy(1, 1, 0)", x -> x.getsBy(1, 1, 0), 1);
        refused("odds(2, 2, 6)", x -> x.odds(2, 2, 6, true), 1);
        refused("slotOdds(3, 0, 6)", x -> x.slotOdds(3, 0, 6, true), 1);
        refused("slotOdds(0, 4, 6)", x -> x.slotOdds(0, 4, 6, true), 1);
        refused("shaken(3, -1, 61)", x -> x.shaken(3, -1, 61), 1);
        refused("move(3, slot of a)", x -> x.move(3, x.person(0, 1)), 1);
    }
}
