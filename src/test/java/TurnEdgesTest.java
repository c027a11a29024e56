/** Promises 17 to 39 at their bounds: rows of none and of six, turns that change nothing or all, k and n. */
public final class TurnEdgesTest {
    private static final String HEAD = "tube mirrors 2 slots 6 shakes 50;person a red at 1;person b red at 2";
    private static final String STILL = HEAD + ";turn n 0 1 2 3 4 5";
    private static final String ROUND = HEAD + ";turn l 1 2 3 4 5 0";
    private static final String ALL = HEAD + ";turn l 1 2 3 4 5 0;turn s 1 0 2 3 4 5;turn n 0 1 2 3 4 5";
    private static final String TWO = "tube mirrors 2 slots 2 shakes 50;person a red at 0;turn s 1 0";

    private static Check check;

    public static void main(String[] args) {
        check = new Check();
        aRowOfNone();
        aRowOfSix();
        aRowsDigitsAreTurns();
        roundsAndEvens();
        roundsOfTwoToSixSlots();
        commuteWithItself();
        undoingOfNoneAndOfSix();
        reachOfNoChange();
        reachOfTwoSlots();
        reachOfAll();
        reachOfEvensAlone();
        errandOfNone();
        errandFromTheFirstTurnToTheLast();
        errandThatCantBe();
        errandByTheFirstRow();
        peaceFromTheFirstTurnToTheLast();
        bringToEachSlot();
        calmestOfNoneAndAll();
        coloursOneToNine();
        beadsOneToTwelve();
        check.end();
    }

    private static void aRowOfNone() {
        StreetTube x = check.told(ALL, 2);
        for (int k = 0; k < 6; k++) {
            check.fine("slides(" + k + ", 0, 0)", x, x.slides(k, 0, 0), k);
        }
        check.fine("round(0, 0)", x, x.round(0, 0), 1);
        check.fine("even(0, 0)", x, x.even(0, 0), 1);
        check.fine("fixes(0, 0)", x, x.fixes(0, 0), 6);
        check.fine("undoing(0, 0)", x, x.undoing(0, 0), 0);
        check.refused("round(1, 0)", x, x.round(1, 0), 2);
        check.refused("round(0, 1)", x, x.round(0, 1), 2);
    }

    private static void aRowOfSix() {
        StreetTube x = check.told(ALL, 2);
        int[] into = {0, 4, 5, 1, 2, 3};
        for (int k = 0; k < 6; k++) {
            check.fine("slides(" + k + ", 121212, 6)", x, x.slides(k, 121212, 6), into[k]);
            check.fine("slides(" + k + ", 111111, 6)", x, x.slides(k, 111111, 6), k);
            check.fine("slides(" + k + ", 333333, 6)", x, x.slides(k, 333333, 6), k);
            check.fine("slides(" + k + ", 33331, 5)", x, x.slides(k, 33331, 5), (k + 1) % 6);
        }
        check.fine("round(121212, 6)", x, x.round(121212, 6), 5);
        check.fine("even(121212, 6)", x, x.even(121212, 6), 1);
        check.fine("fixes(121212, 6)", x, x.fixes(121212, 6), 1);
        check.fine("fixes(111111, 6)", x, x.fixes(111111, 6), 6);
        check.refused("slides of seven", x, x.slides(0, 1212121, 7), 2);
    }

    private static void aRowsDigitsAreTurns() {
        String[] texts = {ROUND, ROUND + ";turn s 1 0 2 3 4 5", ALL};
        for (int turns = 1; turns <= 3; turns++) {
            StreetTube x = check.told(texts[turns - 1], 2);
            for (int digit = 0; digit <= 9; digit++) {
                boolean is = digit >= 1 && digit <= turns;
                check.refused("round(" + digit + ", 1) of " + turns, x, x.round(digit, 1), is ? new int[] {6, 2, 1}[digit - 1] : -1, is ? 0 : 2);
            }
        }
        StreetTube x = check.told(ALL, 2);
        // the first turn's digit is the highest: 0 to 1 by l, to 0 by s; 0 to 1 by s, to 2 by l
        check.fine("slides(0, 12, 2)", x, x.slides(0, 12, 2), 0);
        check.fine("slides(0, 21, 2)", x, x.slides(0, 21, 2), 2);
        check.fine("slides(0, 2311, 4)", x, x.slides(0, 2311, 4), 3);
    }

    private static void roundsAndEvens() {
        String[] turns = {"0 1 2 3 4 5", "1 0 2 3 4 5", "1 2 0 3 4 5", "1 2 3 0 4 5", "1 2 3 4 0 5", "1 2 3 4 5 0",
            "1 0 3 2 4 5", "1 0 3 2 5 4", "1 2 0 4 5 3", "1 2 0 4 3 5", "1 2 3 0 5 4"};
        int[] rounds = {1, 2, 3, 4, 5, 6, 2, 2, 3, 6, 4};
        int[] evens = {1, 0, 1, 0, 1, 0, 1, 0, 1, 0, 1};
        int[] fixes = {6, 4, 3, 2, 1, 0, 2, 0, 0, 1, 0};
        for (int i = 0; i < turns.length; i++) {
            StreetTube x = check.told(HEAD + ";turn t " + turns[i], 2);
            check.fine("round of " + turns[i], x, x.round(1, 1), rounds[i]);
            check.fine("even of " + turns[i], x, x.even(1, 1), evens[i]);
            check.fine("fixes of " + turns[i], x, x.fixes(1, 1), fixes[i]);
            check.fine("reach() of " + turns[i], x, x.reach(), rounds[i]);
            check.fine("undoing of " + turns[i], x, x.undoing(1, 1), rounds[i] - 1);
        }
    }

    private static void roundsOfTwoToSixSlots() {
        for (int slots = 2; slots <= 6; slots++) {
            String into = "1 2 3 4 5 ".substring(0, 2 * slots - 2) + "0";
            String still = "0 1 2 3 4 5".substring(0, 2 * slots - 1);
            StreetTube x = check.told("tube mirrors 2 slots " + slots + " shakes 0;person a red at 0;turn l " + into
                    + ";turn n " + still, 1);
            check.fine("round(0, 0)", x, x.round(0, 0), 1);
            check.fine("round(1, 1)", x, x.round(1, 1), slots);
            check.fine("round(2, 1)", x, x.round(2, 1), 1);
            check.fine("round(12, 2)", x, x.round(12, 2), slots);
            check.fine("even(1, 1)", x, x.even(1, 1), slots % 2);
            check.fine("even(2, 1)", x, x.even(2, 1), 1);
            check.fine("fixes(1, 1)", x, x.fixes(1, 1), 0);
            check.fine("fixes(2, 1)", x, x.fixes(2, 1), slots);
            check.fine("commute(0, 1)", x, x.commute(0, 1), 1);
            check.fine("undoing(1, 1)", x, x.undoing(1, 1), slots - 1);
            check.fine("reach()", x, x.reach(), slots);
            check.fine("deepest()", x, x.deepest(), slots - 1);
            check.fine("centre()", x, x.centre(), slots);
            check.fine("pairs()", x, x.pairs(), slots / 2);
            check.fine("orbit()", x, x.orbit(slots - 1), (1 << slots) - 1);
            check.fine("colourings(3)", x, x.colourings(3), x.necklaces(slots, 3));
            check.fine("mirrored(3)", x, x.mirrored(3), x.bracelets(slots, 3));
        }
    }

    private static void commuteWithItself() {
        StreetTube x = check.told(ALL, 2);
        for (int t = 0; t < 3; t++) {
            check.fine("commute with itself", x, x.commute(t, t), 1);
            check.fine("commute with what changes nothing", x, x.commute(t, 2), 1);
            check.fine("in the other order", x, x.commute(2, t), 1);
        }
        check.fine("commute(0, 1)", x, x.commute(0, 1), 0);
        check.fine("commute(1, 0)", x, x.commute(1, 0), 0);
    }

    private static void undoingOfNoneAndOfSix() {
        StreetTube x = check.told(ALL, 2);
        check.fine("undoing(3, 1)", x, x.undoing(3, 1), 0);
        check.fine("undoing(1, 1)", x, x.undoing(1, 1), 5);
        check.fine("undoing(2, 1)", x, x.undoing(2, 1), 1);
        check.fine("undoing(22, 2)", x, x.undoing(22, 2), 0);
        check.fine("undoing(111111, 6)", x, x.undoing(111111, 6), 0);
        check.fine("undoing(121212, 6)", x, x.undoing(121212, 6), 4);
        check.fine("undoing(123123, 6)", x, x.undoing(123123, 6), 6);
    }

    private static void reachOfNoChange() {
        StreetTube x = check.told(STILL, 2);
        check.fine("reach()", x, x.reach(), 1);
        check.fine("deepest()", x, x.deepest(), 0);
        check.fine("evens()", x, x.evens(), 1);
        for (int k = 0; k < 6; k++) {
            check.fine("orbit(" + k + ")", x, x.orbit(k), 1 << k);
            check.fine("keeps(" + k + ")", x, x.keeps(k), 1);
        }
        check.fine("pairs()", x, x.pairs(), 15);
        check.fine("centre()", x, x.centre(), 1);
    }

    private static void reachOfTwoSlots() {
        StreetTube x = check.told(TWO, 1);
        check.fine("reach()", x, x.reach(), 2);
        check.fine("deepest()", x, x.deepest(), 1);
        check.fine("evens()", x, x.evens(), 1);
        for (int k = 0; k < 2; k++) {
            check.fine("orbit(" + k + ")", x, x.orbit(k), 3);
            check.fine("keeps(" + k + ")", x, x.keeps(k), 1);
        }
        check.fine("pairs()", x, x.pairs(), 1);
        check.fine("centre()", x, x.centre(), 2);
    }

    private static void reachOfAll() {
        StreetTube x = check.told(ALL, 2);
        check.fine("reach()", x, x.reach(), 720);
        check.fine("deepest()", x, x.deepest(), 18);
        check.fine("evens()", x, x.evens(), 360);
        for (int k = 0; k < 6; k++) {
            check.fine("orbit(" + k + ")", x, x.orbit(k), 63);
            check.fine("keeps(" + k + ")", x, x.keeps(k), 120);
        }
        check.fine("pairs()", x, x.pairs(), 1);
        check.fine("centre()", x, x.centre(), 1);
        // it is of slots, whoever is in them: one person alone has as many
        StreetTube one = check.told(ALL.replace(";person b red at 2", ""), 1);
        check.fine("reach() of one person", one, one.reach(), 720);
        // and of turns as told, not of now
        one.turn(0);
        one.move(0, 5);
        check.fine("reach() behind acts", one, one.reach(), 720);
        check.fine("orbit() behind acts", one, one.orbit(0), 63);
    }

    private static void reachOfEvensAlone() {
        StreetTube x = check.told(HEAD + ";turn t 1 2 0 3 4 5;turn u 0 1 2 4 5 3", 2);
        check.fine("reach()", x, x.reach(), 9);
        check.fine("evens() are all", x, x.evens(), 9);
        check.fine("deepest()", x, x.deepest(), 4);
        check.fine("orbit(0)", x, x.orbit(0), 7);
        check.fine("orbit(5)", x, x.orbit(5), 56);
        check.fine("keeps(0)", x, x.keeps(0), 3);
        check.fine("pairs() within each three, and between them", x, x.pairs(), 3);
        check.fine("centre() is all", x, x.centre(), 9);
    }

    private static void errandOfNone() {
        StreetTube x = check.told(ALL, 2);
        check.fine("errand() without wishes", x, x.errand(), 0);
        check.refused("errandAt(0) of none", x, x.errandAt(0), 1);
        check.fine("peace() without quarrels", x, x.peace(), 0);
        check.refused("peaceAt(0) of none", x, x.peaceAt(0), 1);
        StreetTube met = check.told(STILL + ";wants a b", 2);
        check.fine("errand() that is met", met, met.errand(), 0);
        check.refused("errandAt(0) of what is met", met, met.errandAt(0), 1);
        check.refused("errandAt(-1) of what is met", met, met.errandAt(-1), 1);
    }

    private static void errandFromTheFirstTurnToTheLast() {
        // only with a in the last slot and b in the first are they parted; the second turn told does it
        StreetTube x = check.told(STILL + ";turn l 1 2 3 4 5 0;shuns a b", 2);
        check.fine("errand()", x, x.errand(), 4);
        for (int i = 0; i < 4; i++) {
            check.fine("errandAt(" + i + ")", x, x.errandAt(i), 1);
        }
        check.refused("errandAt(4)", x, x.errandAt(4), 1);
        check.refused("errandAt(-1)", x, x.errandAt(-1), 1);
        for (int left = 3; left >= 0; left--) {
            x.turn(1);
            check.fine("errand() from now on", x, x.errand(), left);
            check.refused("errandAt(" + left + ")", x, x.errandAt(left), 1);
        }
        x.turn(1);
        check.fine("errand() gone by", x, x.errand(), 5);
        check.due("asking turned nothing", x.size(9), 5);
    }

    private static void errandThatCantBe() {
        StreetTube x = check.told(STILL + ";shuns a b;quarrel a b", 2);
        check.fine("errand()", x, x.errand(), -2);
        check.refused("errandAt(0)", x, x.errandAt(0), 1);
        check.fine("peace()", x, x.peace(), -2);
        check.refused("peaceAt(0)", x, x.peaceAt(0), 1);
        x.move(1, 5);
        check.fine("errand() behind a move", x, x.errand(), 0);
        check.fine("peace() behind a move", x, x.peace(), 0);
    }

    private static void errandByTheFirstRow() {
        String head = "tube mirrors 2 slots 4 shakes 50;person a red at 0;person b red at 3;wants a b";
        String[] turns = {";turn p 1 0 2 3", ";turn q 0 1 3 2"};
        for (int first = 0; first < 2; first++) {
            StreetTube x = check.told(head + turns[first] + turns[1 - first], 2);
            check.fine("errand() by two", x, x.errand(), 2);
            check.fine("errandAt(0)", x, x.errandAt(0), 0);
            check.fine("errandAt(1)", x, x.errandAt(1), 1);
        }
        StreetTube like = check.told(head + ";turn n 0 1 2 3;turn p 2 1 0 3;turn q 0 1 3 2", 2);
        // a to 2 by p is enough; q, told behind it, brings them no nearer
        check.fine("errand() by one", like, like.errand(), 1);
        check.fine("errandAt(0) by the second", like, like.errandAt(0), 1);
        StreetTube same = check.told(head + ";turn o 2 1 0 3;turn p 2 1 0 3", 2);
        check.fine("errandAt(0) of two that do the same", same, same.errandAt(0), 0);
    }

    private static void peaceFromTheFirstTurnToTheLast() {
        StreetTube x = check.told(STILL + ";turn l 1 2 3 4 5 0;quarrel b a", 2);
        check.fine("peace()", x, x.peace(), 4);
        for (int i = 0; i < 4; i++) {
            check.fine("peaceAt(" + i + ")", x, x.peaceAt(i), 1);
        }
        check.refused("peaceAt(4)", x, x.peaceAt(4), 1);
        check.refused("peaceAt(-1)", x, x.peaceAt(-1), 1);
        check.fine("calmest()", x, x.calmest(), 0);
        x.move(0, 0);
        check.fine("peace() now", x, x.peace(), 0);
        check.refused("peaceAt(0) now", x, x.peaceAt(0), 1);
    }

    private static void bringToEachSlot() {
        StreetTube x = check.told(ROUND, 2);
        for (int k = 0; k < 6; k++) {
            check.fine("bring(0, " + k + ")", x, x.bring(0, k), (k + 5) % 6);
            check.fine("bring(1, " + k + ")", x, x.bring(1, k), (k + 4) % 6);
        }
        StreetTube still = check.told(STILL, 2);
        for (int k = 0; k < 6; k++) {
            check.fine("bring(0, " + k + ") by no change", still, still.bring(0, k), k == 1 ? 0 : -2);
        }
        still.move(0, 5);
        check.fine("bring(0, 5) from now", still, still.bring(0, 5), 0);
        check.fine("bring(0, 1) from now", still, still.bring(0, 1), -2);
    }

    private static void calmestOfNoneAndAll() {
        String full = "tube mirrors 2 slots 6 shakes 50;person a red at 0;person b red at 1;person c red at 2"
                + ";person d red at 3;person e red at 4;person f red at 5"
                + ";quarrel a b;quarrel b c;quarrel c d;quarrel d e;quarrel e f";
        StreetTube still = check.told(full + ";turn n 0 1 2 3 4 5", 6);
        check.fine("calmest() by no change", still, still.calmest(), 5);
        StreetTube round = check.told(full + ";turn l 1 2 3 4 5 0", 6);
        check.fine("calmest() by going round", round, round.calmest(), 4);
        check.fine("quarrels() stay", round, round.quarrels(), 5);
        StreetTube all = check.told(full + ";turn l 1 2 3 4 5 0;turn s 1 0 2 3 4 5", 6);
        check.fine("calmest() by all", all, all.calmest(), 0);
        StreetTube none = check.told(STILL, 2);
        check.fine("calmest() without quarrels", none, none.calmest(), 0);
    }

    private static void coloursOneToNine() {
        StreetTube still = check.told(STILL, 2);
        StreetTube two = check.told(TWO, 1);
        StreetTube apart = check.told("tube mirrors 2 slots 2 shakes 0;person a red at 0;turn n 0 1", 1);
        for (int k = 1; k <= 9; k++) {
            long square = (long) k * k;
            long cube = square * k;
            check.fine("colourings(" + k + ") by no change", still, still.colourings(k), cube * cube);
            check.fine("mirrored(" + k + ") by no change", still, still.mirrored(k), (cube * cube + cube) / 2);
            check.fine("colourings(" + k + ") of two slots", two, two.colourings(k), (square + k) / 2);
            check.fine("mirrored(" + k + ") of two slots", two, two.mirrored(k), (square + k) / 2);
            check.fine("colourings(" + k + ") of two slots apart", apart, apart.colourings(k), square);
            check.fine("mirrored(" + k + ") of two slots apart", apart, apart.mirrored(k), (square + k) / 2);
        }
        StreetTube all = check.told(ALL, 2);
        check.fine("colourings(1)", all, all.colourings(1), 1);
        check.fine("colourings(9)", all, all.colourings(9), 3003);
        check.fine("mirrored(1)", all, all.mirrored(1), 1);
        check.fine("mirrored(9)", all, all.mirrored(9), 3003);
        for (int k : new int[] {0, 10}) {
            check.refused("colourings(" + k + ")", all, all.colourings(k), 2);
            check.refused("mirrored(" + k + ")", all, all.mirrored(k), 2);
        }
    }

    private static void beadsOneToTwelve() {
        StreetTube x = check.told(TWO, 1);
        for (int k = 1; k <= 9; k++) {
            long two = k * (k + 1L) / 2;
            check.fine("necklaces(1, " + k + ")", x, x.necklaces(1, k), k);
            check.fine("bracelets(1, " + k + ")", x, x.bracelets(1, k), k);
            check.fine("necklaces(2, " + k + ")", x, x.necklaces(2, k), two);
            check.fine("bracelets(2, " + k + ")", x, x.bracelets(2, k), two);
            check.fine("necklaces(3, " + k + ")", x, x.necklaces(3, k), (k * k * k + 2L * k) / 3);
            check.fine("bracelets(3, " + k + ")", x, x.bracelets(3, k), k * (k + 1L) * (k + 2L) / 6);
        }
        for (int n = 1; n <= 12; n++) {
            check.fine("necklaces(" + n + ", 1)", x, x.necklaces(n, 1), 1);
            check.fine("bracelets(" + n + ", 1)", x, x.bracelets(n, 1), 1);
        }
        check.fine("necklaces(12, 9)", x, x.necklaces(12, 9), 23535840225L);
        check.fine("bracelets(12, 9)", x, x.bracelets(12, 9), 11769248715L);
        check.fine("necklaces(11, 9)", x, x.necklaces(11, 9), (31381059609L + 10 * 9) / 11);
        check.fine("bracelets(11, 9)", x, x.bracelets(11, 9), ((31381059609L + 10 * 9) / 11 + 531441) / 2);
        int[][] wrong = {{0, 1}, {13, 1}, {1, 0}, {1, 10}, {12, 10}, {0, 9}, {13, 9}, {12, 0}};
        for (int[] pair : wrong) {
            check.refused("necklaces(" + pair[0] + ", " + pair[1] + ")", x, x.necklaces(pair[0], pair[1]), 2);
            check.refused("bracelets(" + pair[0] + ", " + pair[1] + ")", x, x.bracelets(pair[0], pair[1]), 2);
        }
    }
}
