/** Promises 17 to 39: rows of turns, all that can be come to, errands, and what is counted. */
public final class TurnsTest {
    private static final String HEAD = "tube mirrors 2 slots 6 shakes 50;person a red at 0;person b red at 2";
    private static final String ALL_SIX = HEAD + ";turn l 1 2 3 4 5 0;turn s 1 0 2 3 4 5";
    private static final String FOUR = "tube mirrors 2 slots 4 shakes 50"
            + ";person a red at 0;person b blue at 1;person c green at 3"
            + ";turn l 1 2 3 0;turn s 1 0 2 3;quarrel a b;quarrel b c;wants a c;shuns a b";

    public static void main(String[] args) {
        Check check = new Check();
        rows(check);
        wrongRows(check);
        commuteAndUndoing(check);
        reach(check);
        parted(check);
        errands(check);
        errandsThatCantBe(check);
        colourings(check);
        beads(check);
        withoutTube(check);
        check.end();
    }

    private static void rows(Check check) {
        StreetTube x = check.told(ALL_SIX, 2);
        check.fine("slides(5, 1, 1)", x, x.slides(5, 1, 1), 0);
        check.fine("slides(0, 0, 0)", x, x.slides(0, 0, 0), 0);
        // the highest digit goes first: 5 to 0 by l, then 0 to 1 by s
        check.fine("slides(5, 12, 2)", x, x.slides(5, 12, 2), 1);
        check.fine("slides(5, 21, 2)", x, x.slides(5, 21, 2), 0);
        check.fine("slides(1, 111111, 6)", x, x.slides(1, 111111, 6), 1);
        check.fine("round(1, 1)", x, x.round(1, 1), 6);
        check.fine("round(2, 1)", x, x.round(2, 1), 2);
        check.fine("round(11, 2)", x, x.round(11, 2), 3);
        check.fine("round(12, 2)", x, x.round(12, 2), 5);
        check.fine("round(0, 0)", x, x.round(0, 0), 1);
        check.fine("even(1, 1)", x, x.even(1, 1), 0);
        check.fine("even(12, 2)", x, x.even(12, 2), 1);
        check.fine("even(0, 0)", x, x.even(0, 0), 1);
        check.fine("fixes(2, 1)", x, x.fixes(2, 1), 4);
        check.fine("fixes(12, 2)", x, x.fixes(12, 2), 1);
        check.fine("fixes(0, 0)", x, x.fixes(0, 0), 6);
        StreetTube y = check.told(HEAD + ";turn t 1 2 0 4 3 5", 2);
        check.fine("round of 3 and 2", y, y.round(1, 1), 6);
        check.fine("even of 3 and 2", y, y.even(1, 1), 0);
        check.fine("fixes of 3 and 2", y, y.fixes(1, 1), 1);
    }

    private static void wrongRows(Check check) {
        StreetTube x = check.told(ALL_SIX, 2);
        int[][] wrong = {{3, 1}, {0, 1}, {10, 2}, {1, 0}, {1, 2}, {12, 1}, {-1, 1}, {-1, 0}, {1, -1}, {0, -1},
            {1111111, 7}, {111111, 7}, {1111111, 6}, {1, Integer.MAX_VALUE}, {Integer.MIN_VALUE, 0}};
        for (int[] row : wrong) {
            String tail = "(" + row[0] + ", " + row[1] + ")";
            check.refused("slides" + tail, x, x.slides(0, row[0], row[1]), 2);
            check.refused("round" + tail, x, x.round(row[0], row[1]), 2);
            check.refused("even" + tail, x, x.even(row[0], row[1]), 2);
            check.refused("fixes" + tail, x, x.fixes(row[0], row[1]), 2);
            check.refused("undoing" + tail, x, x.undoing(row[0], row[1]), 2);
        }
        check.refused("slides(6, 1, 1)", x, x.slides(6, 1, 1), 1);
        check.refused("slides(-1, 9, 9)", x, x.slides(-1, 9, 9), 1);
    }

    private static void commuteAndUndoing(Check check) {
        StreetTube x = check.told(HEAD + ";turn p 1 0 2 3 4 5;turn q 0 1 3 2 4 5;turn r 0 2 1 3 4 5", 2);
        check.fine("commute(0, 1)", x, x.commute(0, 1), 1);
        check.fine("commute(0, 2)", x, x.commute(0, 2), 0);
        check.fine("commute(2, 2)", x, x.commute(2, 2), 1);
        check.refused("commute(0, 3)", x, x.commute(0, 3), 1);
        check.refused("commute(-1, 0)", x, x.commute(-1, 0), 1);
        check.fine("undoing(123, 3)", x, x.undoing(123, 3), 3);
        check.fine("undoing(11, 2)", x, x.undoing(11, 2), 0);
        StreetTube y = check.told(ALL_SIX, 2);
        check.fine("undoing(1, 1)", y, y.undoing(1, 1), 5);
        check.fine("undoing(111, 3)", y, y.undoing(111, 3), 3);
        check.fine("undoing(0, 0)", y, y.undoing(0, 0), 0);
    }

    private static void reach(Check check) {
        StreetTube x = check.told(ALL_SIX, 2);
        check.fine("reach()", x, x.reach(), 720);
        check.fine("evens()", x, x.evens(), 360);
        check.fine("orbit(3)", x, x.orbit(3), 63);
        check.fine("keeps(3)", x, x.keeps(3), 120);
        check.fine("pairs()", x, x.pairs(), 1);
        check.fine("centre()", x, x.centre(), 1);
        StreetTube round = check.told(HEAD + ";turn l 1 2 3 4 5 0", 2);
        check.fine("reach() of going round", round, round.reach(), 6);
        check.fine("deepest() of going round", round, round.deepest(), 5);
        check.fine("evens() of going round", round, round.evens(), 3);
        check.fine("keeps() of going round", round, round.keeps(0), 1);
        check.fine("pairs() of going round", round, round.pairs(), 3);
        check.fine("centre() of going round", round, round.centre(), 6);
        StreetTube over = check.told(HEAD + ";turn l 1 2 3 4 5 0;turn o 5 4 3 2 1 0", 2);
        check.fine("reach() of going round and over", over, over.reach(), 12);
        check.fine("centre() of going round and over", over, over.centre(), 2);
        check.fine("keeps() of going round and over", over, over.keeps(0), 2);
        check.refused("orbit(6)", x, x.orbit(6), 1);
        check.refused("orbit(-1)", x, x.orbit(-1), 1);
        check.refused("keeps(6)", x, x.keeps(6), 1);
        check.refused("keeps(-1)", x, x.keeps(-1), 1);
    }

    private static void parted(Check check) {
        StreetTube x = check.told(HEAD + ";turn t 1 2 0 3 4 5;turn u 0 1 2 4 3 5", 2);
        check.fine("reach()", x, x.reach(), 6);
        check.fine("deepest()", x, x.deepest(), 3);
        check.fine("evens()", x, x.evens(), 3);
        check.fine("orbit(0)", x, x.orbit(0), 7);
        check.fine("orbit(4)", x, x.orbit(4), 24);
        check.fine("orbit(5)", x, x.orbit(5), 32);
        check.fine("keeps(1)", x, x.keeps(1), 2);
        check.fine("keeps(3)", x, x.keeps(3), 3);
        check.fine("keeps(5)", x, x.keeps(5), 6);
        // within the three, within the two, the three with the two, each of them with slot 5
        check.fine("pairs()", x, x.pairs(), 5);
        check.fine("centre()", x, x.centre(), 6);
    }

    private static void errands(Check check) {
        StreetTube x = check.told(FOUR, 3);
        check.fine("errand()", x, x.errand(), 2);
        check.fine("errandAt(0)", x, x.errandAt(0), 0);
        check.fine("errandAt(1)", x, x.errandAt(1), 1);
        check.refused("errandAt(2)", x, x.errandAt(2), 1);
        check.refused("errandAt(-1)", x, x.errandAt(-1), 1);
        check.fine("peace()", x, x.peace(), 3);
        for (int i = 0; i < 3; i++) {
            check.fine("peaceAt(" + i + ")", x, x.peaceAt(i), 0);
        }
        check.refused("peaceAt(3)", x, x.peaceAt(3), 1);
        check.refused("peaceAt(-1)", x, x.peaceAt(-1), 1);
        check.fine("calmest()", x, x.calmest(), 0);
        check.fine("bring(2, 3)", x, x.bring(2, 3), 0);
        check.fine("bring(2, 1)", x, x.bring(2, 1), 2);
        check.fine("bring(1, 0)", x, x.bring(1, 0), 1);
        check.refused("bring(3, 0)", x, x.bring(3, 0), 1);
        check.refused("bring(0, 4)", x, x.bring(0, 4), 1);
        check.refused("bring(-1, -1)", x, x.bring(-1, -1), 1);
        x.turn(0);
        // from now: one turn less
        check.fine("errand() behind a turn", x, x.errand(), 1);
        check.fine("errandAt(0) behind a turn", x, x.errandAt(0), 1);
        check.fine("peace() behind a turn", x, x.peace(), 2);
        x.turn(1);
        check.fine("errand() that is met", x, x.errand(), 0);
        check.refused("errandAt(0) of none", x, x.errandAt(0), 1);
        StreetTube none = check.told(ALL_SIX, 2);
        check.fine("errand() of no wishes", none, none.errand(), 0);
        check.fine("peace() of no quarrels", none, none.peace(), 0);
    }

    private static void errandsThatCantBe(Check check) {
        StreetTube x = check.told("tube mirrors 2 slots 3 shakes 50;person a red at 0;person b red at 1"
                + ";turn t 1 0 2;quarrel a b;shuns a b", 2);
        check.fine("errand()", x, x.errand(), -2);
        check.refused("errandAt(0)", x, x.errandAt(0), 1);
        check.fine("peace()", x, x.peace(), -2);
        check.refused("peaceAt(0)", x, x.peaceAt(0), 1);
        check.fine("calmest()", x, x.calmest(), 1);
        check.fine("bring(0, 2)", x, x.bring(0, 2), -2);
        check.fine("bring(0, 1)", x, x.bring(0, 1), 1);
        x.move(1, 2);
        check.fine("peace() behind a move", x, x.peace(), 0);
        // of like ones the first by turns: both turns part them
        StreetTube y = check.told("tube mirrors 2 slots 3 shakes 50;person a red at 0;person b red at 1"
                + ";turn t 2 0 1;turn u 0 2 1;turn v 1 2 0;shuns a b", 2);
        check.fine("errand() by like turns", y, y.errand(), 1);
        check.fine("errandAt(0) by like turns", y, y.errandAt(0), 0);
    }

    private static void colourings(Check check) {
        StreetTube x = check.told(ALL_SIX, 2);
        check.fine("colourings(1)", x, x.colourings(1), 1);
        check.fine("colourings(2)", x, x.colourings(2), 7);
        check.fine("colourings(9)", x, x.colourings(9), 3003);
        check.fine("mirrored(9)", x, x.mirrored(9), 3003);
        StreetTube round = check.told(HEAD + ";turn l 1 2 3 4 5 0", 2);
        check.fine("colourings(2) of going round", round, round.colourings(2), 14);
        check.fine("mirrored(2) of going round", round, round.mirrored(2), 13);
        check.fine("colourings(9) of going round", round, round.colourings(9), round.necklaces(6, 9));
        check.fine("mirrored(9) of going round", round, round.mirrored(9), round.bracelets(6, 9));
        StreetTube still = check.told(HEAD + ";turn t 0 1 2 3 4 5", 2);
        check.fine("colourings(9) of no change", still, still.colourings(9), 531441);
        check.fine("mirrored(9) of no change", still, still.mirrored(9), (531441 + 729) / 2);
        for (int k : new int[] {0, 10, -1}) {
            check.refused("colourings(" + k + ")", x, x.colourings(k), 2);
            check.refused("mirrored(" + k + ")", x, x.mirrored(k), 2);
        }
    }

    private static void beads(Check check) {
        StreetTube x = check.told(ALL_SIX, 2);
        long[] necklaces = {2, 3, 4, 6, 8, 14, 20, 36, 60, 108, 188, 352};
        long[] bracelets = {2, 3, 4, 6, 8, 13, 18, 30, 46, 78, 126, 224};
        for (int n = 1; n <= 12; n++) {
            check.fine("necklaces(" + n + ", 2)", x, x.necklaces(n, 2), necklaces[n - 1]);
            check.fine("bracelets(" + n + ", 2)", x, x.bracelets(n, 2), bracelets[n - 1]);
            check.fine("necklaces(" + n + ", 1)", x, x.necklaces(n, 1), 1);
            check.fine("bracelets(" + n + ", 1)", x, x.bracelets(n, 1), 1);
        }
        check.fine("necklaces(12, 9)", x, x.necklaces(12, 9), 23535840225L);
        check.fine("bracelets(12, 9)", x, x.bracelets(12, 9), 11769248715L);
        int[][] wrong = {{0, 1}, {13, 1}, {1, 0}, {1, 10}, {-1, 2}, {2, -1}};
        for (int[] pair : wrong) {
            check.refused("necklaces(" + pair[0] + ", " + pair[1] + ")", x, x.necklaces(pair[0], pair[1]), 2);
            check.refused("bracelets(" + pair[0] + ", " + pair[1] + ")", x, x.bracelets(pair[0], pair[1]), 2);
        }
    }

    private static void withoutTube(Check check) {
        StreetTube x = new StreetTube();
        check.refused("slides", x, x.slides(0, 0, 0), 1);
        check.refused("round", x, x.round(0, 0), 1);
        check.refused("round, a wrong row", x, x.round(-5, 9), 1);
        check.refused("even", x, x.even(0, 0), 1);
        check.refused("fixes", x, x.fixes(0, 0), 1);
        check.refused("commute", x, x.commute(0, 0), 1);
        check.refused("undoing", x, x.undoing(0, 0), 1);
        check.refused("reach", x, x.reach(), 1);
        check.refused("deepest", x, x.deepest(), 1);
        check.refused("evens", x, x.evens(), 1);
        check.refused("orbit", x, x.orbit(0), 1);
        check.refused("keeps", x, x.keeps(0), 1);
        check.refused("pairs", x, x.pairs(), 1);
        check.refused("centre", x, x.centre(), 1);
        check.refused("errand", x, x.errand(), 1);
        check.refused("errandAt", x, x.errandAt(0), 1);
        check.refused("peace", x, x.peace(), 1);
        check.refused("peaceAt", x, x.peaceAt(0), 1);
        check.refused("bring", x, x.bring(0, 0), 1);
        check.refused("calmest", x, x.calmest(), 1);
        check.refused("colourings", x, x.colourings(0), 1);
        check.refused("mirrored", x, x.mirrored(2), 1);
        check.refused("necklaces", x, x.necklaces(2, 2), 1);
        check.refused("bracelets", x, x.bracelets(0, 0), 1);
    }
}
