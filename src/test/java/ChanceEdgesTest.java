/** Promises 40 to 56 at their bounds: no set and all sets, n, blue, shakes, seeds and draws. */
public final class ChanceEdgesTest {
    private static final String FIVE = "tube mirrors 2 slots 5 shakes 25"
            + ";person a red at 0;person b blue at 1;person c green at 3;turn l 1 2 3 4 0;turn s 1 0 2 3 4";
    private static final String SIX = "tube mirrors 2 slots 6 shakes 25;person a red at 0;person b red at 1"
            + ";person c red at 2;person d red at 3;person e red at 4;person f red at 5";

    private static Check check;

    public static void main(String[] args) {
        check = new Check();
        noFits();
        oneFitWithNobodyUnsure();
        eightFits();
        nobodyCould();
        allSurely();
        askTheFirstOfTheBest();
        fitsAreOfAtFirst();
        judgeTheFirstToTheFifth();
        getsOfNoTurnAndOfFive();
        getsByOneToFive();
        blueNoneToNine();
        restsByBlue();
        oddsOfNoShakeAndOfFive();
        shakesNeverAndAlways();
        slotOddsMakeOne();
        meanOfNoneAndAll();
        seedsFromNoneToTheHighest();
        drawsBelowShakes();
        drawsGoRound();
        drawsChooseTheTurn();
        peaceAtOnceAndAtTheLastShake();
        shakesLeaveTheStreet();
        check.end();
    }

    private static void noFits() {
        StreetTube x = check.told(FIVE + ";unsure a 4;seen a b beside;seen b a far", 3);
        check.fine("fits()", x, x.fits(), 0);
        check.refused("fitAt(0)", x, x.fitAt(0), 1);
        check.fine("could()", x, x.could(), 0);
        check.fine("surely() without a set", x, x.surely(), 0);
        check.fine("ask()", x, x.ask(), -2);
        check.fine("askLeaves()", x, x.askLeaves(), -2);
        StreetTube sure = check.told(FIVE + ";seen a b far", 3);
        check.fine("fits() with nobody unsure", sure, sure.fits(), 0);
        check.refused("fitAt(0) with nobody unsure", sure, sure.fitAt(0), 1);
        check.fine("surely() with nobody unsure", sure, sure.surely(), 0);
        check.fine("ask() with nobody unsure", sure, sure.ask(), -2);
        check.fine("askLeaves() with nobody unsure", sure, sure.askLeaves(), -2);
    }

    private static void oneFitWithNobodyUnsure() {
        StreetTube x = check.told(FIVE, 3);
        check.fine("fits()", x, x.fits(), 1);
        check.fine("fitAt(0)", x, x.fitAt(0), 0);
        check.refused("fitAt(1)", x, x.fitAt(1), 1);
        check.fine("could()", x, x.could(), 0);
        check.fine("surely()", x, x.surely(), 0);
        check.fine("ask()", x, x.ask(), -2);
        check.fine("askLeaves()", x, x.askLeaves(), -2);
        check.fine("judge() of none seen", x, x.judge(), -2);
    }

    /** The other slot may be their own: then all sets fit. */
    private static void eightFits() {
        StreetTube x = check.told(FIVE + ";unsure a 0;unsure b 1;unsure c 3;seen a b beside", 3);
        check.fine("fits()", x, x.fits(), 8);
        for (int i = 0; i < 8; i++) {
            check.fine("fitAt(" + i + ")", x, x.fitAt(i), i);
        }
        check.refused("fitAt(8)", x, x.fitAt(8), 1);
        check.refused("fitAt(-1)", x, x.fitAt(-1), 1);
        check.fine("could()", x, x.could(), 7);
        check.fine("surely()", x, x.surely(), 0);
        check.fine("ask() the first", x, x.ask(), 0);
        check.fine("askLeaves()", x, x.askLeaves(), 4);
    }

    /** Only the set of nobody fits: their other slots are other people's, who stay. */
    private static void nobodyCould() {
        String[] unsure = {";unsure a 1", ";unsure a 1;unsure c 1", ";unsure a 3;unsure b 3;unsure c 0;seen b c far;seen a c far;seen a b beside"};
        for (int i = 0; i < unsure.length; i++) {
            StreetTube x = check.told(FIVE + unsure[i], 3);
            check.fine("fits() of " + unsure[i], x, x.fits(), 1);
            check.fine("fitAt(0) of " + unsure[i], x, x.fitAt(0), 0);
            check.refused("fitAt(1) of " + unsure[i], x, x.fitAt(1), 1);
            check.fine("could() of " + unsure[i], x, x.could(), 0);
            check.fine("surely() of " + unsure[i], x, x.surely(), 0);
            check.fine("ask() of " + unsure[i], x, x.ask(), 0);
            check.fine("askLeaves() of " + unsure[i], x, x.askLeaves(), 1);
        }
    }

    private static void allSurely() {
        StreetTube x = check.told("tube mirrors 2 slots 6 shakes 0;person a red at 0;person b red at 1;person c red at 5"
                + ";person d red at 3;turn n 0 1 2 3 4 5;unsure a 2;unsure b 4;unsure c 0"
                + ";seen a d beside;seen b d beside;seen b c far", 4);
        check.fine("fits()", x, x.fits(), 1);
        check.fine("fitAt(0)", x, x.fitAt(0), 7);
        check.refused("fitAt(1)", x, x.fitAt(1), 1);
        check.fine("could()", x, x.could(), 7);
        check.fine("surely()", x, x.surely(), 7);
        check.fine("ask()", x, x.ask(), 0);
        check.fine("askLeaves()", x, x.askLeaves(), 1);
        check.fine("judge()", x, x.judge(), 0);
    }

    private static void askTheFirstOfTheBest() {
        // {}, {c}, {b, c}, {a, b, c}: each needs the slot of the next one
        StreetTube middle = check.told(FIVE + ";unsure a 1;unsure b 3;unsure c 4", 3);
        int[] due = {0, 4, 6, 7};
        check.fine("fits()", middle, middle.fits(), 4);
        for (int i = 0; i < 4; i++) {
            check.fine("fitAt(" + i + ")", middle, middle.fitAt(i), due[i]);
        }
        check.fine("could()", middle, middle.could(), 7);
        check.fine("ask() the middle one", middle, middle.ask(), 1);
        check.fine("askLeaves()", middle, middle.askLeaves(), 2);
        StreetTube last = check.told(FIVE + ";unsure a 1;unsure b 0;unsure c 4;seen a c far;seen b c far", 3);
        // {}, {a, b}, {c}, {a, b, c}: c in 4 is far from both, c in 3, too
        check.fine("fits()", last, last.fits(), 4);
        check.fine("ask() the first of three like ones", last, last.ask(), 0);
        check.fine("askLeaves()", last, last.askLeaves(), 2);
        StreetTube third = check.told(FIVE + ";unsure a 1;unsure b 3;unsure c 3", 3);
        // nobody gives up his slot but c, whose other one is his own
        check.fine("fits()", third, third.fits(), 2);
        check.fine("fitAt(1)", third, third.fitAt(1), 4);
        check.fine("ask() the last one", third, third.ask(), 2);
        check.fine("askLeaves()", third, third.askLeaves(), 1);
        check.fine("could()", third, third.could(), 4);
    }

    private static void fitsAreOfAtFirst() {
        StreetTube x = check.told(FIVE + ";unsure a 4;seen a b beside;seen b c far", 3);
        StreetTube twin = check.told(FIVE + ";unsure a 4;seen a b beside;seen b c far", 3);
        x.turn(0);
        x.move(0, 0);
        for (StreetTube each : new StreetTube[] {x, twin}) {
            check.fine("fits()", each, each.fits(), 1);
            check.fine("fitAt(0)", each, each.fitAt(0), 0);
            check.fine("judge()", each, each.judge(), -2);
            check.fine("ask()", each, each.ask(), 0);
        }
    }

    private static void judgeTheFirstToTheFifth() {
        for (int wrong = 0; wrong < 6; wrong++) {
            StringBuilder text = new StringBuilder(SIX + ";turn n 0 1 2 3 4 5");
            for (int i = 0; i < 5; i++) {
                text.append(";seen ").append((char) ('a' + i)).append(' ').append((char) ('b' + i));
                text.append(i >= wrong ? " far" : " beside");
            }
            StreetTube x = check.told(text.toString(), 6);
            check.fine("judge()", x, x.judge(), wrong == 5 ? -2 : wrong);
        }
        StreetTube ends = check.told(SIX + ";turn n 0 1 2 3 4 5;seen a f far;seen a c far;seen a f beside", 6);
        check.fine("the first and the last slot aren't beside", ends, ends.judge(), 2);
    }

    private static void getsOfNoTurnAndOfFive() {
        StreetTube still = check.told(SIX + ";turn n 0 1 2 3 4 5", 6);
        for (int n = 0; n <= 5; n++) {
            check.fine("gets(0, 1, " + n + ")", still, still.gets(0, 1, n), 1);
            check.fine("gets(1, 0, " + n + ")", still, still.gets(1, 0, n), 1);
            check.fine("gets(0, 2, " + n + ")", still, still.gets(0, 2, n), 0);
            check.fine("gets(0, 5, " + n + ")", still, still.gets(0, 5, n), 0);
        }
        StreetTube last = check.told("tube mirrors 2 slots 3 shakes 0;person a red at 0;person b red at 2;turn u 0 2 1", 2);
        for (int n = 0; n <= 5; n++) {
            // whoever turns last has it
            check.fine("gets by " + n, last, last.gets(0, 1, n), n % 2);
        }
        check.refused("gets by 6", last, last.gets(0, 1, 6), 2);
        check.refused("gets by -1", last, last.gets(0, 1, -1), 2);
    }

    private static void getsByOneToFive() {
        StreetTube still = check.told(SIX + ";turn n 0 1 2 3 4 5", 6);
        for (int n = 1; n <= 5; n++) {
            check.fine("getsBy: none does it, too", still, still.getsBy(0, 1, n), -2);
            check.fine("getsBy: he doesn't", still, still.getsBy(0, 2, n), -2);
        }
        String four = "tube mirrors 2 slots 4 shakes 0;person a red at 3;person b red at 0";
        StreetTube x = check.told(four + ";turn t 2 3 1 0;turn u 0 2 1 3;turn v 1 2 0 3", 2);
        int[] gets = {0, 0, 0, 1, 0, 1};
        int[] by = {-1, -2, -2, 0, -2, 0};
        for (int n = 0; n <= 5; n++) {
            check.fine("gets by " + n, x, x.gets(0, 1, n), gets[n]);
            check.refused("getsBy " + n, x, x.getsBy(0, 1, n), by[n], n == 0 ? 2 : 0);
        }
        StreetTube third = check.told("tube mirrors 2 slots 5 shakes 0;person a red at 0;person b red at 1"
                + ";turn t 3 4 1 2 0;turn u 3 0 1 4 2;turn v 2 3 4 0 1", 2);
        check.fine("getsBy 5 by the third", third, third.getsBy(0, 1, 5), 2);
        StreetTube second = check.told("tube mirrors 2 slots 4 shakes 0;person a red at 2;person b red at 1"
                + ";turn t 2 3 0 1;turn u 3 0 2 1", 2);
        check.fine("getsBy 4 by the second", second, second.getsBy(0, 1, 4), 1);
        check.refused("getsBy 0", second, second.getsBy(0, 1, 0), 2);
        check.refused("getsBy 6", second, second.getsBy(0, 1, 6), 2);
    }

    private static void blueNoneToNine() {
        StreetTube x = check.told(FIVE, 3);
        check.fine("looked, not hoped, blue 0", x, x.looks(0, true, false, false), 1);
        check.fine("looked, not hoped, blue 9", x, x.looks(9, true, false, false), -8);
        check.fine("not looked, hoped, blue 0", x, x.looks(0, false, true, true), 2);
        check.fine("not looked, hoped, blue 9", x, x.looks(9, false, true, true), -7);
        // 1 less 2 is -1, which is no refusal
        check.fine("looked, not hoped, blue 2", x, x.looks(2, true, false, false), -1);
        check.fine("not looked, hoped, blue 3", x, x.looks(3, false, true, true), -1);
        for (int blue : new int[] {0, 9}) {
            check.fine("looked, hoped: eye", x, x.looks(blue, true, true, false), 3);
            check.fine("looked, hoped: street", x, x.looks(blue, true, true, true), 3);
            check.fine("looked, not hoped: street", x, x.looks(blue, true, false, true), 1);
            check.fine("not looked, hoped: eye", x, x.looks(blue, false, true, false), 0);
            check.fine("neither: eye", x, x.looks(blue, false, false, false), 1);
            check.fine("neither: street", x, x.looks(blue, false, false, true), 1);
        }
        check.refused("blue -1", x, x.looks(-1, true, true, true), -100, 2);
        check.refused("blue 10", x, x.looks(10, true, true, true), -100, 2);
    }

    private static void restsByBlue() {
        StreetTube x = check.told(FIVE, 3);
        check.fine("rests(0)", x, x.rests(0), 1);
        check.fine("rest(0)", x, x.rest(0), 11);
        // neither could have more alone: as much is no more
        check.fine("rests(1)", x, x.rests(1), 2);
        check.fine("rest(1)", x, x.rest(1), 0);
        check.fine("rests(9)", x, x.rests(9), 2);
        check.fine("rest(9)", x, x.rest(9), 0);
        check.refused("rests(-1)", x, x.rests(-1), 2);
        check.refused("rests(10)", x, x.rests(10), 2);
        check.refused("rest(-1)", x, x.rest(-1), 2);
        check.refused("rest(10)", x, x.rest(10), 2);
    }

    private static void odds(StreetTube x, int p, int q, int n, long upper, long lower) {
        check.fine("odds(" + p + ", " + q + ", " + n + ") upper", x, x.odds(p, q, n, false), upper);
        check.fine("odds(" + p + ", " + q + ", " + n + ") lower", x, x.odds(p, q, n, true), lower);
    }

    private static void slotOdds(StreetTube x, int p, int k, int n, long upper, long lower) {
        check.fine("slotOdds(" + p + ", " + k + ", " + n + ") upper", x, x.slotOdds(p, k, n, false), upper);
        check.fine("slotOdds(" + p + ", " + k + ", " + n + ") lower", x, x.slotOdds(p, k, n, true), lower);
    }

    private static void mean(StreetTube x, int n, long upper, long lower) {
        check.fine("mean(" + n + ") upper", x, x.mean(n, false), upper);
        check.fine("mean(" + n + ") lower", x, x.mean(n, true), lower);
    }

    private static void oddsOfNoShakeAndOfFive() {
        StreetTube x = check.told(FIVE, 3);
        odds(x, 0, 1, 0, 1, 1);
        odds(x, 0, 2, 0, 0, 1);
        slotOdds(x, 2, 3, 0, 1, 1);
        slotOdds(x, 2, 4, 0, 0, 1);
        // a fiftieth, one turn of three: five of them in all, 150 to the 5th
        StreetTube rare = check.told("tube mirrors 2 slots 6 shakes 2;person a red at 0;person b red at 5"
                + ";turn l 1 2 3 4 5 0;turn n 0 1 2 3 4 5;turn o 0 1 2 3 4 5", 2);
        slotOdds(rare, 0, 5, 5, 1, 75937500000L);
        slotOdds(rare, 0, 5, 4, 0, 1);
        // one in three hundred, so that nothing can be taken out of both
        StreetTube least = check.told("tube mirrors 2 slots 6 shakes 1;person a red at 0;person b red at 5"
                + ";turn l 1 2 3 4 5 0;turn n 0 1 2 3 4 5;turn o 0 1 2 3 4 5", 2);
        slotOdds(least, 0, 5, 5, 1, 2430000000000L);
        slotOdds(least, 0, 0, 5, 299L * 299 * 299 * 299 * 299, 2430000000000L);
        slotOdds(least, 0, 1, 1, 1, 300);
    }

    private static void shakesNeverAndAlways() {
        String tail = " red at 0;person b red at 2;quarrel a b;turn l 1 2 3 4 0";
        StreetTube never = check.told("tube mirrors 2 slots 5 shakes 0;person a" + tail, 2);
        StreetTube always = check.told("tube mirrors 2 slots 5 shakes 100;person a" + tail, 2);
        for (int n = 0; n <= 5; n++) {
            odds(never, 0, 1, n, 0, 1);
            slotOdds(never, 0, 0, n, 1, 1);
            mean(never, n, 0, 1);
            check.fine("shaken never", never, never.shaken(0, 65536 - n, 12 * n), 0);
            // a goes round, b two ahead: beside each other never, for 3 and 0, 4 and 1 aren't
            odds(always, 0, 1, n, 0, 1);
            slotOdds(always, 0, n % 5, n, 1, 1);
            slotOdds(always, 1, (n + 2) % 5, n, 1, 1);
            slotOdds(always, 0, (n + 1) % 5, n, 0, 1);
            check.fine("shaken always", always, always.shaken(0, 1000 * n, 12 * n), 12 * n % 5);
        }
    }

    private static void slotOddsMakeOne() {
        StreetTube x = check.told(FIVE, 3);
        for (int n = 0; n <= 5; n++) {
            long whole = 1;
            for (int i = 0; i < n; i++) {
                whole *= 200;
            }
            for (int p = 0; p < 3; p++) {
                long sum = 0;
                for (int k = 0; k < 5; k++) {
                    sum += x.slotOdds(p, k, n, false) * (whole / x.slotOdds(p, k, n, true));
                }
                check.due("slotOdds of " + p + " behind " + n, sum, whole);
            }
        }
    }

    private static void meanOfNoneAndAll() {
        StreetTube none = check.told(FIVE, 3);
        mean(none, 0, 0, 1);
        mean(none, 5, 0, 1);
        String foes = ";quarrel a b;quarrel b c;quarrel c d;quarrel d e;quarrel e f";
        StreetTube all = check.told(SIX + foes + ";turn o 5 4 3 2 1 0", 6);
        mean(all, 0, 5, 1);
        mean(all, 5, 5, 1);
        // going round parts one pair at a time, but f and a, who don't quarrel, come together
        StreetTube round = check.told(SIX.replace("shakes 25", "shakes 50") + foes + ";turn l 1 2 3 4 5 0", 6);
        mean(round, 1, 9, 2);
        mean(round, 2, 17, 4);
        StreetTube six = check.told(SIX + foes + ";quarrel f a;turn l 1 2 3 4 5 0", 6);
        mean(six, 0, 5, 1);
        mean(six, 5, 5, 1);
        check.refused("mean(6)", all, all.mean(6, true), 2);
        check.refused("mean(-1)", all, all.mean(-1, false), 2);
    }

    private static void seedsFromNoneToTheHighest() {
        // 65,536 becomes 65,536 again: 36 of a hundred, each time
        StreetTube x = check.told(SIX.replace("shakes 25", "shakes 37") + ";turn l 1 2 3 4 5 0", 6);
        for (int n = 0; n <= 60; n++) {
            check.fine("shaken(0, 65536, " + n + ")", x, x.shaken(0, 65536, n), n % 6);
            check.fine("shaken(5, 65536, " + n + ")", x, x.shaken(5, 65536, n), (n + 5) % 6);
        }
        check.refused("shaken(0, 65536, 61)", x, x.shaken(0, 65536, 61), 2);
        check.refused("shaken(0, 65537, 0)", x, x.shaken(0, 65537, 0), 2);
        check.fine("shaken(0, 0, 0)", x, x.shaken(0, 0, 0), 0);
        check.refused("shaken(0, -1, 0)", x, x.shaken(0, -1, 0), 2);
        StreetTube not = check.told(SIX.replace("shakes 25", "shakes 36") + ";turn l 1 2 3 4 5 0", 6);
        check.fine("36 isn't below 36", not, not.shaken(0, 65536, 60), 0);
    }

    /** A seed's first draw, of a hundred: below shakes it does, at shakes it doesn't. */
    private static void drawsBelowShakes() {
        int[][] seedsAndDraws = {{0, 74}, {45438, 0}, {25340, 1}, {21846, 99}, {1748, 0}, {43693, 99}, {20097, 35}, {65536, 36}, {873, 12}};
        for (int[] pair : seedsAndDraws) {
            for (int shakes = Math.max(0, pair[1] - 1); shakes <= Math.min(100, pair[1] + 2); shakes++) {
                StreetTube x = check.told(SIX.replace("shakes 25", "shakes " + shakes) + ";turn l 1 2 3 4 5 0", 6);
                check.fine("shaken(0, " + pair[0] + ", 1) by " + shakes, x, x.shaken(0, pair[0], 1), pair[1] < shakes ? 1 : 0);
            }
        }
    }

    /** A seed becomes 75 times it and 74, less 65,537 as often as can be; each draw goes on from the last. */
    private static void drawsGoRound() {
        StreetTube x = check.told(SIX.replace("shakes 25", "shakes 60") + ";turn l 1 2 3 4 5 0;turn m 5 0 1 2 3 4", 6);
        for (int seed = 0; seed <= 65536; seed += 4096) {
            long drawn = seed;
            int slot = 0;
            for (int n = 1; n <= 6; n++) {
                drawn = (75 * drawn + 74) % 65537;
                if (drawn % 100 < 60) {
                    drawn = (75 * drawn + 74) % 65537;
                    slot = drawn % 2 == 0 ? (slot + 1) % 6 : (slot + 5) % 6;
                }
                check.due("shaken(0, " + seed + ", " + n + ")", x.shaken(0, seed, n), slot);
            }
        }
    }

    private static void drawsChooseTheTurn() {
        // 0 becomes 74, which shakes, then 5,624: 0 of two, 2 of three
        String head = SIX.replace("shakes 25", "shakes 75");
        String[] turns = {";turn l 1 2 3 4 5 0", ";turn m 2 3 4 5 0 1", ";turn o 3 4 5 0 1 2"};
        StreetTube one = check.told(head + turns[0], 6);
        check.fine("of one", one, one.shaken(0, 0, 1), 1);
        StreetTube two = check.told(head + turns[0] + turns[1], 6);
        check.fine("the first of two", two, two.shaken(0, 0, 1), 1);
        StreetTube three = check.told(head + turns[0] + turns[1] + turns[2], 6);
        check.fine("the third of three", three, three.shaken(0, 0, 1), 3);
        // 65,536 stays: 0 of two, 1 of three
        check.fine("the first of two, 65536", two, two.shaken(0, 65536, 1), 1);
        check.fine("the second of three, 65536", three, three.shaken(0, 65536, 1), 2);
    }

    private static void peaceAtOnceAndAtTheLastShake() {
        String pair = "tube mirrors 2 slots 6 shakes 37;person a red at 1;person b red at 2;quarrel a b";
        StreetTube x = check.told(pair + ";turn l 1 2 3 4 5 0", 2);
        check.fine("peaceIn(65536, 0)", x, x.peaceIn(65536, 0), -2);
        check.fine("peaceIn(65536, 3)", x, x.peaceIn(65536, 3), -2);
        check.fine("peaceIn(65536, 4)", x, x.peaceIn(65536, 4), 4);
        check.fine("peaceIn(65536, 60)", x, x.peaceIn(65536, 60), 4);
        x.move(0, 5);
        check.fine("peaceIn() at once", x, x.peaceIn(65536, 0), 0);
        check.fine("peaceIn() at once of 60", x, x.peaceIn(0, 60), 0);
        // 183: the 60th draw is the first of a hundred that is 0
        StreetTube late = check.told(pair.replace("shakes 37", "shakes 1") + ";turn t 0 5 2 3 4 1;turn u 0 4 2 3 1 5", 2);
        check.fine("peaceIn(183, 60)", late, late.peaceIn(183, 60), 60);
        check.fine("peaceIn(183, 59)", late, late.peaceIn(183, 59), -2);
        check.refused("peaceIn(183, 61)", late, late.peaceIn(183, 61), 2);
        StreetTube never = check.told(pair.replace("shakes 37", "shakes 0") + ";turn l 1 2 3 4 5 0", 2);
        check.fine("peaceIn() of no shakes", never, never.peaceIn(0, 60), -2);
        StreetTube calm = check.told(FIVE, 3);
        check.fine("peaceIn() of no quarrels", calm, calm.peaceIn(65536, 0), 0);
    }

    private static void shakesLeaveTheStreet() {
        StreetTube x = check.told(SIX.replace("shakes 25", "shakes 100") + ";turn l 1 2 3 4 5 0;quarrel a b", 6);
        StreetTube twin = check.told(SIX.replace("shakes 25", "shakes 100") + ";turn l 1 2 3 4 5 0;quarrel a b", 6);
        x.shaken(0, 7, 59);
        x.peaceIn(7, 60);
        x.odds(0, 1, 5, true);
        x.slotOdds(0, 1, 5, true);
        x.mean(5, true);
        x.gets(0, 1, 5);
        x.getsBy(0, 1, 5);
        check.due("shakes are no acts", x.size(9), 0);
        check.due("all is as it was", Whole.asked(x).equals(Whole.asked(twin)), true);
    }
}
