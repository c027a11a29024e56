/** Promises 40 to 56: unsure slots, two by turns, looks and blinks, shakes. */
public final class ChanceTest {
    private static final String FIVE = "tube mirrors 2 slots 5 shakes 25"
            + ";person a red at 0;person b blue at 1;person c green at 3;turn l 1 2 3 4 0;turn s 1 0 2 3 4";

    public static void main(String[] args) {
        Check check = new Check();
        fits(check);
        noFits(check);
        judge(check);
        gets(check);
        looks(check);
        rests(check);
        odds(check);
        mean(check);
        draws(check);
        withoutTube(check);
        check.end();
    }

    private static void fits(Check check) {
        // a 0 or 4, c 3 or 2, b 1 or 1
        StreetTube x = check.told(FIVE + ";unsure a 4;unsure c 2;unsure b 1;seen b c far", 3);
        // c stays in slot 3: all sets without bit 1
        check.fine("fits()", x, x.fits(), 4);
        int[] due = {0, 1, 4, 5};
        for (int i = 0; i < 4; i++) {
            check.fine("fitAt(" + i + ")", x, x.fitAt(i), due[i]);
        }
        check.refused("fitAt(4)", x, x.fitAt(4), 1);
        check.refused("fitAt(-1)", x, x.fitAt(-1), 1);
        check.fine("could()", x, x.could(), 5);
        check.fine("surely()", x, x.surely(), 0);
        check.fine("ask()", x, x.ask(), 0);
        check.fine("askLeaves()", x, x.askLeaves(), 2);
        x.turn(0);
        check.fine("fits() is of at first", x, x.fits(), 4);
        // two into one slot don't fit; b must be moved, which then is sure
        StreetTube y = check.told(FIVE + ";unsure a 2;unsure b 2;seen b c beside", 3);
        check.fine("fits() of one slot", y, y.fits(), 1);
        check.fine("fitAt(0) of one slot", y, y.fitAt(0), 2);
        check.fine("could() of one slot", y, y.could(), 2);
        check.fine("surely() of one slot", y, y.surely(), 2);
        check.fine("ask() of one slot", y, y.ask(), 0);
        check.fine("askLeaves() of one slot", y, y.askLeaves(), 1);
        // {}, {c}, {a, b}, and {a, b, c}, but a in 1 needs b away, and b in 0 needs a away
        StreetTube z = check.told(FIVE + ";unsure c 4;unsure a 1;unsure b 0", 3);
        check.fine("fits() of a change of two", z, z.fits(), 4);
        check.fine("fitAt(1) of a change of two", z, z.fitAt(1), 1);
        check.fine("fitAt(2) of a change of two", z, z.fitAt(2), 6);
        check.fine("fitAt(3) of a change of two", z, z.fitAt(3), 7);
        StreetTube w = check.told(FIVE + ";unsure c 4", 3);
        check.fine("fits() of one", w, w.fits(), 2);
        check.fine("askLeaves() of one", w, w.askLeaves(), 1);
        // sets {}, {b}, {c}, {b, c} less those with c beside b: b 1 or 4, c 3 or 2
        StreetTube v = check.told(FIVE + ";unsure b 4;unsure c 2;seen b c far", 3);
        check.fine("fits() of b and c", v, v.fits(), 2);
        check.fine("fitAt(0) of b and c", v, v.fitAt(0), 0);
        check.fine("fitAt(1) of b and c", v, v.fitAt(1), 3);
        // the second one halves more: a's other slot is taken, so only c is open
        StreetTube u = check.told(FIVE + ";unsure a 1;unsure c 4", 3);
        check.fine("fits() of a taken slot", u, u.fits(), 2);
        check.fine("ask() of the second", u, u.ask(), 1);
        check.fine("askLeaves() of the second", u, u.askLeaves(), 1);
    }

    private static void noFits(Check check) {
        StreetTube x = check.told(FIVE + ";unsure a 4;seen a b beside;seen a b far", 3);
        check.fine("fits()", x, x.fits(), 0);
        check.refused("fitAt(0)", x, x.fitAt(0), 1);
        check.fine("could()", x, x.could(), 0);
        check.fine("surely()", x, x.surely(), 0);
        check.fine("ask()", x, x.ask(), -2);
        check.fine("askLeaves()", x, x.askLeaves(), -2);
        StreetTube sure = check.told(FIVE + ";seen a b beside", 3);
        check.fine("fits() with nobody unsure", sure, sure.fits(), 1);
        check.fine("fitAt(0) with nobody unsure", sure, sure.fitAt(0), 0);
        check.fine("ask() with nobody unsure", sure, sure.ask(), -2);
        check.fine("askLeaves() with nobody unsure", sure, sure.askLeaves(), -2);
    }

    private static void judge(Check check) {
        StreetTube x = check.told(FIVE + ";seen a b beside;seen b c far;seen c a beside;seen a b far", 3);
        check.fine("judge()", x, x.judge(), 2);
        StreetTube y = check.told(FIVE + ";seen b a far", 3);
        check.fine("judge() of the first", y, y.judge(), 0);
        y.move(0, 4);
        check.fine("judge() is by slots as told", y, y.judge(), 0);
        StreetTube z = check.told(FIVE + ";seen b a beside", 3);
        check.fine("judge() of none", z, z.judge(), -2);
        z.move(0, 4);
        check.fine("judge() of none, moved", z, z.judge(), -2);
    }

    private static void gets(Check check) {
        StreetTube x = check.told(FIVE, 3);
        check.fine("gets(0, 1, 0)", x, x.gets(0, 1, 0), 1);
        check.fine("gets(0, 2, 0)", x, x.gets(0, 2, 0), 0);
        // a to slot 1, c to 4 by l; a to 1 by s; none brings them together
        check.fine("gets(0, 2, 1)", x, x.gets(0, 2, 1), 0);
        check.fine("getsBy(0, 2, 1)", x, x.getsBy(0, 2, 1), -2);
        check.fine("getsBy(0, 1, 1)", x, x.getsBy(0, 1, 1), -2);
        x.turn(0);
        // a 1, b 2, c 4: by l c comes to 0, a to 2; by s a comes to 0
        check.fine("gets(0, 2, 1) turned", x, x.gets(0, 2, 1), 0);
        check.fine("gets(1, 2, 1) turned", x, x.gets(1, 2, 1), 0);
        x.undo();
        // a in 0, c in 4: by l they come to 1 and 0
        x.move(2, 4);
        check.fine("gets(0, 2, 1) of ends", x, x.gets(0, 2, 1), 1);
        check.fine("getsBy(0, 2, 1) of ends", x, x.getsBy(0, 2, 1), 0);
        StreetTube y = check.told("tube mirrors 2 slots 3 shakes 0;person a red at 0;person b red at 2"
                + ";turn t 0 1 2;turn u 0 2 1", 2);
        check.fine("getsBy(0, 1, 1) by the second", y, y.getsBy(0, 1, 1), 1);
        // the other one parts them again
        check.fine("gets(0, 1, 2)", y, y.gets(0, 1, 2), 0);
        check.fine("getsBy(0, 1, 2)", y, y.getsBy(0, 1, 2), -2);
        check.fine("gets(0, 1, 3)", y, y.gets(0, 1, 3), 1);
        // he has the last word, so none does at first, too
        check.fine("getsBy(0, 1, 3)", y, y.getsBy(0, 1, 3), -2);
        check.refused("gets(0, 0, 1)", x, x.gets(0, 0, 1), 1);
        check.refused("gets(0, 3, 9)", x, x.gets(0, 3, 9), 1);
        check.refused("gets(0, 1, 6)", x, x.gets(0, 1, 6), 2);
        check.refused("gets(0, 1, -1)", x, x.gets(0, 1, -1), 2);
        check.refused("getsBy(1, 1, 1)", x, x.getsBy(1, 1, 1), 1);
        check.refused("getsBy(-1, 1, 0)", x, x.getsBy(-1, 1, 0), 1);
        check.refused("getsBy(0, 1, 0)", x, x.getsBy(0, 1, 0), 2);
        check.refused("getsBy(0, 1, 6)", x, x.getsBy(0, 1, 6), 2);
    }

    private static void looks(Check check) {
        StreetTube x = check.told(FIVE, 3);
        for (int blue = 0; blue <= 9; blue++) {
            check.fine("looked, hoped: eye", x, x.looks(blue, true, true, false), 3);
            check.fine("looked, hoped: street", x, x.looks(blue, true, true, true), 3);
            check.fine("looked: eye", x, x.looks(blue, true, false, false), 1 - blue);
            check.fine("looked: street", x, x.looks(blue, true, false, true), 1);
            check.fine("hoped: eye", x, x.looks(blue, false, true, false), 0);
            check.fine("hoped: street", x, x.looks(blue, false, true, true), 2 - blue);
            check.fine("neither: eye", x, x.looks(blue, false, false, false), 1);
            check.fine("neither: street", x, x.looks(blue, false, false, true), 1);
        }
        check.refused("looks(-1)", x, x.looks(-1, true, true, true), -100, 2);
        check.refused("looks(10)", x, x.looks(10, false, false, false), -100, 2);
    }

    private static void rests(Check check) {
        StreetTube x = check.told(FIVE, 3);
        // blue 0: the street alone has 2 by hoping, so that neither is no rest
        check.fine("rests(0)", x, x.rests(0), 1);
        check.fine("rest(0)", x, x.rest(0), 11);
        for (int blue = 1; blue <= 9; blue++) {
            check.fine("rests(" + blue + ")", x, x.rests(blue), 2);
            check.fine("rest(" + blue + ")", x, x.rest(blue), 0);
        }
        for (int blue : new int[] {-1, 10}) {
            check.refused("rests(" + blue + ")", x, x.rests(blue), 2);
            check.refused("rest(" + blue + ")", x, x.rest(blue), 2);
        }
    }

    private static void odds(Check check) {
        StreetTube x = check.told(FIVE, 3);
        // shaken: 1/8 l, 1/8 s, 3/4 none; a and c are 3 apart, 2 by s
        check.fine("odds(0, 2, 0) upper", x, x.odds(0, 2, 0, false), 0);
        check.fine("odds(0, 2, 0) lower", x, x.odds(0, 2, 0, true), 1);
        check.fine("odds(0, 1, 0) upper", x, x.odds(0, 1, 0, false), 1);
        check.fine("odds(0, 1, 0) lower", x, x.odds(0, 1, 0, true), 1);
        check.fine("slotOdds(0, 0, 1) upper", x, x.slotOdds(0, 0, 1, false), 3);
        check.fine("slotOdds(0, 0, 1) lower", x, x.slotOdds(0, 0, 1, true), 4);
        check.fine("slotOdds(0, 1, 1) upper", x, x.slotOdds(0, 1, 1, false), 1);
        check.fine("slotOdds(0, 1, 1) lower", x, x.slotOdds(0, 1, 1, true), 4);
        check.fine("slotOdds(0, 2, 1) upper", x, x.slotOdds(0, 2, 1, false), 0);
        check.fine("slotOdds(0, 2, 1) lower", x, x.slotOdds(0, 2, 1, true), 1);
        check.fine("slotOdds(2, 4, 1) lower", x, x.slotOdds(2, 4, 1, true), 8);
        // to 5 slots, 5 shakes: l each time
        StreetTube y = check.told("tube mirrors 2 slots 6 shakes 1;person a red at 0;person b red at 5"
                + ";turn l 1 2 3 4 5 0;turn o 0 1 2 3 4 5;turn p 0 1 2 3 4 5", 2);
        check.fine("slotOdds(0, 5, 5) upper", y, y.slotOdds(0, 5, 5, false), 1);
        check.fine("slotOdds(0, 5, 5) lower", y, y.slotOdds(0, 5, 5, true), 2430000000000L);
        check.refused("odds(0, 0, 1)", x, x.odds(0, 0, 1, false), 1);
        check.refused("odds(0, 3, 9)", x, x.odds(0, 3, 9, false), 1);
        check.refused("odds(0, 1, 6)", x, x.odds(0, 1, 6, false), 2);
        check.refused("odds(0, 1, -1)", x, x.odds(0, 1, -1, true), 2);
        check.refused("slotOdds(3, 0, 1)", x, x.slotOdds(3, 0, 1, false), 1);
        check.refused("slotOdds(0, 5, 9)", x, x.slotOdds(0, 5, 9, false), 1);
        check.refused("slotOdds(0, 0, 6)", x, x.slotOdds(0, 0, 6, false), 2);
        check.refused("slotOdds(0, 0, -1)", x, x.slotOdds(0, 0, -1, true), 2);
    }

    private static void mean(Check check) {
        StreetTube none = check.told(FIVE, 3);
        check.fine("mean(5) upper of no quarrels", none, none.mean(5, false), 0);
        check.fine("mean(5) lower of no quarrels", none, none.mean(5, true), 1);
        StreetTube x = check.told(FIVE + ";quarrel a b;quarrel b c", 3);
        check.fine("mean(0) upper", x, x.mean(0, false), 1);
        check.fine("mean(0) lower", x, x.mean(0, true), 1);
        x.move(2, 2);
        // 2 in all, but 1 by s, with 1/8
        check.fine("mean(1) upper", x, x.mean(1, false), 15);
        check.fine("mean(1) lower", x, x.mean(1, true), 8);
        check.refused("mean(6)", x, x.mean(6, false), 2);
        check.refused("mean(-1)", x, x.mean(-1, true), 2);
    }

    private static void draws(Check check) {
        // seed 5 becomes 449, 49 mod 100: below 50; then 33749, odd: the second turn, if there are two
        StreetTube x = check.told("tube mirrors 2 slots 3 shakes 50;person a red at 0;person b red at 1"
                + ";turn t 1 2 0;turn u 2 0 1;quarrel a b", 2);
        check.fine("shaken(0, 5, 0)", x, x.shaken(0, 5, 0), 0);
        check.fine("shaken(0, 5, 1)", x, x.shaken(0, 5, 1), 2);
        check.fine("shaken(1, 5, 1)", x, x.shaken(1, 5, 1), 0);
        check.fine("peaceIn(5, 0)", x, x.peaceIn(5, 0), -2);
        check.fine("peaceIn(5, 1)", x, x.peaceIn(5, 1), 1);
        check.fine("peaceIn(5, 60)", x, x.peaceIn(5, 60), 1);
        // seed 1 becomes 149: 49 shakes; 11249, odd. seed 2 becomes 224: 24 shakes; 16874, even
        check.fine("shaken(0, 1, 1)", x, x.shaken(0, 1, 1), 2);
        check.fine("shaken(0, 2, 1)", x, x.shaken(0, 2, 1), 1);
        // seed 0 becomes 74: none
        check.fine("shaken(0, 0, 1)", x, x.shaken(0, 0, 1), 0);
        check.due("the street stays", x.person(0, 1), 0);
        check.due("nothing to undo", x.size(9), 0);
        check.fine("the highest seed", x, x.shaken(0, 65536, 0), 0);
        check.refused("shaken(2, 5, 1)", x, x.shaken(2, 5, 1), 1);
        check.refused("shaken(-1, -1, -1)", x, x.shaken(-1, -1, -1), 1);
        check.refused("shaken(0, -1, 1)", x, x.shaken(0, -1, 1), 2);
        check.refused("shaken(0, 65537, 1)", x, x.shaken(0, 65537, 1), 2);
        check.refused("shaken(0, 5, 61)", x, x.shaken(0, 5, 61), 2);
        check.refused("shaken(0, 5, -1)", x, x.shaken(0, 5, -1), 2);
        check.refused("peaceIn(-1, 1)", x, x.peaceIn(-1, 1), 2);
        check.refused("peaceIn(65537, 1)", x, x.peaceIn(65537, 1), 2);
        check.refused("peaceIn(5, 61)", x, x.peaceIn(5, 61), 2);
        check.refused("peaceIn(5, -1)", x, x.peaceIn(5, -1), 2);
        StreetTube calm = check.told(FIVE, 3);
        check.fine("peaceIn() of no quarrels", calm, calm.peaceIn(9, 60), 0);
    }

    private static void withoutTube(Check check) {
        StreetTube x = new StreetTube();
        check.refused("fits", x, x.fits(), 1);
        check.refused("fitAt", x, x.fitAt(0), 1);
        check.refused("could", x, x.could(), 1);
        check.refused("surely", x, x.surely(), 1);
        check.refused("ask", x, x.ask(), 1);
        check.refused("askLeaves", x, x.askLeaves(), 1);
        check.refused("judge", x, x.judge(), 1);
        check.refused("gets", x, x.gets(0, 1, 1), 1);
        check.refused("getsBy", x, x.getsBy(0, 1, 1), 1);
        check.refused("looks", x, x.looks(99, true, true, true), -100, 1);
        check.refused("rests", x, x.rests(99), 1);
        check.refused("rest", x, x.rest(99), 1);
        check.refused("odds", x, x.odds(0, 1, 1, true), 1);
        check.refused("slotOdds", x, x.slotOdds(0, 0, 1, true), 1);
        check.refused("mean", x, x.mean(99, true), 1);
        check.refused("shaken", x, x.shaken(0, 0, 0), 1);
        check.refused("peaceIn", x, x.peaceIn(-1, 0), 1);
    }
}
