/** Promises 6 to 16: who is where now, and what is seen in the ring. */
public final class NowAndRingTest {
    private static final String TEXT = "tube mirrors 2 slots 4 shakes 50"
            + ";person a red at 0;person b blue at 1;person c green at 3"
            + ";turn l 1 2 3 0;turn s 1 0 2 3"
            + ";quarrel a b;quarrel c b;wants a c;shuns a b;wants b a;shuns c a";

    public static void main(String[] args) {
        Check check = new Check();
        person(check);
        slotAndTurned(check);
        quarrelsAndMet(check);
        ringAndTruth(check);
        imageAndSelves(check);
        nearAndSeenIn(check);
        check.end();
    }

    private static void person(Check check) {
        StreetTube x = check.told(TEXT, 3);
        int[][] due = {{0, 0, 2, 2, 0}, {1, 1, 1, 5, 1}, {2, 3, 0, 2, 3}};
        for (int p = 0; p < 3; p++) {
            for (int what = 0; what < 5; what++) {
                check.fine("person(" + p + ", " + what + ")", x, x.person(p, what), due[p][what]);
            }
        }
        check.refused("person(3, 0)", x, x.person(3, 0), 1);
        check.refused("person(-1, 0)", x, x.person(-1, 0), 1);
        check.refused("person(0, 5)", x, x.person(0, 5), 1);
        check.refused("person(0, -1)", x, x.person(0, -1), 1);
        x.move(2, 2);
        check.fine("slot now", x, x.person(2, 1), 2);
        check.fine("slot as told", x, x.person(2, 4), 3);
        check.fine("beside b", x, x.person(1, 2), 5);
    }

    private static void slotAndTurned(Check check) {
        StreetTube x = check.told(TEXT, 3);
        int[] who = {0, 1, -2, 2};
        for (int k = 0; k < 4; k++) {
            check.fine("slot(" + k + ")", x, x.slot(k), who[k]);
            check.fine("turned(0, " + k + ")", x, x.turned(0, k), (k + 1) % 4);
        }
        check.fine("turned(1, 1)", x, x.turned(1, 1), 0);
        check.refused("slot(4)", x, x.slot(4), 1);
        check.refused("slot(-1)", x, x.slot(-1), 1);
        check.refused("turned(2, 0)", x, x.turned(2, 0), 1);
        check.refused("turned(-1, 0)", x, x.turned(-1, 0), 1);
        check.refused("turned(0, 4)", x, x.turned(0, 4), 1);
        check.refused("turned(0, -1)", x, x.turned(0, -1), 1);
    }

    private static void quarrelsAndMet(Check check) {
        StreetTube x = check.told(TEXT, 3);
        check.fine("quarrels()", x, x.quarrels(), 1);
        check.fine("met()", x, x.met(), 4 | 8);
        x.move(2, 2);
        check.fine("quarrels() of a b c", x, x.quarrels(), 2);
        x.turn(0);
        x.turn(0);
        // c a b are in slots 0, 2, 3
        check.fine("quarrels() turned", x, x.quarrels(), 1);
        check.fine("met() turned", x, x.met(), 4 | 8);
        x.turn(1);
        // c in 1, a in 2
        check.fine("met() with c beside a", x, x.met(), 1 | 4);
        StreetTube none = check.told("tube mirrors 2 slots 2 shakes 0;person a red at 0;turn t 1 0", 1);
        check.fine("quarrels() of none", none, none.quarrels(), 0);
        check.fine("met() of none", none, none.met(), 0);
        StreetTube empty = new StreetTube();
        check.refused("quarrels()", empty, empty.quarrels(), 1);
        check.refused("met()", empty, empty.met(), 1);
    }

    private static void ringAndTruth(Check check) {
        StreetTube x = check.told(TEXT, 3);
        int[] slots = {0, 1, 2, 3, 3, 2, 1, 0, 0, 1, 2, 3, 3, 2, 1, 0};
        int[] who = {0, 1, -2, 2};
        for (int i = 0; i < 16; i++) {
            check.fine("truth(" + i + ")", x, x.truth(i), slots[i]);
            check.fine("ring(" + i + ")", x, x.ring(i), who[slots[i]]);
        }
        for (int i : new int[] {-1, 16, Integer.MAX_VALUE, Integer.MIN_VALUE}) {
            check.refused("truth(" + i + ")", x, x.truth(i), 1);
            check.refused("ring(" + i + ")", x, x.ring(i), 1);
        }
        StreetTube empty = new StreetTube();
        check.refused("ring(0)", empty, empty.ring(0), 1);
        check.refused("truth(0)", empty, empty.truth(0), 1);
    }

    private static void imageAndSelves(Check check) {
        StreetTube x = check.told(TEXT, 3);
        int[][] due = {{0, 7, 8, 15}, {1, 6, 9, 14}, {3, 4, 11, 12}};
        for (int p = 0; p < 3; p++) {
            for (int i = 0; i < 4; i++) {
                check.fine("image(" + p + ", " + i + ")", x, x.image(p, i), due[p][i]);
            }
        }
        check.refused("image(0, 4)", x, x.image(0, 4), 1);
        check.refused("image(0, -1)", x, x.image(0, -1), 1);
        check.refused("image(3, 0)", x, x.image(3, 0), 1);
        check.refused("image(-1, 0)", x, x.image(-1, 0), 1);
        check.fine("selves()", x, x.selves(), 5);
        x.move(2, 2);
        check.fine("selves() with slot 3 empty", x, x.selves(), 1);
        StreetTube empty = new StreetTube();
        check.refused("selves()", empty, empty.selves(), 1);
        check.refused("image(0, 0)", empty, empty.image(0, 0), 1);
    }

    private static void nearAndSeenIn(Check check) {
        StreetTube x = check.told(TEXT, 3);
        check.fine("near(0, 1)", x, x.near(0, 1), 1);
        check.fine("near(1, 0)", x, x.near(1, 0), 1);
        check.fine("near(0, 2)", x, x.near(0, 2), 3);
        check.fine("near(1, 2)", x, x.near(1, 2), 2);
        check.refused("near(1, 1)", x, x.near(1, 1), 1);
        check.refused("near(1, 3)", x, x.near(1, 3), 1);
        check.refused("near(-1, 0)", x, x.near(-1, 0), 1);
        for (int colour = 0; colour < 3; colour++) {
            check.fine("seenIn(" + colour + ")", x, x.seenIn(colour), 4);
        }
        check.refused("seenIn(3)", x, x.seenIn(3), 1);
        check.refused("seenIn(-1)", x, x.seenIn(-1), 1);
        StreetTube nine = check.told("tube mirrors 9 slots 6 shakes 0;person a red at 2;person b red at 5;turn t 0 1 2 3 4 5", 2);
        check.fine("seenIn(0) of two", nine, nine.seenIn(0), 36);
        check.fine("seenIn(1) of none", nine, nine.seenIn(1), 0);
        check.fine("near(0, 1) of nine mirrors", nine, nine.near(0, 1), 3);
        check.fine("the last place", nine, nine.truth(107), 0);
        check.refused("behind the last place", nine, nine.truth(108), 1);
        StreetTube empty = new StreetTube();
        check.refused("seenIn(0)", empty, empty.seenIn(0), 1);
        check.refused("near(0, 1)", empty, empty.near(0, 1), 1);
    }
}
