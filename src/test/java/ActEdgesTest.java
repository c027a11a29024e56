import java.util.function.Consumer;
import java.util.function.ToLongFunction;

/** Promises 57 to 65 at their bounds: the 16 acts, the 3 images, the numbers of TROUBLE. */
public final class ActEdgesTest {
    private static final String SIX = "tube mirrors 2 slots 6 shakes 50;person a red at 0;person b blue at 1"
            + ";person c green at 2;person d red at 3;person e red at 4;person f red at 5"
            + ";turn l 1 2 3 4 5 0;turn r 1 2 0 3 4 5;turn n 0 1 2 3 4 5;quarrel a b;wants a b;unsure a 1";
    private static final String TWO = "tube mirrors 2 slots 4 shakes 50;person a red at 0;person b blue at 1"
            + ";turn l 1 2 3 0;turn s 1 0 2 3;quarrel a b";

    private static Check check;

    public static void main(String[] args) {
        check = new Check();
        turnMovesNobodyOrAll();
        turnBackIsTheOtherWay();
        moveToTheFirstAndTheLastSlot();
        moveOnlyIntoAnEmptySlot();
        undoOfEachAct();
        sixteenActsAreKept();
        theSeventeenthPushesTheFirstOut();
        eachUndoIsOfTheLatest();
        refusedCallsAreNoActs();
        imagesAreThree();
        goneBackNothingCanBeUndone();
        imagesStayBehindUndoAndBack();
        ledNobodyAndAll();
        sizeOfEachThing();
        acceptedCallsClearTrouble();
        otherCallsLeaveTrouble();
        eachNumberOfTrouble();
        check.end();
    }

    private static boolean standsAt(StreetTube x, int... slots) {
        for (int p = 0; p < slots.length; p++) {
            if (x.person(p, 1) != slots[p]) {
                return false;
            }
        }
        return true;
    }

    private static void turnMovesNobodyOrAll() {
        StreetTube x = check.told(SIX, 6);
        check.fine("turn(2) moves nobody", x, x.turn(2), 0);
        check.due("it is an act", x.size(9), 1);
        check.fine("turn(0) moves all", x, x.turn(0), 63);
        check.due("at once, the last comes round", standsAt(x, 1, 2, 3, 4, 5, 0), true);
        check.fine("turn(1) moves three", x, x.turn(1), 1 | 2 | 32);
        check.due("three go round", standsAt(x, 2, 0, 3, 4, 5, 1), true);
        check.due("acts", x.size(9), 3);
    }

    private static void turnBackIsTheOtherWay() {
        StreetTube x = check.told(SIX, 6);
        check.fine("turnBack(2) moves nobody", x, x.turnBack(2), 0);
        check.fine("turnBack(0) moves all", x, x.turnBack(0), 63);
        check.due("the first comes round", standsAt(x, 5, 0, 1, 2, 3, 4), true);
        check.fine("turn(0) takes it back", x, x.turn(0), 63);
        check.fine("turnBack(1) moves three", x, x.turnBack(1), 7);
        check.due("three go round", standsAt(x, 2, 0, 1, 3, 4, 5), true);
        check.due("acts", x.size(9), 4);
    }

    private static void moveToTheFirstAndTheLastSlot() {
        StreetTube x = check.told(TWO, 2);
        check.fine("move(0, 3)", x, x.move(0, 3), 0);
        check.fine("move(1, 0)", x, x.move(1, 0), 1);
        check.fine("move(0, 1)", x, x.move(0, 1), 3);
        check.due("they are there", standsAt(x, 1, 0), true);
        check.due("the last slot is empty", x.slot(3), -2);
        check.due("slots as told stay", x.person(0, 4), 0);
    }

    private static void moveOnlyIntoAnEmptySlot() {
        StreetTube x = check.told(SIX, 6);
        for (int p = 0; p < 6; p++) {
            for (int k = 0; k < 6; k++) {
                check.refused("move(" + p + ", " + k + ") of a full street", x, x.move(p, k), 5);
            }
        }
        check.due("nobody moved", standsAt(x, 0, 1, 2, 3, 4, 5), true);
        check.due("no act", x.size(9), 0);
        StreetTube y = check.told(TWO, 2);
        check.refused("move(0, 0), he is there", y, y.move(0, 0), 5);
        check.refused("move(0, 1), the other is there", y, y.move(0, 1), 5);
        check.fine("move(0, 2)", y, y.move(0, 2), 0);
        check.fine("move(1, 0), whom he left", y, y.move(1, 0), 1);
    }

    private static void undoOfEachAct() {
        StreetTube x = check.told(TWO, 2);
        check.refused("undo() of nothing", x, x.undo() ? 1 : 0, 0, 6);
        x.turn(0);
        check.fine("undo() of a turn", x, x.undo() ? 1 : 0, 1);
        check.due("as it was", standsAt(x, 0, 1), true);
        check.refused("undo() of no more", x, x.undo() ? 1 : 0, 0, 6);
        x.turnBack(0);
        check.fine("undo() of a turn back", x, x.undo() ? 1 : 0, 1);
        check.due("as it was", standsAt(x, 0, 1), true);
        x.move(0, 3);
        check.fine("undo() of a move", x, x.undo() ? 1 : 0, 1);
        check.due("as it was", standsAt(x, 0, 1), true);
        check.due("nothing left", x.size(9), 0);
    }

    private static void sixteenActsAreKept() {
        StreetTube x = check.told(SIX, 6);
        for (int i = 0; i < 16; i++) {
            x.turn(0);
        }
        check.due("16 can be undone", x.size(9), 16);
        for (int i = 0; i < 16; i++) {
            check.fine("undo()", x, x.undo() ? 1 : 0, 1);
        }
        check.due("all is undone", standsAt(x, 0, 1, 2, 3, 4, 5), true);
        check.refused("undo() of no more", x, x.undo() ? 1 : 0, 0, 6);
    }

    private static void theSeventeenthPushesTheFirstOut() {
        StreetTube x = check.told(SIX, 6);
        // the first act differs from the others, so that the one that is lost can be told
        x.turn(1);
        for (int i = 0; i < 16; i++) {
            x.turn(0);
            check.due("that can be undone", x.size(9), Math.min(16, i + 2));
        }
        for (int i = 0; i < 16; i++) {
            check.fine("undo()", x, x.undo() ? 1 : 0, 1);
        }
        check.refused("undo() of the first", x, x.undo() ? 1 : 0, 0, 6);
        check.due("the first stays done", standsAt(x, 1, 2, 0, 3, 4, 5), true);
        x.turn(0);
        check.due("one can be undone", x.size(9), 1);
    }

    /** Forty acts of all sorts, then undone: each of the latest 16 is taken back to where they were. */
    private static void eachUndoIsOfTheLatest() {
        for (int acts = 15; acts <= 40; acts++) {
            StreetTube x = check.told(TWO, 2);
            int[][] stands = new int[acts + 1][];
            for (int i = 0; i < acts; i++) {
                stands[i] = new int[] {x.person(0, 1), x.person(1, 1)};
                act(x, i);
            }
            int kept = Math.min(16, acts);
            for (int i = 1; i <= kept; i++) {
                check.due("undo()", x.undo(), true);
                check.due("as it was ahead of it", standsAt(x, stands[acts - i]), true);
            }
            check.refused("undo() of no more", x, x.undo() ? 1 : 0, 0, 6);
            check.due("nobody slid", standsAt(x, stands[acts - kept]), true);
        }
    }

    /** Turns, turns back, or moves b behind a by two; a move may be refused, then a turn is done. */
    private static void act(StreetTube x, int i) {
        if (i % 5 == 3 && x.move(1, (x.person(0, 1) + 2) % 4) != -1) {
            return;
        }
        if (i % 3 == 1) {
            x.turnBack(0);
        } else {
            x.turn(i % 7 == 2 ? 1 : 0);
        }
    }

    private static void refusedCallsAreNoActs() {
        StreetTube x = check.told(TWO, 2);
        x.turn(1);
        x.turn(2);
        x.turnBack(-1);
        x.move(0, 0);
        x.move(2, 3);
        x.back(0);
        check.due("one act", x.size(9), 1);
        check.fine("undo()", x, x.undo() ? 1 : 0, 1);
        check.due("as it was", standsAt(x, 0, 1), true);
    }

    private static void imagesAreThree() {
        StreetTube x = check.told(TWO, 2);
        for (int image = 0; image < 3; image++) {
            check.refused("back(" + image + ") ahead of it", x, x.back(image) ? 1 : 0, 0, 1);
            check.fine("keep()", x, x.keep(), image);
            check.due("images", x.size(10), image + 1);
            x.turn(0);
        }
        check.refused("keep() the fourth", x, x.keep(), 3);
        check.due("three images", x.size(10), 3);
        check.refused("back(3)", x, x.back(3) ? 1 : 0, 0, 1);
        check.due("keep() is no act", x.size(9), 3);
        check.fine("back(0)", x, x.back(0) ? 1 : 0, 1);
        check.due("the first image", standsAt(x, 0, 1), true);
        check.fine("back(2)", x, x.back(2) ? 1 : 0, 1);
        check.due("the third image", standsAt(x, 2, 3), true);
        check.refused("keep() the fourth, gone back", x, x.keep(), 3);
    }

    private static void goneBackNothingCanBeUndone() {
        StreetTube x = check.told(TWO, 2);
        x.turn(0);
        x.keep();
        x.turn(0);
        check.due("two acts", x.size(9), 2);
        check.fine("back(0)", x, x.back(0) ? 1 : 0, 1);
        check.due("no act", x.size(9), 0);
        check.refused("undo()", x, x.undo() ? 1 : 0, 0, 6);
        check.due("as by the image", standsAt(x, 1, 2), true);
        x.move(0, 0);
        check.due("an act", x.size(9), 1);
        check.fine("undo()", x, x.undo() ? 1 : 0, 1);
        check.due("as by the image", standsAt(x, 1, 2), true);
        // to where they are already: nothing can be undone then, too
        x.turn(0);
        x.turnBack(0);
        check.fine("back(0) to the same", x, x.back(0) ? 1 : 0, 1);
        check.due("no act", x.size(9), 0);
    }

    private static void imagesStayBehindUndoAndBack() {
        StreetTube x = check.told(TWO, 2);
        x.turn(0);
        x.keep();
        x.undo();
        check.due("an image stays behind undo()", x.size(10), 1);
        check.fine("back(0)", x, x.back(0) ? 1 : 0, 1);
        check.due("as by the image", standsAt(x, 1, 2), true);
        check.due("an image stays behind back()", x.size(10), 1);
        x.turn(0);
        check.fine("keep()", x, x.keep(), 1);
        check.fine("back(0) again", x, x.back(0) ? 1 : 0, 1);
        check.fine("back(1)", x, x.back(1) ? 1 : 0, 1);
        check.due("as by the second", standsAt(x, 2, 3), true);
        check.due("both stay", x.size(10), 2);
    }

    private static void ledNobodyAndAll() {
        StreetTube x = check.told(SIX, 6);
        check.noLed("led(0) of nobody", x, 0);
        x.turn(0);
        for (int i = 0; i < 6; i++) {
            check.due("led(" + i + ") of all", x.led(i), i);
        }
        for (int i : new int[] {6, 7, -1, -2, -6, Integer.MIN_VALUE, Integer.MAX_VALUE}) {
            check.noLed("led(" + i + ")", x, i);
        }
        x.turnBack(0);
        check.noLed("led(0) of all back", x, 0);
        StreetTube y = check.told(TWO, 2);
        y.move(1, 2);
        check.due("led(0) of the second", y.led(0), 1);
        check.noLed("led(1) of the second", y, 1);
        y.move(1, 1);
        check.noLed("led(0) of one who is back", y, 0);
    }

    private static void sizeOfEachThing() {
        StreetTube x = check.told(SIX + ";quarrel a c;shuns a b;wants c d;unsure b 0;unsure c 0;seen a b far;seen c d far"
                + ";seen a b far;seen c d far", 6);
        x.turn(0);
        x.turn(0);
        x.keep();
        x.feed(0, 0, 0, 0, 0);
        int[] due = {2, 6, 50, 6, 3, 2, 3, 3, 4, 2, 1, 20};
        for (int what = 0; what < due.length; what++) {
            check.due("size(" + what + ")", x.size(what), due[what]);
        }
        for (int what : new int[] {-1, 12, 13, Integer.MIN_VALUE, Integer.MAX_VALUE}) {
            check.due("size(" + what + ")", x.size(what), -1);
            check.due("size(" + what + ") without a tube", new StreetTube().size(what), -1);
        }
        check.due("bytes of the tape without a tube", fed().size(11), 20);
    }

    private static StreetTube fed() {
        StreetTube x = new StreetTube();
        x.feed(0, 0, 0, 0, 0);
        return x;
    }

    private static void accepted(String what, ToLongFunction<StreetTube> call) {
        StreetTube x = check.told(SIX, 6);
        x.turn(0);
        x.keep();
        check.refused("a refusal", x, x.slot(99), 1);
        long answer = call.applyAsLong(x);
        check.due(what + " answers", answer != -1 && answer != -100, true);
        check.due("trouble() behind " + what, x.trouble(), 0);
    }

    private static void acceptedCallsClearTrouble() {
        accepted("tube", x -> Check.tell(x, TWO));
        accepted("person", x -> x.person(0, 0));
        accepted("slot", x -> x.slot(0));
        accepted("turned", x -> x.turned(0, 0));
        accepted("quarrels", x -> x.quarrels());
        accepted("met", x -> x.met());
        accepted("ring", x -> x.ring(0));
        accepted("truth", x -> x.truth(0));
        accepted("image", x -> x.image(0, 0));
        accepted("selves", x -> x.selves());
        accepted("near", x -> x.near(0, 1));
        accepted("seenIn", x -> x.seenIn(0));
        accepted("slides", x -> x.slides(0, 1, 1));
        accepted("round", x -> x.round(1, 1));
        accepted("even", x -> x.even(1, 1));
        accepted("fixes", x -> x.fixes(1, 1));
        accepted("commute", x -> x.commute(0, 1));
        accepted("undoing", x -> x.undoing(1, 1));
        accepted("reach", x -> x.reach());
        accepted("deepest", x -> x.deepest());
        accepted("evens", x -> x.evens());
        accepted("orbit", x -> x.orbit(0));
        accepted("keeps", x -> x.keeps(0));
        accepted("pairs", x -> x.pairs());
        accepted("centre", x -> x.centre());
        accepted("errand", x -> x.errand());
        accepted("peace", x -> x.peace());
        accepted("peaceAt", x -> x.peaceAt(0));
        accepted("bring", x -> x.bring(0, 0));
        accepted("calmest", x -> x.calmest());
        accepted("colourings", x -> x.colourings(2));
        accepted("mirrored", x -> x.mirrored(2));
        accepted("necklaces", x -> x.necklaces(2, 2));
        accepted("bracelets", x -> x.bracelets(2, 2));
        accepted("fits", x -> x.fits());
        accepted("fitAt", x -> x.fitAt(0));
        accepted("could", x -> x.could());
        accepted("surely", x -> x.surely());
        accepted("ask", x -> x.ask());
        accepted("askLeaves", x -> x.askLeaves());
        accepted("judge", x -> x.judge());
        accepted("gets", x -> x.gets(0, 1, 1));
        accepted("getsBy", x -> x.getsBy(0, 1, 1));
        accepted("looks", x -> x.looks(0, true, true, true));
        accepted("rests", x -> x.rests(0));
        accepted("rest", x -> x.rest(0));
        accepted("odds", x -> x.odds(0, 1, 1, true));
        accepted("slotOdds", x -> x.slotOdds(0, 0, 1, true));
        accepted("mean", x -> x.mean(1, true));
        accepted("shaken", x -> x.shaken(0, 0, 0));
        accepted("peaceIn", x -> x.peaceIn(0, 0));
        accepted("turn", x -> x.turn(0));
        accepted("turnBack", x -> x.turnBack(0));
        accepted("undo", x -> x.undo() ? 1 : -1);
        accepted("keep", x -> x.keep());
        accepted("back", x -> x.back(0) ? 1 : -1);
        StreetTube x = check.told(TWO + ";shuns a b", 2);
        check.refused("a refusal", x, x.slot(99), 1);
        check.fine("errandAt(0)", x, x.errandAt(0), 0);
        check.refused("a refusal", x, x.slot(99), 1);
        check.fine("move(0, 3)", x, x.move(0, 3), 0);
    }

    private static void leaves(String what, Consumer<StreetTube> call) {
        StreetTube x = check.told(TWO, 2);
        x.turn(0);
        check.refused("a refusal", x, x.move(0, 2), 5);
        call.accept(x);
        check.due("trouble() behind " + what, x.trouble(), 5);
        check.fine("an accepted call", x, x.slot(0), -2);
        call.accept(x);
        check.due("trouble() behind " + what, x.trouble(), 0);
    }

    private static void otherCallsLeaveTrouble() {
        leaves("feed", x -> x.feed(0, 0, 0, 0, 0));
        leaves("feeds that are refused", x -> {
            for (int i = 0; i < 40; i++) {
                x.feed(0, 0, 0, 0, 0);
            }
        });
        leaves("fault", x -> x.fault());
        leaves("where", x -> x.where());
        leaves("led", x -> x.led(0));
        leaves("led that throws", x -> check.noLed("led(9)", x, 9));
        leaves("size", x -> x.size(0));
        leaves("size of none such", x -> x.size(12));
        leaves("trouble", x -> x.trouble());
    }

    private static void eachNumberOfTrouble() {
        StreetTube x = check.told(TWO, 2);
        check.due("trouble() behind a good tube", x.trouble(), 0);
        check.refused("there is none such", x, x.slot(4), 1);
        check.refused("a number", x, x.colourings(0), 2);
        x.keep();
        x.keep();
        x.keep();
        check.refused("no room", x, x.keep(), 3);
        check.refused("a FAULT", x, x.tube(0), 4);
        check.refused("not so", x, x.move(0, 0), 5);
        check.refused("there is none", x, x.undo() ? 1 : 0, 0, 6);
        check.due("trouble() asked again", x.trouble(), 6);
        check.fine("it wasn't", x, x.slot(0), 0);
    }
}
