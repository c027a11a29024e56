/** Promises 57 to 65: acts, what is undone and kept, what is told. */
public final class ActsTest {
    private static final String TEXT = "tube mirrors 3 slots 5 shakes 25"
            + ";person a red at 0;person b blue at 1;person c green at 3;turn l 1 2 3 4 0;turn s 1 0 2 3 4"
            + ";quarrel a b;wants a c;shuns a b;wants b c;unsure a 4;unsure b 4;seen a b far";

    public static void main(String[] args) {
        Check check = new Check();
        turns(check);
        moves(check);
        undone(check);
        sixteenAreKept(check);
        images(check);
        led(check);
        sizes(check);
        troubles(check);
        check.end();
    }

    private static void turns(Check check) {
        StreetTube x = check.told(TEXT, 3);
        check.fine("turn(0)", x, x.turn(0), 7);
        slots(check, x, 1, 2, 4);
        check.fine("turn(0) again", x, x.turn(0), 7);
        slots(check, x, 2, 3, 0);
        check.fine("turn(1)", x, x.turn(1), 4);
        slots(check, x, 2, 3, 1);
        check.fine("turnBack(0)", x, x.turnBack(0), 7);
        slots(check, x, 1, 2, 0);
        check.fine("turnBack(1)", x, x.turnBack(1), 5);
        slots(check, x, 0, 2, 1);
        check.refused("turn(2)", x, x.turn(2), 1);
        check.refused("turn(-1)", x, x.turn(-1), 1);
        check.refused("turnBack(2)", x, x.turnBack(2), 1);
        check.refused("turnBack(-1)", x, x.turnBack(-1), 1);
        slots(check, x, 0, 2, 1);
        check.due("acts", x.size(9), 5);
        StreetTube still = check.told("tube mirrors 2 slots 2 shakes 0;person a red at 0;turn t 0 1", 1);
        check.fine("turn(0) by which nobody slides", still, still.turn(0), 0);
        check.due("it is an act", still.size(9), 1);
        StreetTube empty = new StreetTube();
        check.refused("turn(0)", empty, empty.turn(0), 1);
        check.refused("turnBack(0)", empty, empty.turnBack(0), 1);
        check.refused("move(0, 0)", empty, empty.move(0, 0), 1);
    }

    private static void slots(Check check, StreetTube x, int a, int b, int c) {
        check.due("slot of a", x.person(0, 1), a);
        check.due("slot of b", x.person(1, 1), b);
        check.due("slot of c", x.person(2, 1), c);
    }

    private static void moves(Check check) {
        StreetTube x = check.told(TEXT, 3);
        check.fine("move(0, 4)", x, x.move(0, 4), 0);
        slots(check, x, 4, 1, 3);
        check.fine("move(1, 0)", x, x.move(1, 0), 1);
        slots(check, x, 4, 0, 3);
        check.refused("move(1, 3)", x, x.move(1, 3), 5);
        check.refused("move(1, 0), he is there", x, x.move(1, 0), 5);
        check.refused("move(3, 0)", x, x.move(3, 0), 1);
        check.refused("move(0, 5)", x, x.move(0, 5), 1);
        check.refused("move(-1, 0)", x, x.move(-1, 0), 1);
        check.refused("move(0, -1)", x, x.move(0, -1), 1);
        slots(check, x, 4, 0, 3);
        check.due("acts", x.size(9), 2);
    }

    private static void undone(Check check) {
        StreetTube x = check.told(TEXT, 3);
        check.refused("undo() of nothing", x, x.undo() ? 1 : 0, 0, 6);
        x.turn(0);
        x.move(0, 0);
        x.turnBack(1);
        slots(check, x, 1, 2, 4);
        check.fine("undo() of turnBack", x, x.undo() ? 1 : 0, 1);
        slots(check, x, 0, 2, 4);
        check.fine("undo() of move", x, x.undo() ? 1 : 0, 1);
        slots(check, x, 1, 2, 4);
        check.fine("undo() of turn", x, x.undo() ? 1 : 0, 1);
        slots(check, x, 0, 1, 3);
        check.refused("undo() of no more", x, x.undo() ? 1 : 0, 0, 6);
        x.turn(0);
        check.fine("undo() behind undo()", x, x.undo() ? 1 : 0, 1);
        slots(check, x, 0, 1, 3);
    }

    private static void sixteenAreKept(Check check) {
        StreetTube x = check.told(TEXT, 3);
        for (int i = 1; i <= 18; i++) {
            x.turn(0);
            check.due("acts that can be undone", x.size(9), Math.min(i, 16));
        }
        for (int i = 15; i >= 0; i--) {
            check.fine("undo()", x, x.undo() ? 1 : 0, 1);
            check.due("acts left", x.size(9), i);
        }
        // two turns stay done
        slots(check, x, 2, 3, 0);
        check.refused("undo() of the 17th", x, x.undo() ? 1 : 0, 0, 6);
    }

    private static void images(Check check) {
        StreetTube x = check.told(TEXT, 3);
        check.refused("back(0) of none", x, x.back(0) ? 1 : 0, 0, 1);
        check.fine("keep()", x, x.keep(), 0);
        x.turn(0);
        check.fine("keep() again", x, x.keep(), 1);
        x.turn(0);
        check.fine("keep() the third", x, x.keep(), 2);
        check.refused("keep() the fourth", x, x.keep(), 3);
        check.due("images", x.size(10), 3);
        check.fine("back(1)", x, x.back(1) ? 1 : 0, 1);
        slots(check, x, 1, 2, 4);
        check.due("nothing can be undone", x.size(9), 0);
        check.refused("undo()", x, x.undo() ? 1 : 0, 0, 6);
        slots(check, x, 1, 2, 4);
        check.due("images stay", x.size(10), 3);
        check.fine("back(2)", x, x.back(2) ? 1 : 0, 1);
        slots(check, x, 2, 3, 0);
        check.fine("back(0)", x, x.back(0) ? 1 : 0, 1);
        slots(check, x, 0, 1, 3);
        x.turn(1);
        check.refused("back(3)", x, x.back(3) ? 1 : 0, 0, 1);
        check.refused("back(-1)", x, x.back(-1) ? 1 : 0, 0, 1);
        check.due("a refused back leaves acts", x.size(9), 1);
        slots(check, x, 1, 0, 3);
        check.refused("keep() is full still", x, x.keep(), 3);
    }

    private static void led(Check check) {
        StreetTube x = check.told(TEXT, 3);
        check.noLed("led(0) at first", x, 0);
        x.turn(1);
        check.due("led(0)", x.led(0), 0);
        check.due("led(1)", x.led(1), 1);
        check.noLed("led(2)", x, 2);
        check.noLed("led(-1)", x, -1);
        check.noLed("led(least)", x, Integer.MIN_VALUE);
        x.turn(1);
        x.move(2, 4);
        check.due("led(0) of c", x.led(0), 2);
        check.noLed("led(1) of c", x, 1);
        check.refused("a refusal", x, x.turn(9), 1);
        check.due("led(0)", x.led(0), 2);
        check.due("trouble() isn't of led", x.trouble(), 1);
        check.noLed("led(7)", x, 7);
        check.due("trouble() isn't of led that throws", x.trouble(), 1);
        check.noLed("led(0) without a tube", new StreetTube(), 0);
    }

    private static void sizes(Check check) {
        StreetTube x = check.told(TEXT, 3);
        int[] due = {3, 5, 25, 3, 2, 1, 3, 2, 1, 0, 0, 0};
        for (int what = 0; what < due.length; what++) {
            check.due("size(" + what + ")", x.size(what), due[what]);
        }
        x.turn(0);
        x.turn(0);
        x.keep();
        x.feed(0, 0, 0, 0, 0);
        check.due("size(9)", x.size(9), 2);
        check.due("size(10)", x.size(10), 1);
        check.due("size(11)", x.size(11), 20);
        check.due("size(-1)", x.size(-1), -1);
        check.due("size(12)", x.size(12), -1);
        check.refused("a refusal", x, x.slot(9), 1);
        check.due("size(99)", x.size(99), -1);
        check.due("trouble() isn't of size", x.trouble(), 1);
    }

    private static void troubles(Check check) {
        StreetTube x = check.told(TEXT, 3);
        check.refused("1", x, x.slot(5), 1);
        check.due("trouble() stays", x.trouble(), 1);
        check.refused("2", x, x.rests(10), 2);
        x.keep();
        x.keep();
        x.keep();
        check.refused("3", x, x.keep(), 3);
        check.refused("4", x, x.tube(0), 4);
        check.refused("5", x, x.move(0, 1), 5);
        check.refused("6", x, x.undo() ? 1 : 0, 0, 6);
        check.fine("0", x, x.slot(2), -2);
    }
}
