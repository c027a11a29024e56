/** Promises 1 to 5: the tape, the text, its FAULTS. */
public final class TextTest {
    private static final String HEAD = "tube mirrors 2 slots 3 shakes 5";
    private static final String TWO = HEAD + ";person a red at 0;person b blue at 1";
    private static final String FULL = TWO + ";turn t 1 2 0";

    public static void main(String[] args) {
        Check check = new Check();
        newObject(check);
        feed(check);
        tube(check);
        faultAndWhere(check);
        form(check);
        names(check);
        bounds(check);
        many(check);
        lacks(check);
        tokens(check);
        check.end();
    }

    private static void newObject(Check check) {
        StreetTube x = new StreetTube();
        check.due("trouble() at first", x.trouble(), 0);
        check.due("fault() at first", x.fault(), 0);
        check.due("where() at first", x.where(), -1);
        for (int what = 0; what <= 11; what++) {
            check.due("size(" + what + ") at first", x.size(what), 0);
        }
        check.refused("quarrels() without a tube", x, x.quarrels(), 1);
        check.refused("person(0, 0) without a tube", x, x.person(0, 0), 1);
        check.refused("necklaces without a tube", x, x.necklaces(3, 3), 1);
        check.refused("necklaces without a tube, a number too", x, x.necklaces(0, 0), 1);
        check.refused("keep() without a tube", x, x.keep(), 1);
        check.refused("back(0) without a tube", x, x.back(0) ? 1 : 0, 0, 1);
        check.refused("undo() without a tube", x, x.undo() ? 1 : 0, 0, 6);
    }

    private static void feed(Check check) {
        StreetTube x = new StreetTube();
        for (int i = 1; i <= 35; i++) {
            check.due("feed " + i, x.feed(538976288, 538976288, 538976288, 538976288, 538976288), 20 * i);
        }
        check.due("feed 36", x.feed(0, 0, 0, 0, 0), -1);
        check.due("size(11) of a full tape", x.size(11), 700);
        check.due("trouble() isn't of feed", x.trouble(), 0);
        check.due("tube(700) of blanks", x.tube(700), -1);
        check.due("where() of blanks", x.where(), 700);
        check.due("size(11) behind tube", x.size(11), 0);
        check.due("feed of an empty tape", x.feed(-1, -1, -1, -1, -1), 20);
        check.due("trouble() behind feed", x.trouble(), 4);
        check.due("where() behind feed", x.where(), 700);
        check.due("tube(20) of bytes 255", x.tube(20), -1);
        check.due("fault() of bytes 255", x.fault(), 1);
        check.due("where() of bytes 255", x.where(), 0);
    }

    private static void tube(Check check) {
        StreetTube x = new StreetTube();
        check.refused("tube(-1)", x, x.tube(-1), 2);
        Check.feedText(x, FULL);
        int taped = x.size(11);
        check.refused("tube(more)", x, x.tube(taped + 1), 2);
        check.due("the tape stays", x.size(11), taped);
        check.fine("tube(n)", x, x.tube(FULL.length()), 2);
        check.due("the tape is empty", x.size(11), 0);
        check.fine("turn(0)", x, x.turn(0), 3);
        check.fine("keep()", x, x.keep(), 0);
        check.due("a fault", Check.tell(x, "tube"), -1);
        check.due("the tube stays: people", x.size(3), 2);
        check.due("the tube stays: slot", x.person(0, 1), 1);
        check.due("the tube stays: acts", x.size(9), 1);
        check.due("the tube stays: images", x.size(10), 1);
        check.due("the tube stays: reach", x.reach(), 3);
        check.fine("another tube", x, Check.tell(x, HEAD + ";person z green at 2;turn y 1 0 2"), 1);
        check.due("its people", x.size(3), 1);
        check.due("its slot", x.person(0, 1), 2);
        check.due("its quarrels", x.size(5), 0);
        check.due("nothing to undo", x.size(9), 0);
        check.due("no images", x.size(10), 0);
        check.due("its reach", x.reach(), 2);
        check.due("its mirrored", x.mirrored(2), 4);
        check.refused("undo()", x, x.undo() ? 1 : 0, 0, 6);
        check.refused("back(0)", x, x.back(0) ? 1 : 0, 0, 1);
        // only the first n bytes are read
        Check.feedText(x, FULL + ";nonsense");
        check.fine("the first n bytes", x, x.tube(FULL.length()), 2);
    }

    private static void faultAndWhere(Check check) {
        StreetTube x = new StreetTube();
        check.due("a fault", Check.tell(x, FULL + ";wants a x"), -1);
        check.due("fault()", x.fault(), 2);
        check.due("where()", x.where(), FULL.length() + 9);
        check.due("where() again", x.where(), FULL.length() + 9);
        check.due("size() leaves it", x.size(0), 0);
        check.due("where() behind size()", x.where(), FULL.length() + 9);
        check.refused("another refusal", x, x.reach(), 1);
        check.due("where() behind it", x.where(), -1);
        check.due("fault() behind it", x.fault(), 2);
        check.refused("tube(99)", x, x.tube(99), 2);
        check.due("fault() behind tube() refused by 2", x.fault(), 2);
        check.due("where() behind tube() refused by 2", x.where(), -1);
        check.fine("a tube", x, Check.tell(x, FULL), 2);
        check.due("fault() behind it", x.fault(), 0);
        check.due("where() behind it", x.where(), -1);
    }

    private static void form(Check check) {
        check.faultAtMark("|", 1);
        check.faultAtMark("   |", 1);
        check.faultAtMark("|;", 1);
        check.faultAtMark("|foo", 1);
        check.faultAtMark("|7", 1);
        check.faultAtMark("|Tube mirrors 2", 1);
        check.faultAtMark("tube |mirror 2", 1);
        check.faultAtMark("tube mirrors |slots", 1);
        check.faultAtMark("tube mirrors 2 slots 3 |", 1);
        check.faultAtMark("tube mirrors 2 slots 3 shakes|", 1);
        check.faultAtMark(HEAD + ";|", 1);
        check.faultAtMark(HEAD + ";  |", 1);
        check.faultAtMark(HEAD + "|;;".replace("|;", ";|"), 1);
        check.faultAtMark(HEAD + " |person a red at 0", 1);
        check.faultAtMark(HEAD + ";person |1", 1);
        check.faultAtMark(HEAD + ";person a |at", 1);
        check.faultAtMark(HEAD + ";person a red |0", 1);
        check.faultAtMark(HEAD + ";person a red at |b", 1);
        check.faultAtMark(HEAD + ";person a red at 0 |1", 1);
        check.faultAtMark(HEAD + ";turn t|", 1);
        check.faultAtMark(HEAD + ";turn t 0 1|;", 1);
        check.faultAtMark(HEAD + ";turn t 0 1 2 |9", 1);
        check.faultAtMark(HEAD + ";turn t 0 |a", 1);
        check.faultAtMark(FULL + ";quarrel a|", 1);
        check.faultAtMark(FULL + ";quarrel a |;", 1);
        check.faultAtMark(FULL + ";wants a |seen", 1);
        check.faultAtMark(FULL + ";unsure a |b", 1);
        check.faultAtMark(FULL + ";seen a b|", 1);
        check.faultAtMark(FULL + ";seen a b |close", 1);
        check.faultAtMark(FULL + ";seen a b far |far", 1);
        check.faultAtMark(FULL + "|.", 1);
    }

    private static void names(Check check) {
        for (String word : new String[] {"tube", "person", "turn", "quarrel", "wants", "shuns", "unsure", "seen"}) {
            check.faultAtMark(HEAD + ";person |" + word + " red at 0", 1);
            check.faultAtMark(HEAD + ";turn |" + word + " 0 1 2", 1);
            check.faultAtMark(FULL + ";quarrel a |" + word, 1);
        }
        check.told(HEAD + ";person red red at 0;person at blue at 1;turn mirrors 0 1 2;wants at red;seen red at far", 2);
        check.faultAtMark(FULL + ";quarrel |x b", 2);
        check.faultAtMark(FULL + ";quarrel a |x", 2);
        check.faultAtMark(FULL + ";wants |t a", 2);
        check.faultAtMark(FULL + ";shuns a |t", 2);
        check.faultAtMark(FULL + ";unsure |t 0", 2);
        check.faultAtMark(FULL + ";seen |x a far", 2);
        check.faultAtMark(HEAD + ";quarrel |a b;person a red at 0", 2);
        check.faultAtMark(FULL + ";person |a red at 2", 3);
        check.faultAtMark(FULL + ";person |t red at 2", 3);
        check.faultAtMark(FULL + ";turn |t 0 1 2", 3);
        check.faultAtMark(FULL + ";turn |b 0 1 2", 3);
        check.faultAtMark(FULL + ";person c red at |1", 3);
        check.faultAtMark(FULL + ";person c red at |0", 3);
        check.faultAtMark(HEAD + ";turn t 0 1 |1", 3);
        check.faultAtMark(FULL + ";quarrel b |b", 3);
        check.faultAtMark(FULL + ";quarrel a b;quarrel a |b", 3);
        check.faultAtMark(FULL + ";quarrel a b;quarrel b |a", 3);
        check.faultAtMark(FULL + ";wants b |b", 3);
        check.faultAtMark(FULL + ";shuns b |b", 3);
        check.faultAtMark(FULL + ";seen b |b far", 3);
        check.faultAtMark(FULL + ";unsure a 2;unsure |a 2", 3);
        check.faultAtMark(HEAD + ";|tube", 3);
        check.faultAtMark(FULL + ";|tube mirrors 2 slots 3 shakes 5", 3);
        // wants, shuns and seen may be told again, whoever quarrels
        check.told(FULL + ";quarrel a b;wants a b;wants a b;shuns b a;seen a b far;seen a b beside;seen a b far", 2);
    }

    private static void bounds(Check check) {
        check.faultAtMark("tube mirrors |1 slots 2 shakes 0", 4);
        check.faultAtMark("tube mirrors |10", 4);
        check.faultAtMark("tube mirrors 9 slots |1", 4);
        check.faultAtMark("tube mirrors 9 slots |7", 4);
        check.faultAtMark("tube mirrors 9 slots 6 shakes |101", 4);
        check.faultAtMark("tube mirrors 9 slots 6 shakes |999", 4);
        check.told("tube mirrors 9 slots 6 shakes 100;person a red at 5;turn t 5 4 3 2 1 0", 1);
        check.told("tube mirrors 002 slots 02 shakes 000;person a red at 001;turn t 01 0", 1);
        check.faultAtMark(HEAD + ";person a red at |3", 4);
        check.faultAtMark(HEAD + ";turn t |3 1 2", 4);
        check.faultAtMark(HEAD + ";turn t 0 1 |999", 4);
        check.faultAtMark(FULL + ";unsure a |3", 4);
        // somebody, or he himself, may be in that slot
        check.told(FULL + ";unsure a 1;unsure b 1", 2);
    }

    private static void many(Check check) {
        String head = "tube mirrors 2 slots 6 shakes 5";
        String six = head + ";person a red at 0;person b red at 1;person c red at 2"
                + ";person d red at 3;person e red at 4;person f red at 5";
        check.faultAtMark(six + ";|person g red at 0", 5);
        check.faultAtMark(six + ";|person", 5);
        String turns = six + ";turn t 0 1 2 3 4 5;turn u 0 1 2 3 4 5;turn v 0 1 2 3 4 5";
        check.faultAtMark(turns + ";|turn w 0 1 2 3 4 5", 5);
        String quarrels = turns + ";quarrel a b;quarrel a c;quarrel a d;quarrel a e;quarrel a f;quarrel b c";
        check.told(quarrels, 6);
        check.faultAtMark(quarrels + ";|quarrel a b", 5);
        check.faultAtMark(turns + ";wants a b;shuns a b;wants a c;shuns a c;|wants a d", 5);
        check.faultAtMark(turns + ";wants a b;wants a b;wants a c;wants a c;|shuns a d", 5);
        check.faultAtMark(turns + ";unsure a 0;unsure b 0;unsure c 0;|unsure d 0", 5);
        String seen = turns + ";seen a b far;seen a b far;seen a b far;seen a b far;seen a b far";
        check.told(seen, 6);
        check.faultAtMark(seen + ";|seen", 5);
        // as many people as slots: the next has no slot left, but there is room for the line
        check.faultAtMark(TWO + ";person c red at 2;person d red at |2", 3);
    }

    private static void lacks(Check check) {
        for (String word : new String[] {"person", "turn", "quarrel", "wants", "shuns", "unsure", "seen"}) {
            check.faultAtMark("|" + word + " a b;" + HEAD, 6);
            check.faultAtMark("  |" + word, 6);
        }
        check.faultAtMark(HEAD + "|", 6);
        check.faultAtMark(HEAD + "   |", 6);
        check.faultAtMark(TWO + "|", 6);
        check.faultAtMark(HEAD + ";turn t 0 1 2|", 6);
    }

    private static void tokens(Check check) {
        check.told("tube mirrors2slots3shakes5;person abcdefgh red at0;turn t0 1 2", 1);
        check.told("  tube   mirrors 2 slots 3 shakes 5  ;  person a red at 0 ; turn t 0 1 2   ", 1);
        check.faultAtMark(HEAD + ";person |abcdefghi red at 0", 1);
        check.faultAtMark("tube mirrors |0002", 1);
        check.faultAtMark("tube\t".replace("\t", "|\t"), 1);
        check.faultAtMark("tube |Mirrors", 1);
        check.faultAtMark("|tubes", 1);
        check.faultAtMark(HEAD + ";turn t 0 1 |" + (char) 0 + "2", 1);
        check.faultAtMark(HEAD + ";turn t 0 1 |" + (char) 225 + "2", 1);
    }
}
