/** Terms I, sentence by sentence: each LINE at its bounds, one below them, one above them, and too many. */
public final class LinesTest {
    private static final String HEAD = "tube mirrors 2 slots 3 shakes 5";
    private static final String FULL = HEAD + ";person a red at 0;person b blue at 1;turn t 1 2 0";
    private static final String SIX = "tube mirrors 2 slots 6 shakes 5;person a red at 0;person b red at 1"
            + ";person c red at 2;person d red at 3;person e red at 4;person f red at 5;turn t 1 2 3 4 5 0";
    private static final String[] LINE_WORDS = {"tube", "person", "turn", "quarrel", "wants", "shuns", "unsure", "seen"};

    private static Check check;

    public static void main(String[] args) {
        check = new Check();
        mirrorsAreTwoToNine();
        slotsAreTwoToSix();
        shakesAreUpToAHundred();
        theTubeIsAheadOfAllOthers();
        aPersonsSlotIsBelowHowManyThereAre();
        aPersonsSlotHasNobodyInIt();
        threeColours();
        sixPeople();
        aTurnHasAsManyWholesAsThereAreSlots();
        aTurnsWholesAreUnlike();
        threeTurns();
        nineNames();
        quarrelsAreOfUnlikePeopleAndOnce();
        sixQuarrels();
        wishesAreOfUnlikePeopleAndMayBeToldAgain();
        fourWishesOfBothSorts();
        anUnsureSlotIsBelowHowManyThereAre();
        oneIsUnsureOnce();
        threeUnsure();
        seenAreOfUnlikePeople();
        fiveSeen();
        check.end();
    }

    private static void mirrorsAreTwoToNine() {
        String tail = " slots 3 shakes 5;person a red at 0;turn t 1 2 0";
        for (int mirrors = 2; mirrors <= 9; mirrors++) {
            StreetTube x = check.told("tube mirrors " + mirrors + tail, 1);
            check.due("size(0)", x.size(0), mirrors);
            check.due("the last place", x.truth(6 * mirrors - 1), 0);
            check.due("behind the last place", x.truth(6 * mirrors), -1);
        }
        for (int mirrors : new int[] {0, 1, 10, 11, 99, 100, 999}) {
            check.faultAtMark("tube mirrors |" + mirrors + tail, 4);
        }
    }

    private static void slotsAreTwoToSix() {
        String[] turns = {"1 0", "1 2 0", "1 2 3 0", "1 2 3 4 0", "1 2 3 4 5 0"};
        for (int slots = 2; slots <= 6; slots++) {
            StreetTube x = check.told("tube mirrors 2 slots " + slots + " shakes 5;person a red at 0;turn t "
                    + turns[slots - 2], 1);
            check.due("size(1)", x.size(1), slots);
            check.due("the last slot", x.slot(slots - 1), -2);
            check.due("behind the last slot", x.slot(slots), -1);
        }
        for (int slots : new int[] {0, 1, 7, 8, 10, 999}) {
            check.faultAtMark("tube mirrors 2 slots |" + slots + " shakes 5;person a red at 0;turn t 0", 4);
        }
    }

    private static void shakesAreUpToAHundred() {
        String tail = ";person a red at 0;turn t 1 2 0";
        for (int shakes : new int[] {0, 1, 50, 99, 100}) {
            StreetTube x = check.told("tube mirrors 2 slots 3 shakes " + shakes + tail, 1);
            check.due("size(2)", x.size(2), shakes);
        }
        for (int shakes : new int[] {101, 102, 200, 999}) {
            check.faultAtMark("tube mirrors 2 slots 3 shakes |" + shakes + tail, 4);
        }
    }

    private static void theTubeIsAheadOfAllOthers() {
        for (String word : LINE_WORDS) {
            if (!word.equals("tube")) {
                check.faultAtMark("|" + word, 6);
                check.faultAtMark("|" + word + ";" + FULL, 6);
                check.faultAtMark(" |" + word + " a red at 0;" + FULL, 6);
            }
        }
        check.faultAtMark(HEAD + ";|tube", 3);
        check.faultAtMark(FULL + ";|" + HEAD, 3);
        check.faultAtMark(HEAD + ";|tube mirrors 99", 3);
        check.faultAtMark(HEAD + " |tube", 1);
    }

    private static void aPersonsSlotIsBelowHowManyThereAre() {
        for (int slots = 2; slots <= 6; slots++) {
            String head = "tube mirrors 2 slots " + slots + " shakes 5";
            String turn = ";turn t 0 1 2 3 4 5".substring(0, 7 + 2 * slots);
            for (int k = 0; k < slots; k++) {
                StreetTube x = check.told(head + ";person a red at " + k + turn, 1);
                check.due("his slot", x.person(0, 1), k);
                check.due("his slot as told", x.person(0, 4), k);
            }
            check.faultAtMark(head + ";person a red at |" + slots + turn, 4);
            check.faultAtMark(head + ";person a red at |" + (slots + 1) + turn, 4);
            check.faultAtMark(head + ";person a red at |999" + turn, 4);
        }
    }

    private static void aPersonsSlotHasNobodyInIt() {
        for (int k = 0; k < 3; k++) {
            for (int l = 0; l < 3; l++) {
                String text = HEAD + ";turn t 1 2 0;person a red at " + k + ";person b red at |" + l;
                if (k == l) {
                    check.faultAtMark(text, 3);
                } else {
                    check.told(text.replace("|", ""), 2);
                }
            }
        }
        // nobody in a slot is left: there is room for a line more, not for a person
        String three = FULL + ";person c green at 2";
        check.told(three, 3);
        for (int k = 0; k < 3; k++) {
            check.faultAtMark(three + ";person d red at |" + k, 3);
        }
        check.faultAtMark(three + ";person d red at |3", 4);
    }

    private static void threeColours() {
        String[] colours = {"red", "blue", "green"};
        for (int c = 0; c < 3; c++) {
            StreetTube x = check.told(HEAD + ";person a " + colours[c] + " at 0;turn t 0 1 2", 1);
            check.due("his colour", x.person(0, 0), c);
        }
        for (String other : new String[] {"re", "reds", "yellow", "at", "a", "person", "0", ";"}) {
            check.faultAtMark(HEAD + ";person a |" + other + " at 0;turn t 0 1 2", 1);
        }
    }

    private static void sixPeople() {
        check.told(SIX, 6);
        check.faultAtMark(SIX + ";|person g red at 0", 5);
        check.faultAtMark(SIX + ";|person g red at 6", 5);
        check.faultAtMark(SIX + ";|person a", 5);
        check.faultAtMark(SIX + ";|person ;", 5);
        check.faultAtMark(SIX + ";|person", 5);
    }

    private static void aTurnHasAsManyWholesAsThereAreSlots() {
        for (int slots = 2; slots <= 6; slots++) {
            String head = "tube mirrors 2 slots " + slots + " shakes 5;person a red at 0";
            String wholes = " 5 4 3 2 1 0".substring(12 - 2 * slots);
            StreetTube x = check.told(head + ";turn t" + wholes, 1);
            for (int k = 0; k < slots; k++) {
                check.due("turned(0, " + k + ")", x.turned(0, k), slots - 1 - k);
            }
            String oneLess = head + ";turn t" + wholes.substring(0, wholes.length() - 2);
            check.faultAtMark(oneLess + "|", 1);
            check.faultAtMark(oneLess + "|;person b red at 1", 1);
            check.faultAtMark(oneLess + " |b", 1);
            for (int more : new int[] {0, slots, 999}) {
                check.faultAtMark(head + ";turn t" + wholes + " |" + more, 1);
            }
            check.faultAtMark(head + ";turn t |" + slots, 4);
            check.faultAtMark(oneLess + " |" + slots, 4);
            check.faultAtMark(oneLess + " |999", 4);
        }
        check.faultAtMark(HEAD + ";turn t|", 1);
        check.faultAtMark(HEAD + ";turn|", 1);
    }

    private static void aTurnsWholesAreUnlike() {
        for (int a = 0; a < 3; a++) {
            for (int b = 0; b < 3; b++) {
                for (int c = 0; c < 3; c++) {
                    String text = HEAD + ";person a red at 0;turn t " + a + " ";
                    if (a == b) {
                        check.faultAtMark(text + "|" + b + " " + c, 3);
                    } else if (a == c || b == c) {
                        check.faultAtMark(text + b + " |" + c, 3);
                    } else {
                        check.told(text + b + " " + c, 1);
                    }
                }
            }
        }
    }

    private static void threeTurns() {
        String two = FULL + ";turn u 0 1 2";
        StreetTube x = check.told(two + ";turn v 2 1 0", 2);
        check.due("turns", x.size(4), 3);
        check.faultAtMark(two + ";turn v 2 1 0;|turn w 0 2 1", 5);
        check.faultAtMark(two + ";turn v 2 1 0;|turn t", 5);
        check.faultAtMark(two + ";turn v 2 1 0;|turn", 5);
    }

    /** All people and all turns: the first and the last name told are known. */
    private static void nineNames() {
        String people = ";person a red at 0;person b red at 1;person c red at 2;person d red at 3;person e red at 4;person f red at 5";
        String turns = ";turn t 0 1 2 3 4 5;turn u 0 1 2 3 4 5;turn v 1 0 2 3 4 5";
        String head = "tube mirrors 2 slots 6 shakes 5";
        StreetTube x = check.told(head + turns + people + ";quarrel a f;seen f a far;unsure f 5", 6);
        check.due("those f quarrels with", x.person(5, 3), 1);
        check.told(head + people + turns + ";quarrel f a", 6);
        check.faultAtMark(head + people + turns + ";wants a |v", 2);
        check.faultAtMark(head + turns + people + ";wants a |t", 2);
        check.faultAtMark(head + turns + people + ";wants a |g", 2);
        check.faultAtMark(head + turns + people.replace(";person f red at 5", "") + ";person |v red at 5", 3);
        check.faultAtMark(head + people + turns.replace(";turn v 1 0 2 3 4 5", "") + ";turn |f 1 0 2 3 4 5", 3);
    }

    private static void quarrelsAreOfUnlikePeopleAndOnce() {
        StreetTube x = check.told(SIX + ";quarrel a b;quarrel a c;quarrel b c", 6);
        check.due("quarrels of three", x.size(5), 3);
        check.faultAtMark(SIX + ";quarrel a |a", 3);
        check.faultAtMark(SIX + ";quarrel f |f", 3);
        check.faultAtMark(SIX + ";quarrel a b;quarrel a |b", 3);
        check.faultAtMark(SIX + ";quarrel a b;quarrel b |a", 3);
        check.faultAtMark(SIX + ";quarrel e f;quarrel a b;quarrel f |e", 3);
    }

    private static void sixQuarrels() {
        String five = SIX + ";quarrel a b;quarrel b c;quarrel c d;quarrel d e;quarrel e f";
        StreetTube x = check.told(five + ";quarrel f a", 6);
        check.due("quarrels", x.size(5), 6);
        check.due("those he quarrels with", x.person(0, 3), 2 | 32);
        check.faultAtMark(five + ";quarrel f a;|quarrel a c", 5);
        check.faultAtMark(five + ";quarrel f a;|quarrel a a", 5);
        check.faultAtMark(five + ";quarrel f a;|quarrel", 5);
    }

    private static void wishesAreOfUnlikePeopleAndMayBeToldAgain() {
        for (String word : new String[] {"wants", "shuns"}) {
            check.faultAtMark(FULL + ";" + word + " a |a", 3);
            check.faultAtMark(FULL + ";" + word + " b |b;quarrel a b", 3);
            StreetTube x = check.told(FULL + ";" + word + " a b;" + word + " a b;" + word + " b a", 2);
            check.due("told again", x.size(6), 3);
        }
        StreetTube both = check.told(FULL + ";wants a b;shuns a b", 2);
        check.due("of both", both.size(6), 2);
        check.due("that are met", both.met(), 1);
        check.due("both at once can't be", both.errand(), -2);
    }

    private static void fourWishesOfBothSorts() {
        for (int bits = 0; bits < 32; bits++) {
            StringBuilder text = new StringBuilder(FULL);
            for (int i = 0; i < 4; i++) {
                text.append((bits >> i & 1) == 1 ? ";wants a b" : ";shuns a b");
            }
            StreetTube x = check.told(text.toString(), 2);
            check.due("wants and shuns", x.size(6), 4);
            check.due("that are met", x.met(), bits & 15);
            check.faultAtMark(text + ((bits >> 4 & 1) == 1 ? ";|wants a b" : ";|shuns a b"), 5);
        }
        check.faultAtMark(FULL + ";wants a b;wants a b;shuns a b;shuns a b;|shuns", 5);
    }

    private static void anUnsureSlotIsBelowHowManyThereAre() {
        for (int slots = 2; slots <= 6; slots++) {
            String text = "tube mirrors 2 slots " + slots + " shakes 5;person a red at 0;person b red at 1"
                    + ";turn t 0 1 2 3 4 5".substring(0, 7 + 2 * slots) + ";unsure a ";
            for (int k = 0; k < slots; k++) {
                StreetTube x = check.told(text + k, 2);
                check.due("unsure ones", x.size(7), 1);
                // his own slot is one more way in which he fits; the other one's isn't
                check.due("fits()", x.fits(), k == 1 ? 1 : 2);
            }
            check.faultAtMark(text + "|" + slots, 4);
            check.faultAtMark(text + "|999", 4);
            check.faultAtMark(text + "|", 1);
        }
    }

    private static void oneIsUnsureOnce() {
        check.told(FULL + ";unsure a 1;unsure b 1", 2);
        check.faultAtMark(FULL + ";unsure a 1;unsure |a 1", 3);
        check.faultAtMark(FULL + ";unsure a 1;unsure |a 2", 3);
        check.faultAtMark(FULL + ";unsure a 1;unsure b 1;unsure |a 9", 3);
        check.faultAtMark(FULL + ";unsure a 1;unsure b 1;unsure |b", 3);
    }

    private static void threeUnsure() {
        String three = SIX + ";unsure a 0;unsure b 0;unsure f 5";
        StreetTube x = check.told(three, 6);
        check.due("unsure ones", x.size(7), 3);
        check.faultAtMark(three + ";|unsure c 0", 5);
        check.faultAtMark(three + ";|unsure a 0", 5);
        check.faultAtMark(three + ";|unsure", 5);
    }

    private static void seenAreOfUnlikePeople() {
        check.faultAtMark(FULL + ";seen a |a beside", 3);
        check.faultAtMark(FULL + ";seen b |b far", 3);
        for (String other : new String[] {"near", "besides", "fa", "a", "seen", "0", ";"}) {
            check.faultAtMark(FULL + ";seen a b |" + other, 1);
        }
        StreetTube x = check.told(FULL + ";seen a b beside;seen b a far;seen a b beside", 2);
        check.due("seen", x.size(8), 3);
    }

    private static void fiveSeen() {
        String five = SIX + ";seen a b beside;seen b c beside;seen c d beside;seen d e beside;seen e f far";
        StreetTube x = check.told(five, 6);
        check.due("seen", x.size(8), 5);
        check.due("the last isn't so", x.judge(), 4);
        check.faultAtMark(five + ";|seen a b beside", 5);
        check.faultAtMark(five + ";|seen a a", 5);
        check.faultAtMark(five + ";|seen", 5);
    }
}
