/** Terms I: TOKENS and NAMES at their bounds, and which FAULT is told of several, at which place. */
public final class FaultsTest {
    private static final String HEAD = "tube mirrors 2 slots 3 shakes 5";
    private static final String FULL = HEAD + ";person a red at 0;person b blue at 1;turn t 1 2 0";
    private static final String[] LINE_WORDS = {"tube", "person", "turn", "quarrel", "wants", "shuns", "unsure", "seen"};

    private static Check check;

    public static void main(String[] args) {
        check = new Check();
        wordsHaveOneToEightLetters();
        wholesHaveOneToThreeDigits();
        tooLongIsNoToken();
        otherBytesBeginNoToken();
        blanksPartTokensAndMeanNothingElse();
        semicolonsAreSingle();
        namesMayNotBeLeftOut();
        namesAreNoLineWords();
        namesAreToldOnce();
        namesAreToldAheadOfTheirUse();
        namesAreOfTheirSort();
        theFirstFaultFromTheLeft();
        theLeastNumberOfOnePlace();
        theEndHasAPlace();
        everyTextThatIsCutShort();
        lacksAtTheEnd();
        check.end();
    }

    private static void wordsHaveOneToEightLetters() {
        String name = "abcdefgh";
        for (int length = 1; length <= 8; length++) {
            String word = name.substring(0, length);
            check.told(HEAD + ";turn t 0 1 2;person " + word + " red at 0;person z red at 1;wants z " + word, 2);
        }
        check.faultAtMark(HEAD + ";turn t 0 1 2;person |abcdefghi red at 0", 1);
        check.faultAtMark(HEAD + ";turn t 0 1 2;person |" + "z".repeat(60) + " red at 0", 1);
        check.faultAtMark("|tubetubet", 1);
        // unlike in their first letter, their last one, and their length alone
        check.told(HEAD + ";turn t 0 1 2;person aaaaaaaa red at 0;person aaaaaaab red at 1;person baaaaaaa red at 2", 3);
        check.told(HEAD + ";turn t 0 1 2;person aaaaaaaa red at 0;person aaaaaaa red at 1;person zzzzzzzz red at 2", 3);
        check.faultAtMark(HEAD + ";turn t 0 1 2;person zzzzzzzz red at 0;person |zzzzzzzz red at 1", 3);
    }

    private static void wholesHaveOneToThreeDigits() {
        check.told("tube mirrors 2 slots 03 shakes 005;person a red at 000;turn t 00 01 002", 1);
        check.faultAtMark("tube mirrors 2 slots 3 shakes |0005", 1);
        check.faultAtMark("tube mirrors |0002 slots 3 shakes 5", 1);
        check.faultAtMark("tube mirrors 2 slots 3 shakes |1000", 1);
        check.faultAtMark("tube mirrors |" + "9".repeat(40), 1);
        // 2 to the 32 and 3: no number of that many digits may come out as 3
        check.faultAtMark("tube mirrors 2 slots |4294967299 shakes 5", 1);
        check.faultAtMark("tube mirrors 2 slots |18446744073709551619 shakes 5", 1);
        check.faultAtMark("tube mirrors 2 slots 3 shakes |999", 4);
    }

    /** Of each place of a text: a run that is too long is FORM at its first byte, whatever must stand there. */
    private static void tooLongIsNoToken() {
        String[] tokens = (FULL + ";seen a b far").replace(";", " ; ").split(" ");
        for (String run : new String[] {"abcdefghi", "0000", "tubetubetube", "00000000000000000000000000000000002"}) {
            StringBuilder ahead = new StringBuilder();
            for (String token : tokens) {
                check.faultAtMark(ahead + "|" + run, 1);
                check.faultAtMark(ahead + "|" + run + " " + token, 1);
                ahead.append(token).append(' ');
            }
            check.faultAtMark(ahead + "|" + run, 1);
            check.faultAtMark(ahead + "|" + run + ";", 1);
            check.faultAtMark(ahead + "|" + run + ";person c red at 2", 1);
        }
    }

    private static void otherBytesBeginNoToken() {
        for (int b = 0; b < 256; b++) {
            char sign = (char) b;
            boolean letter = sign >= 'a' && sign <= 'z';
            boolean digit = sign >= '0' && sign <= '9';
            if (letter || digit) {
                check.faultAtMark(FULL + " |" + sign, 1);
            } else if (sign == ';') {
                check.faultAtMark(FULL + ";|", 1);
            } else if (sign == ' ') {
                check.told(FULL + sign, 2);
            } else {
                check.faultAtMark(FULL + "~" + sign, 1, '~');
                check.faultAtMark("~" + sign + FULL, 1, '~');
                // the WORD ahead of it is another one then
                check.faultAtMark("~tu" + sign + "be", 1, '~');
                check.faultAtMark("tube~" + sign + "mirrors", 1, '~');
                check.faultAtMark("tube mirrors 2 slots 3 shakes 1~" + sign + "0", 1, '~');
            }
        }
    }

    private static void blanksPartTokensAndMeanNothingElse() {
        check.told("   " + FULL.replace(" ", "    ").replace(";", "  ;  ") + "   ", 2);
        check.told("tube mirrors2slots3shakes5;person a red at0;turn t0 1 2;person b red at1;quarrel a b", 2);
        check.told("tube mirrors2slots3shakes5;turn t0 1 2;person a red at0", 1);
        check.faultAtMark("|tu be", 1);
        check.faultAtMark("tube mirrors 2 slots 3 shakes 1 |0", 1);
        check.faultAtMark("|tubemirrors 2", 1);
        check.faultAtMark("tube mirrors |22 slots 3 shakes 5", 4);
    }

    private static void semicolonsAreSingle() {
        check.faultAtMark("|;" + FULL, 1);
        check.faultAtMark(HEAD + ";|;person a red at 0", 1);
        check.faultAtMark(FULL + ";|", 1);
        check.faultAtMark(FULL + ";|;", 1);
        check.faultAtMark(FULL + " ;   |", 1);
        check.faultAtMark("tube|;", 1);
    }

    private static void namesMayNotBeLeftOut() {
        check.faultAtMark(HEAD + ";person a red at 0;turn |1 2 0", 1);
        check.faultAtMark(HEAD + ";turn |;person a red at 0", 1);
        check.faultAtMark(HEAD + ";person red |at 0", 1);
        check.faultAtMark(HEAD + ";person |;turn t 0 1 2", 1);
        check.faultAtMark(HEAD + ";person |0", 1);
        for (String line : new String[] {"quarrel", "wants", "shuns", "seen", "unsure"}) {
            check.faultAtMark(FULL + ";" + line + "|", 1);
            check.faultAtMark(FULL + ";" + line + " |;", 1);
            check.faultAtMark(FULL + ";" + line + " a|", 1);
            check.faultAtMark(FULL + ";" + line + " a |;", 1);
            check.faultAtMark(FULL + ";" + line + " |0 a", 1);
        }
        check.faultAtMark(FULL + ";seen a |far", 2);
        check.faultAtMark(FULL + ";seen a b|", 1);
    }

    private static void namesAreNoLineWords() {
        for (String word : LINE_WORDS) {
            check.faultAtMark(HEAD + ";person |" + word + " red at 0", 1);
            check.faultAtMark(HEAD + ";turn |" + word + " 0 1 2", 1);
            for (String line : new String[] {"quarrel", "wants", "shuns", "seen"}) {
                check.faultAtMark(FULL + ";" + line + " |" + word + " a", 1);
                check.faultAtMark(FULL + ";" + line + " a |" + word, 1);
            }
            check.faultAtMark(FULL + ";unsure |" + word + " 0", 1);
        }
        for (String word : new String[] {"mirrors", "slots", "shakes", "red", "blue", "green", "at", "beside", "far", "tub", "tubes"}) {
            check.told(HEAD + ";person " + word + " red at 0;person z red at 1;turn t 0 1 2;seen " + word + " z far", 2);
            check.told(HEAD + ";person z red at 0;turn " + word + " 0 1 2", 1);
        }
    }

    private static void namesAreToldOnce() {
        check.faultAtMark(FULL + ";person |a red at 2", 3);
        check.faultAtMark(FULL + ";person |b red at 2", 3);
        check.faultAtMark(FULL + ";person |t red at 2", 3);
        check.faultAtMark(FULL + ";turn |t 0 1 2", 3);
        check.faultAtMark(FULL + ";turn |a 0 1 2", 3);
        check.faultAtMark(FULL + ";turn |a", 3);
        // another text's names are no longer told
        StreetTube x = check.told(FULL, 2);
        check.due("the same names in another text", Check.tell(x, FULL), 2);
        check.due("a name of the text ahead", Check.tell(x, HEAD + ";person c red at 0;turn u 0 1 2;wants c a"), -1);
        check.due("it isn't told", x.fault(), 2);
    }

    private static void namesAreToldAheadOfTheirUse() {
        check.faultAtMark(HEAD + ";wants |a b;person a red at 0;person b red at 1;turn t 0 1 2", 2);
        check.faultAtMark(HEAD + ";person a red at 0;wants a |b;person b red at 1;turn t 0 1 2", 2);
        check.faultAtMark(HEAD + ";unsure |a 0;person a red at 0;turn t 0 1 2", 2);
        check.told(HEAD + ";person a red at 0;unsure a 0;turn t 0 1 2", 1);
    }

    private static void namesAreOfTheirSort() {
        for (String line : new String[] {"quarrel", "wants", "shuns", "seen"}) {
            check.faultAtMark(FULL + ";" + line + " |t a", 2);
            check.faultAtMark(FULL + ";" + line + " a |t", 2);
            check.faultAtMark(FULL + ";" + line + " |c a", 2);
            check.faultAtMark(FULL + ";" + line + " a |c", 2);
            check.faultAtMark(FULL + ";" + line + " |0 a", 1);
            check.faultAtMark(FULL + ";" + line + " a |0", 1);
        }
        check.faultAtMark(FULL + ";unsure |t 0", 2);
        check.faultAtMark(FULL + ";unsure |c 0", 2);
    }

    private static void theFirstFaultFromTheLeft() {
        check.faultAtMark("tube mirrors |1 slots 9 shakes 999 #", 4);
        check.faultAtMark(HEAD + ";person a red at |9;person a #", 4);
        check.faultAtMark(FULL + ";wants |c #", 2);
        check.faultAtMark(FULL + ";|# wants c", 1);
        check.faultAtMark(FULL + ";quarrel b |b;tube", 3);
        check.faultAtMark(FULL + ";|tube;quarrel b b", 3);
        check.faultAtMark(HEAD + ";person a |9 red at 9", 1);
    }

    private static void theLeastNumberOfOnePlace() {
        // the end, where a LINE must come: FORM, though there is no person
        check.faultAtMark(HEAD + ";|", 1);
        check.faultAtMark(HEAD + ";person a red at|", 1);
        // a WHOLE too much that is out of bounds, too; a WORD too much that isn't told, too
        check.faultAtMark(HEAD + ";person a red at 0 |999", 1);
        check.faultAtMark(FULL + ";quarrel a b |c", 1);
        // a LINE ahead of the tube that isn't well told
        check.faultAtMark("|person", 6);
        check.faultAtMark("|persons", 1);
    }

    private static void theEndHasAPlace() {
        check.faultAtMark("|", 1);
        for (int blanks = 1; blanks <= 21; blanks++) {
            check.faultAtMark(" ".repeat(blanks) + "|", 1);
            check.faultAtMark("tube" + " ".repeat(blanks) + "|", 1);
            check.faultAtMark(HEAD + " ".repeat(blanks) + "|", 6);
        }
        check.faultAtMark(" ".repeat(700) + "|", 1);
        String text = HEAD + ";person a red at 0";
        check.faultAtMark(text + " ".repeat(700 - text.length()) + "|", 6);
    }

    /** Behind a WORD, a WHOLE or a ; the text must go on; only a LINE's end may be the text's. */
    private static void everyTextThatIsCutShort() {
        String text = FULL + ";seen a b far";
        for (int n = 0; n < text.length(); n++) {
            String cut = text.substring(0, n);
            int lines = cut.isEmpty() ? 0 : cut.split(";", -1).length;
            String last = cut.substring(cut.lastIndexOf(';') + 1);
            String[] tokens = last.isBlank() ? new String[0] : last.trim().split(" +");
            int[] whole = {0, 7, 5, 5, 5, 4};
            String line = lines == 0 ? "" : text.split(";")[lines - 1];
            boolean sameTokens = line.startsWith(last.trim())
                    && (line.length() == last.trim().length() || line.charAt(last.trim().length()) == ' ');
            if (tokens.length > 0 && tokens.length == whole[lines] && sameTokens) {
                if (lines < 4) {
                    check.fault(cut, 6, n);
                } else {
                    check.told(cut, 2);
                }
            } else if (tokens.length == 0 || sameTokens) {
                check.fault(cut, 1, n);
            } else {
                cutWithinAWord(cut, last, tokens);
            }
        }
    }

    /** A WORD cut short stands at its own place: it is another WORD, of which FORM is told. */
    private static void cutWithinAWord(String cut, String last, String[] tokens) {
        int place = cut.length() - tokens[tokens.length - 1].length();
        check.fault(cut, 1, place);
        check.due("within a line", last.length() > 0, true);
    }

    private static void lacksAtTheEnd() {
        check.faultAtMark(HEAD + "|", 6);
        check.faultAtMark(HEAD + ";person a red at 0|", 6);
        check.faultAtMark(HEAD + ";turn t 0 1 2|", 6);
        check.faultAtMark(HEAD + ";person a red at 0;unsure a 0;person b red at 1;wants a b|", 6);
        check.told(HEAD + ";turn t 0 1 2;person a red at 0", 1);
        check.told(HEAD + ";person a red at 0;turn t 0 1 2", 1);
    }
}
