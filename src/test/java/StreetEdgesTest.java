/** Promises 1 to 16 at their bounds: what is empty, full, first, last, or one too many. */
public final class StreetEdgesTest {
    private static final String LEAST = "tube mirrors 2 slots 2 shakes 0;person a red at 1;turn t 1 0";
    private static final String MOST = "tube mirrors 9 slots 6 shakes 100;person a red at 0;person b red at 1"
            + ";person c red at 2;person d red at 3;person e red at 4;person f red at 5"
            + ";turn l 1 2 3 4 5 0;turn s 1 0 2 3 4 5;turn n 0 1 2 3 4 5"
            + ";quarrel a b;quarrel b c;quarrel c d;quarrel d e;quarrel e f;quarrel a f"
            + ";wants a b;wants a f;shuns a f;shuns e f;unsure a 0;unsure f 5;unsure c 2"
            + ";seen a b beside;seen b c beside;seen c d beside;seen d e beside;seen e f beside";
    private static final String FOUR = "tube mirrors 2 slots 4 shakes 50;person a red at 1;person b blue at 2"
            + ";turn l 1 2 3 0;turn s 1 0 2 3;quarrel a b";
    private static final int BLANKS = 538976288;

    private static Check check;

    public static void main(String[] args) {
        check = new Check();
        aNewObjectHasNoTube();
        feedOfTwentyBytes();
        feedToTheTapesEnd();
        tubeOfAllBytesOrFewer();
        tubeReadsTheFirstBytesAlone();
        tubeOfATextAsLongAsTheTape();
        aGoodTubeForgetsActsAndImages();
        nothingOfAnEarlierTubeIsLeft();
        aFaultyTubeStays();
        faultIsOfTheLatestTube();
        whereIsOfTheLatestCall();
        personOfTheFirstAndTheLast();
        slotsAndTurnsFirstAndLast();
        quarrelsAndMetNoneAndAll();
        ringFirstAndLast();
        selvesAtTheEnds();
        nearAndFar();
        seenInNoneAndAll();
        check.end();
    }

    private static void aNewObjectHasNoTube() {
        StreetTube x = new StreetTube();
        for (int what = 0; what <= 11; what++) {
            check.due("size(" + what + ")", x.size(what), 0);
        }
        check.due("fault()", x.fault(), 0);
        check.due("where()", x.where(), -1);
        check.due("trouble()", x.trouble(), 0);
        check.noLed("led(0)", x, 0);
        check.refused("slot(0)", x, x.slot(0), 1);
        check.due("NONE", StreetTube.NONE, -1);
    }

    /** Of each number the highest byte first: the text is read as it was put together. */
    private static void feedOfTwentyBytes() {
        StreetTube x = new StreetTube();
        check.due("feed", x.feed(0x74756265, 0x206d6972, 0x726f7273, 0x203220ff, 0x80000000), 20);
        check.due("tube(20)", x.tube(20), -1);
        check.due("the byte 255 begins no token", x.fault(), 1);
        check.due("its place", x.where(), 15);
        x.feed(0x74756265, 0x206d6972, 0x726f7273, 0x20312020, 0x20202020);
        check.due("tube(20)", x.tube(20), -1);
        check.due("one mirror is out of bounds", x.fault(), 4);
        check.due("its place", x.where(), 13);
        x.feed(0, 0, 0, 0, 0);
        check.due("tube(20) of bytes 0", x.tube(20), -1);
        check.due("fault()", x.fault(), 1);
        check.due("where()", x.where(), 0);
    }

    private static void feedToTheTapesEnd() {
        StreetTube x = new StreetTube();
        for (int i = 1; i <= 34; i++) {
            x.feed(BLANKS, BLANKS, BLANKS, BLANKS, BLANKS);
        }
        check.due("680 bytes", x.size(11), 680);
        check.due("700 bytes", x.feed(BLANKS, BLANKS, BLANKS, BLANKS, BLANKS), 700);
        check.due("720 bytes", x.feed(1, 1, 1, 1, 1), -1);
        check.due("720 bytes, again", x.feed(1, 1, 1, 1, 1), -1);
        check.due("700 bytes still", x.size(11), 700);
        check.due("trouble() is of no feed", x.trouble(), 0);
        check.refused("tube(701)", x, x.tube(701), 2);
        check.due("a feed that is refused behind it", x.feed(1, 1, 1, 1, 1), -1);
        check.due("trouble() stays", x.trouble(), 2);
        check.refused("tube(700)", x, x.tube(700), 4);
        check.due("none of the refused bytes came", x.where(), 700);
        check.due("a feed behind it", x.feed(BLANKS, BLANKS, BLANKS, BLANKS, BLANKS), 20);
        check.due("trouble() stays", x.trouble(), 4);
        check.due("where() stays", x.where(), 700);
    }

    private static void tubeOfAllBytesOrFewer() {
        StreetTube x = new StreetTube();
        check.refused("tube(0) of an empty tape", x, x.tube(0), 4);
        check.due("where()", x.where(), 0);
        check.refused("tube(1) of an empty tape", x, x.tube(1), 2);
        Check.feedText(x, LEAST);
        int taped = x.size(11);
        check.due("the tape", taped, 60);
        check.refused("tube(taped + 1)", x, x.tube(taped + 1), 2);
        check.refused("tube(-1)", x, x.tube(-1), 2);
        check.due("the tape stays", x.size(11), taped);
        check.fine("tube(taped)", x, x.tube(taped), 1);
        check.due("the tape is empty", x.size(11), 0);
        Check.feedText(x, LEAST);
        check.refused("tube(0)", x, x.tube(0), 4);
        check.due("the tape is empty behind 4, too", x.size(11), 0);
        Check.feedText(x, LEAST + " 9");
        check.fine("tube(fewer)", x, x.tube(LEAST.length()), 1);
        Check.feedText(x, LEAST);
        check.refused("tube(one fewer)", x, x.tube(LEAST.length() - 1), 4);
        check.due("FORM", x.fault(), 1);
        check.due("at the end", x.where(), LEAST.length() - 1);
        check.refused("tube(1) of what is no longer there", x, x.tube(1), 2);
    }

    /** What is cut off goes on a WORD, a WHOLE or a LINE; none of it is read, nor what an earlier text left. */
    private static void tubeReadsTheFirstBytesAlone() {
        String[] texts = {FOUR + ";seen a b beside", FOUR + ";unsure a 3", FOUR, FOUR + ";wants a b"};
        String[] tails = {"s", "3", ";tube", "c"};
        for (int i = 0; i < texts.length; i++) {
            StreetTube x = new StreetTube();
            Check.feedText(x, texts[i] + tails[i]);
            check.fine("the first bytes of <" + texts[i] + tails[i] + ">", x, x.tube(texts[i].length()), 2);
            Check.feedText(x, texts[i] + tails[i]);
            check.refused("and one more", x, x.tube(texts[i].length() + 1), 4);
        }
        // 80 bytes of letters are left behind the 20 that come then
        StreetTube x = new StreetTube();
        Check.feedText(x, "x".repeat(100));
        check.refused("letters", x, x.tube(100), 4);
        x.feed(0x20202020, 0x20202020, 0x20202020, 0x20202020, 0x74756265);
        check.refused("tube, at the end", x, x.tube(20), 4);
        check.due("it goes on behind the end", x.where(), 20);
    }

    private static void tubeOfATextAsLongAsTheTape() {
        String blanks = " ".repeat(700 - LEAST.length());
        String word = LEAST + ";person b red at 0;seen a b far";
        String longest = " ".repeat(700 - word.length()) + word;
        check.told(longest, 2);
        check.fault(longest.substring(1) + "r", 1, 696);
        check.told(LEAST + blanks, 1);
        check.told(blanks + LEAST, 1);
        check.told(LEAST.replace(";turn", blanks + ";turn"), 1);
        check.fault(blanks.substring(1) + LEAST + "#", 1, 699);
        check.told(MOST, 6);
    }

    private static void aGoodTubeForgetsActsAndImages() {
        StreetTube x = check.told(MOST, 6);
        x.turn(0);
        x.keep();
        x.keep();
        x.keep();
        check.fine("another tube", x, Check.tell(x, FOUR), 2);
        check.due("nothing to undo", x.size(9), 0);
        check.due("no images", x.size(10), 0);
        check.refused("undo()", x, x.undo() ? 1 : 0, 0, 6);
        check.refused("back(0)", x, x.back(0) ? 1 : 0, 0, 1);
        check.fine("keep() begins at 0", x, x.keep(), 0);
        StreetTube other = check.told(FOUR, 2);
        other.keep();
        check.due("all is of the other tube", Whole.asked(x).equals(Whole.asked(other)), true);
        check.fine("a third tube", x, Check.tell(x, MOST), 6);
        StreetTube most = check.told(MOST, 6);
        check.due("all is of the third tube", Whole.asked(x).equals(Whole.asked(most)), true);
        check.due("and can be used up so", Whole.usedUp(x).equals(Whole.usedUp(most)), true);
    }

    /** Texts one behind the other, in each order: all answers are those of the latest alone. */
    private static void nothingOfAnEarlierTubeIsLeft() {
        String[] texts = {LEAST, FOUR, MOST, MOST.replace(";turn s 1 0 2 3 4 5;turn n 0 1 2 3 4 5", "")};
        for (String first : texts) {
            for (String second : texts) {
                StreetTube x = check.told(first, new NaiveText(first).people);
                Whole.asked(x);
                check.due("the second text", Check.tell(x, second), new NaiveText(second).people);
                StreetTube fresh = check.told(second, new NaiveText(second).people);
                check.due("all is of the second text", Whole.asked(x).equals(Whole.asked(fresh)), true);
                check.due("the third text", Check.tell(x, first), new NaiveText(first).people);
                StreetTube again = check.told(first, new NaiveText(first).people);
                check.due("all is of the third text", Whole.asked(x).equals(Whole.asked(again)), true);
            }
        }
    }

    private static void aFaultyTubeStays() {
        String[] faulty = {"", "tube", MOST.replace("at 5", "at 6"), MOST + ";tube", FOUR + ";turn l", FOUR + ";wants a c",
            LEAST + ";person b red at 1", LEAST.substring(0, 50), MOST + ";seen a b far"};
        for (String text : faulty) {
            StreetTube x = check.told(MOST, 6);
            StreetTube twin = check.told(MOST, 6);
            for (StreetTube each : new StreetTube[] {x, twin}) {
                each.turn(1);
                each.keep();
                each.turn(0);
            }
            check.refused("a faulty text", x, Check.tell(x, text), 4);
            int fault = x.fault();
            String asked = Whole.asked(x).replace("fault " + fault, "fault 0");
            check.due("the tube stays", asked.equals(Whole.asked(twin)), true);
            check.due("its acts and images stay", Whole.usedUp(x).equals(Whole.usedUp(twin)), true);
        }
        StreetTube none = new StreetTube();
        check.refused("a faulty text without a tube", none, Check.tell(none, MOST + ";tube"), 4);
        check.refused("there is no tube still", none, none.reach(), 1);
        check.due("no people", none.size(3), 0);
    }

    private static void faultIsOfTheLatestTube() {
        String[] texts = {LEAST, "", LEAST + ";unsure b 0", LEAST + ";tube", LEAST + ";unsure a 2",
            LEAST + ";turn u 0 1;turn v 0 1;turn w 0 1", "turn"};
        StreetTube x = new StreetTube();
        for (int fault = 6; fault >= 0; fault--) {
            check.due("tube", Check.tell(x, texts[fault]), fault == 0 ? 1 : -1);
            check.due("fault()", x.fault(), fault);
            check.refused("tube(1)", x, x.tube(1), 2);
            check.due("fault() behind a tube() refused by 2", x.fault(), fault);
            check.due("where() behind it", x.where(), -1);
            x.slot(0);
            check.due("fault() behind another call", x.fault(), fault);
        }
    }

    private static void whereIsOfTheLatestCall() {
        StreetTube x = check.told(LEAST, 1);
        check.refused("a faulty text", x, Check.tell(x, LEAST + " #"), 4);
        int place = LEAST.length() + 1;
        check.due("where()", x.where(), place);
        x.fault();
        x.trouble();
        x.size(0);
        x.size(99);
        x.feed(0, 0, 0, 0, 0);
        check.noLed("led(0)", x, 0);
        check.due("where() behind calls that aren't refused", x.where(), place);
        check.fine("an accepted call", x, x.slot(0), -2);
        check.due("where() behind it", x.where(), -1);
        check.refused("a faulty tape", x, x.tube(20), 4);
        check.due("where() of place 0", x.where(), 0);
        check.refused("a refused call", x, x.slot(2), 1);
        check.due("where() behind it", x.where(), -1);
        check.refused("a faulty text", x, x.tube(0), 4);
        check.refused("tube() refused by 2", x, x.tube(9), 2);
        check.due("where() behind it", x.where(), -1);
        check.refused("a faulty text", x, x.tube(0), 4);
        check.fine("a good text", x, Check.tell(x, LEAST), 1);
        check.due("where() behind it", x.where(), -1);
    }

    private static void personOfTheFirstAndTheLast() {
        StreetTube x = check.told(MOST, 6);
        // BESIDE differs by 1: the first and the last slot aren't beside each other
        int[] beside = {2, 5, 10, 20, 40, 16};
        int[] foes = {2 | 32, 5, 10, 20, 40, 16 | 1};
        for (int p = 0; p < 6; p++) {
            check.fine("his colour", x, x.person(p, 0), 0);
            check.fine("his slot", x, x.person(p, 1), p);
            check.fine("those beside him", x, x.person(p, 2), beside[p]);
            check.fine("those he quarrels with", x, x.person(p, 3), foes[p]);
            check.fine("his slot as told", x, x.person(p, 4), p);
        }
        StreetTube one = check.told(LEAST, 1);
        check.fine("nobody beside him", one, one.person(0, 2), 0);
        check.fine("nobody he quarrels with", one, one.person(0, 3), 0);
        // two apart
        StreetTube y = check.told(FOUR, 2);
        check.fine("move", y, y.move(1, 3), 2);
        check.fine("two apart aren't beside", y, y.person(0, 2), 0);
    }

    private static void slotsAndTurnsFirstAndLast() {
        StreetTube x = check.told(MOST, 6);
        check.fine("slot(0)", x, x.slot(0), 0);
        check.fine("slot(5)", x, x.slot(5), 5);
        check.fine("turned(0, 5) comes round", x, x.turned(0, 5), 0);
        check.fine("turned(2, 0)", x, x.turned(2, 0), 0);
        check.fine("turned(2, 5)", x, x.turned(2, 5), 5);
        StreetTube y = check.told(LEAST, 1);
        check.fine("slot(0) of nobody", y, y.slot(0), -2);
        check.fine("slot(1)", y, y.slot(1), 0);
    }

    private static void quarrelsAndMetNoneAndAll() {
        StreetTube x = check.told(MOST, 6);
        check.fine("all but a and f", x, x.quarrels(), 5);
        check.fine("met()", x, x.met(), 1 | 4);
        x.turn(0);
        // f is in slot 0 now, beside a; e and f are parted
        check.fine("f beside a, e parted", x, x.quarrels(), 5);
        check.fine("met() turned", x, x.met(), 1 | 2 | 8);
        StreetTube none = check.told(LEAST, 1);
        check.fine("quarrels() of none", none, none.quarrels(), 0);
        check.fine("met() of none", none, none.met(), 0);
        StreetTube all = check.told(FOUR + ";wants a b;wants b a;wants a b;wants b a", 2);
        check.fine("met() of all", all, all.met(), 15);
        all.move(0, 0);
        check.fine("met() of none of them", all, all.met(), 0);
        check.fine("quarrels() of parted ones", all, all.quarrels(), 0);
    }

    private static void ringFirstAndLast() {
        StreetTube least = check.told(LEAST, 1);
        int[] truth = {0, 1, 1, 0, 0, 1, 1, 0};
        for (int i = 0; i < 8; i++) {
            check.fine("truth(" + i + ")", least, least.truth(i), truth[i]);
            check.fine("ring(" + i + ")", least, least.ring(i), truth[i] == 1 ? 0 : -2);
        }
        check.refused("ring(8)", least, least.ring(8), 1);
        int[] images = {1, 2, 5, 6};
        for (int i = 0; i < 4; i++) {
            check.fine("image(0, " + i + ")", least, least.image(0, i), images[i]);
        }
        check.refused("image(0, 4)", least, least.image(0, 4), 1);
        StreetTube most = check.told(MOST, 6);
        check.fine("the first place", most, most.ring(0), 0);
        check.fine("the first sector's last place", most, most.ring(5), 5);
        check.fine("the second sector's first place", most, most.ring(6), 5);
        check.fine("the second sector's last place", most, most.ring(11), 0);
        check.fine("the third sector's first place", most, most.ring(12), 0);
        check.fine("the last sector's first place", most, most.ring(102), 5);
        check.fine("the last place", most, most.ring(107), 0);
        check.fine("the last place's slot", most, most.truth(107), 0);
        check.fine("the first image", most, most.image(0, 0), 0);
        check.fine("the last image", most, most.image(0, 17), 107);
        check.fine("the last one's last image", most, most.image(5, 17), 102);
        check.refused("one image more", most, most.image(0, 18), 1);
    }

    private static void selvesAtTheEnds() {
        StreetTube full = check.told(MOST, 6);
        check.fine("selves() of all slots", full, full.selves(), 33);
        StreetTube x = check.told(FOUR, 2);
        check.fine("selves() with nobody at the ends", x, x.selves(), 0);
        x.move(0, 0);
        check.fine("selves() at the first slot", x, x.selves(), 1);
        x.move(1, 3);
        check.fine("selves() at both ends", x, x.selves(), 3);
        x.move(0, 1);
        check.fine("selves() at the last slot", x, x.selves(), 2);
        StreetTube one = check.told(LEAST, 1);
        check.fine("selves() of two slots", one, one.selves(), 1);
    }

    private static void nearAndFar() {
        StreetTube x = check.told(MOST, 6);
        for (int p = 0; p < 6; p++) {
            for (int q = 0; q < 6; q++) {
                if (p != q) {
                    check.fine("near(" + p + ", " + q + ")", x, x.near(p, q), Math.abs(p - q));
                }
            }
        }
        StreetTube two = check.told("tube mirrors 2 slots 2 shakes 0;person a red at 0;person b red at 1;turn t 1 0", 2);
        check.fine("near(0, 1) of two slots", two, two.near(0, 1), 1);
    }

    private static void seenInNoneAndAll() {
        StreetTube x = check.told(MOST, 6);
        check.fine("all places are red", x, x.seenIn(0), 108);
        check.fine("none is blue", x, x.seenIn(1), 0);
        check.fine("none is green", x, x.seenIn(2), 0);
        StreetTube y = check.told(FOUR, 2);
        check.fine("a fourth is red", y, y.seenIn(0), 4);
        check.fine("a fourth is blue", y, y.seenIn(1), 4);
    }
}
