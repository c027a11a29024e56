import java.util.NoSuchElementException;

/** Feeds texts, compares answers, counts the wrong ones. */
final class Check {
    private int asked = 0;
    private int wrong = 0;

    void due(String what, long got, long want) {
        asked++;
        if (got != want) {
            wrong++;
            System.out.println(what + " answered " + got + ", due is " + want);
        }
    }

    void due(String what, boolean got, boolean want) {
        due(what, got ? 1 : 0, want ? 1 : 0);
    }

    /** The answer just given, and the TROUBLE behind it. */
    void refused(String what, StreetTube x, long got, long want, int trouble) {
        due(what, got, want);
        due("trouble() behind " + what, x.trouble(), trouble);
    }

    void refused(String what, StreetTube x, long got, int trouble) {
        refused(what, x, got, -1, trouble);
    }

    void fine(String what, StreetTube x, long got, long want) {
        refused(what, x, got, want, 0);
    }

    void noLed(String what, StreetTube x, int i) {
        asked++;
        try {
            int got = x.led(i);
            wrong++;
            System.out.println(what + " answered " + got + ", due is a NoSuchElementException");
        } catch (NoSuchElementException e) {
            return;
        }
    }

    /** A text that has a FAULT, at a place; other faults behind it are of no account. */
    void fault(String text, int number, int place) {
        oneFault(text, number, place);
        for (String more : new String[] {" ;#", " tube", " 999;quarrel zz zz"}) {
            if (place < text.length() && text.length() + more.length() <= 700) {
                oneFault(text + more, number, place);
            }
        }
    }

    private void oneFault(String text, int number, int place) {
        StreetTube x = new StreetTube();
        due("tube of <" + text + ">", tell(x, text), -1);
        due("trouble() of <" + text + ">", x.trouble(), 4);
        due("fault() of <" + text + ">", x.fault(), number);
        due("where() of <" + text + ">", x.where(), place);
    }

    /** A FAULT that begins at the mark |, which isn't part of the text. */
    void faultAtMark(String marked, int number) {
        faultAtMark(marked, number, '|');
    }

    void faultAtMark(String marked, int number, char sign) {
        int mark = marked.indexOf(sign);
        fault(marked.substring(0, mark) + marked.substring(mark + 1), number, mark);
    }

    StreetTube told(String text, int people) {
        StreetTube x = new StreetTube();
        due("tube of <" + text + ">", tell(x, text), people);
        due("trouble() of <" + text + ">", x.trouble(), 0);
        due("fault() of <" + text + ">", x.fault(), 0);
        due("where() of <" + text + ">", x.where(), -1);
        return x;
    }

    static int tell(StreetTube x, String text) {
        feedText(x, text);
        return x.tube(text.length());
    }

    static void feedText(StreetTube x, String text) {
        int[] numbers = new int[5];
        for (int at = 0; at < text.length(); at += 20) {
            for (int i = 0; i < 5; i++) {
                numbers[i] = 0;
                for (int j = 0; j < 4; j++) {
                    int k = at + 4 * i + j;
                    numbers[i] = numbers[i] << 8 | (k < text.length() ? text.charAt(k) & 255 : ' ');
                }
            }
            x.feed(numbers[0], numbers[1], numbers[2], numbers[3], numbers[4]);
        }
    }

    void end() {
        System.out.println(asked + " answers, " + wrong + " wrong");
        if (wrong != 0 || asked == 0) {
            System.exit(1);
        }
    }
}
