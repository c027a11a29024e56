import java.util.NoSuchElementException;

/** All that an object tells of itself, as one text, so that two objects can be compared. */
final class Whole {
    private Whole() {
    }

    /** By questions alone; trouble() and where(), which are of the latest call, are left out. */
    static String asked(StreetTube x) {
        StringBuilder text = new StringBuilder();
        for (int what = 0; what <= 11; what++) {
            text.append(x.size(what)).append(' ');
        }
        text.append("fault ").append(x.fault()).append(" led ").append(led(x)).append(' ').append(stand(x));
        for (int p = 0; p < 6; p++) {
            text.append(" person");
            for (int what = 0; what < 5; what++) {
                text.append(' ').append(x.person(p, what));
            }
        }
        for (int t = 0; t < 3; t++) {
            text.append(" turn");
            for (int k = 0; k < 6; k++) {
                text.append(' ').append(x.turned(t, k));
            }
        }
        text.append(" counts ").append(x.quarrels()).append(' ').append(x.met()).append(' ').append(x.reach());
        text.append(' ').append(x.deepest()).append(' ').append(x.evens()).append(' ').append(x.pairs());
        text.append(' ').append(x.centre()).append(' ').append(x.errand()).append(' ').append(x.peace());
        text.append(' ').append(x.colourings(9)).append(' ').append(x.mirrored(9)).append(' ').append(x.fits());
        text.append(' ').append(x.could()).append(' ').append(x.judge()).append(' ').append(x.mean(1, false));
        return text.toString();
    }

    private static String led(StreetTube x) {
        StringBuilder text = new StringBuilder();
        try {
            for (int i = 0; i < 7; i++) {
                text.append(x.led(i)).append(',');
            }
        } catch (NoSuchElementException e) {
            return text.append("no more").toString();
        }
        return text.append("endless").toString();
    }

    private static String stand(StreetTube x) {
        StringBuilder text = new StringBuilder("in");
        for (int p = 0; p < 6; p++) {
            text.append(' ').append(x.person(p, 1));
        }
        return text.toString();
    }

    /** By using it up: all that can be undone, all images, then the tape. */
    static String usedUp(StreetTube x) {
        StringBuilder text = new StringBuilder();
        for (int i = 0; i < 17; i++) {
            text.append("undo ").append(x.undo()).append(' ').append(stand(x)).append(' ');
        }
        for (int image = 0; image < 4; image++) {
            text.append("back ").append(x.back(image)).append(' ').append(stand(x)).append(' ');
        }
        text.append("keep ").append(x.keep()).append(' ').append(x.size(10));
        text.append(" tube ").append(x.tube(x.size(11))).append(' ').append(x.fault()).append(' ').append(x.where());
        return text.append(' ').append(asked(x)).toString();
    }
}
