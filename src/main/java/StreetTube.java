import java.util.NoSuchElementException;

/**
 * A kaleidoscope and the street in it: people in the slots of a sector, mirrored into a ring,
 * and turns by which what is in each slot slides into another one.
 *
 * <p>Every row is made by the constructor and used again: no call makes an object.
 */
public final class StreetTube {
    /** There is none; refused. */
    public static final int NONE = -1;

    /** Nobody, or: it can't be. */
    private static final int NOT = -2;
    private static final int NO_LOOK = -100;

    private static final int TAPE_ROOM = 700;
    private static final int MOST_PEOPLE = 6;
    private static final int MOST_SLOTS = 6;
    private static final int MOST_TURNS = 3;
    private static final int MOST_QUARRELS = 6;
    private static final int MOST_WISHES = 4;
    private static final int MOST_UNSURE = 3;
    private static final int MOST_SEEN = 5;
    private static final int MOST_ACTS = 16;
    private static final int MOST_IMAGES = 3;
    private static final int MOST_COLOURS = 9;
    private static final int MOST_BEADS = 12;
    private static final int MOST_BLUE = 9;
    private static final int MOST_TIMES = 5;
    private static final int MOST_DRAWN_SHAKES = 60;
    private static final int SEEDS = 65537;

    private static final int NO_SUCH = 1;
    private static final int NUMBER = 2;
    private static final int NO_ROOM = 3;
    private static final int FAULTY = 4;
    private static final int NOT_SO = 5;
    private static final int NOTHING = 6;

    private Told told = new Told();
    private final Reader reader = new Reader();
    private final Street street = new Street();
    private final Reach turnReach = new Reach();
    private final Reach mirrorReach = new Reach();
    private final Shaker shaker = new Shaker();
    private int latestTrouble = 0;

    public StreetTube() {
    }

    // ---- the tube

    public int feed(int a, int b, int c, int d, int e) {
        if (reader.taped + 20 > TAPE_ROOM) {
            return NONE;
        }
        reader.put(a);
        reader.put(b);
        reader.put(c);
        reader.put(d);
        reader.put(e);
        return reader.taped;
    }

    public int tube(int n) {
        if (n < 0 || n > reader.taped) {
            return refused(NUMBER);
        }
        if (!reader.read(n)) {
            return refused(FAULTY);
        }
        told = reader.changeFor(told);
        turnReach.known = false;
        mirrorReach.known = false;
        street.begin(told.homeStand());
        return fine(told.people);
    }

    public int fault() {
        return reader.fault;
    }

    public int where() {
        return latestTrouble == FAULTY ? reader.place : NONE;
    }

    // ---- now

    public int person(int p, int what) {
        if (!isPerson(p) || what < 0 || what > 4) {
            return refused(NO_SUCH);
        }
        switch (what) {
            case 0:
                return fine(told.colour[p]);
            case 1:
                return fine(slotOf(p));
            case 2:
                return fine(besideBits(p));
            case 3:
                return fine(told.quarrels.partners(p));
            default:
                return fine(told.home[p]);
        }
    }

    public int slot(int k) {
        return isSlot(k) ? fine(whoIsIn(k)) : refused(NO_SUCH);
    }

    public int turned(int t, int k) {
        if (!isTurn(t) || !isSlot(k)) {
            return refused(NO_SUCH);
        }
        return fine(Six.at(told.turn[t], k));
    }

    public int quarrels() {
        return isTube() ? fine(quarrelsBy(street.stand)) : refused(NO_SUCH);
    }

    public int met() {
        return isTube() ? fine(told.wishes.holding(street.stand)) : refused(NO_SUCH);
    }

    // ---- the ring

    public int ring(int i) {
        return isPlace(i) ? fine(whoIsIn(slotAt(i))) : refused(NO_SUCH);
    }

    public int truth(int i) {
        return isPlace(i) ? fine(slotAt(i)) : refused(NO_SUCH);
    }

    public int image(int p, int i) {
        if (!isPerson(p) || i < 0 || i >= sectors()) {
            return refused(NO_SUCH);
        }
        return fine(placeIn(i, slotOf(p)));
    }

    public int selves() {
        if (!isTube()) {
            return refused(NO_SUCH);
        }
        int bits = 0;
        int places = places();
        for (int i = 0; i < places; i++) {
            int next = i + 1 < places ? i + 1 : 0;
            int who = whoIsIn(slotAt(i));
            if (who >= 0 && who == whoIsIn(slotAt(next))) {
                bits |= 1 << who;
            }
        }
        return fine(bits);
    }

    public int near(int p, int q) {
        if (!areTwo(p, q)) {
            return refused(NO_SUCH);
        }
        int least = places();
        for (int i = 0; i < sectors(); i++) {
            for (int j = 0; j < sectors(); j++) {
                int way = Math.abs(placeIn(i, slotOf(p)) - placeIn(j, slotOf(q)));
                least = Math.min(least, Math.min(way, places() - way));
            }
        }
        return fine(least);
    }

    public int seenIn(int colour) {
        if (!isTube() || colour < 0 || colour > 2) {
            return refused(NO_SUCH);
        }
        int seen = 0;
        for (int p = 0; p < told.people; p++) {
            if (told.colour[p] == colour) {
                seen += sectors();
            }
        }
        return fine(seen);
    }

    // ---- rows of turns

    public int slides(int k, int row, int n) {
        if (!isSlot(k)) {
            return refused(NO_SUCH);
        }
        int change = told.changeBy(row, n);
        return change == NONE ? refused(NUMBER) : fine(Six.at(change, k));
    }

    public int round(int row, int n) {
        if (!isTube()) {
            return refused(NO_SUCH);
        }
        int change = told.changeBy(row, n);
        return change == NONE ? refused(NUMBER) : fine(Six.order(change, told.slots));
    }

    public int even(int row, int n) {
        if (!isTube()) {
            return refused(NO_SUCH);
        }
        int change = told.changeBy(row, n);
        if (change == NONE) {
            return refused(NUMBER);
        }
        return fine(Six.isEven(Six.cycles(change, told.slots), told.slots) ? 1 : 0);
    }

    public int fixes(int row, int n) {
        if (!isTube()) {
            return refused(NO_SUCH);
        }
        int change = told.changeBy(row, n);
        return change == NONE ? refused(NUMBER) : fine(Six.fixed(change, told.slots));
    }

    public int commute(int t, int u) {
        if (!isTurn(t) || !isTurn(u)) {
            return refused(NO_SUCH);
        }
        return fine(Six.commuting(told.turn[t], told.turn[u], told.slots) ? 1 : 0);
    }

    public int undoing(int row, int n) {
        if (!isTube()) {
            return refused(NO_SUCH);
        }
        int change = told.changeBy(row, n);
        if (change == NONE) {
            return refused(NUMBER);
        }
        return fine(reached().depthOf(Six.inverse(change, told.slots)));
    }

    // ---- all that can be come to

    public int reach() {
        return isTube() ? fine(reached().count) : refused(NO_SUCH);
    }

    public int deepest() {
        return isTube() ? fine(reached().most()) : refused(NO_SUCH);
    }

    public int evens() {
        return isTube() ? fine(reached().evenCount()) : refused(NO_SUCH);
    }

    public int orbit(int k) {
        return isSlot(k) ? fine(reached().comesInto(k)) : refused(NO_SUCH);
    }

    public int keeps(int k) {
        return isSlot(k) ? fine(reached().leaving(k)) : refused(NO_SUCH);
    }

    public int pairs() {
        return isTube() ? fine(reached().pairSets()) : refused(NO_SUCH);
    }

    public int centre() {
        return isTube() ? fine(reached().central(told)) : refused(NO_SUCH);
    }

    // ---- errands

    public int errand() {
        return isTube() ? fine(depthOrNot(errandChange())) : refused(NO_SUCH);
    }

    public int errandAt(int i) {
        return isTube() ? turnOnTheWay(errandChange(), i) : refused(NO_SUCH);
    }

    public int peace() {
        return isTube() ? fine(depthOrNot(peaceChange())) : refused(NO_SUCH);
    }

    public int peaceAt(int i) {
        return isTube() ? turnOnTheWay(peaceChange(), i) : refused(NO_SUCH);
    }

    public int bring(int p, int k) {
        if (!isPerson(p) || !isSlot(k)) {
            return refused(NO_SUCH);
        }
        return fine(depthOrNot(reached().firstBringing(slotOf(p), k)));
    }

    public int calmest() {
        if (!isTube()) {
            return refused(NO_SUCH);
        }
        Reach all = reached();
        int least = quarrelsBy(street.stand);
        for (int i = 0; i < all.count && least > 0; i++) {
            least = Math.min(least, quarrelsBy(all.standBehind(i, street.stand, told.people)));
        }
        return fine(least);
    }

    // ---- counted

    public long colourings(int k) {
        if (!isTube()) {
            return refused(NO_SUCH);
        }
        return areColours(k) ? fineLong(reached().colourCount(k)) : refused(NUMBER);
    }

    public long mirrored(int k) {
        if (!isTube()) {
            return refused(NO_SUCH);
        }
        if (!areColours(k)) {
            return refused(NUMBER);
        }
        if (!mirrorReach.known) {
            mirrorReach.explore(told, true);
        }
        return fineLong(mirrorReach.colourCount(k));
    }

    public long necklaces(int n, int k) {
        if (!isTube()) {
            return refused(NO_SUCH);
        }
        if (!areBeads(n) || !areColours(k)) {
            return refused(NUMBER);
        }
        return fineLong(Beads.fixedByGoingRound(n, k) / n);
    }

    public long bracelets(int n, int k) {
        if (!isTube()) {
            return refused(NO_SUCH);
        }
        if (!areBeads(n) || !areColours(k)) {
            return refused(NUMBER);
        }
        long fixed = Beads.fixedByGoingRound(n, k) + Beads.fixedByGoingOver(n, k);
        return fineLong(fixed / (2 * n));
    }

    // ---- unsure slots

    public int fits() {
        return isTube() ? fine(Integer.bitCount(told.fitting())) : refused(NO_SUCH);
    }

    public int fitAt(int i) {
        if (!isTube() || i < 0) {
            return refused(NO_SUCH);
        }
        int fitting = told.fitting();
        int left = i;
        for (int set = 0; set < told.unsureSets(); set++) {
            if ((fitting >> set & 1) == 1) {
                if (left == 0) {
                    return fine(set);
                }
                left--;
            }
        }
        return refused(NO_SUCH);
    }

    public int could() {
        if (!isTube()) {
            return refused(NO_SUCH);
        }
        int fitting = told.fitting();
        int bits = 0;
        for (int set = 0; set < told.unsureSets(); set++) {
            bits |= (fitting >> set & 1) == 1 ? set : 0;
        }
        return fine(bits);
    }

    public int surely() {
        if (!isTube()) {
            return refused(NO_SUCH);
        }
        int fitting = told.fitting();
        int bits = fitting == 0 ? 0 : told.unsureSets() - 1;
        for (int set = 0; set < told.unsureSets(); set++) {
            bits &= (fitting >> set & 1) == 1 ? set : bits;
        }
        return fine(bits);
    }

    public int ask() {
        return isTube() ? fine(whomToAsk(told.fitting())) : refused(NO_SUCH);
    }

    public int askLeaves() {
        if (!isTube()) {
            return refused(NO_SUCH);
        }
        int fitting = told.fitting();
        int who = whomToAsk(fitting);
        return fine(who == NOT ? NOT : told.leftAtMost(fitting, who));
    }

    public int judge() {
        return isTube() ? fine(told.seen.firstBroken(told.homeStand())) : refused(NO_SUCH);
    }

    // ---- by turns

    public int gets(int p, int q, int n) {
        if (!areTwo(p, q)) {
            return refused(NO_SUCH);
        }
        if (n < 0 || n > MOST_TIMES) {
            return refused(NUMBER);
        }
        return fine(Duel.endsBeside(told, slotOf(p), slotOf(q), n, true) ? 1 : 0);
    }

    public int getsBy(int p, int q, int n) {
        if (!areTwo(p, q)) {
            return refused(NO_SUCH);
        }
        if (n < 1 || n > MOST_TIMES) {
            return refused(NUMBER);
        }
        return fine(Duel.firstTurn(told, slotOf(p), slotOf(q), n));
    }

    public int looks(int blue, boolean look, boolean hope, boolean ofStreet) {
        if (!isTube()) {
            refused(NO_SUCH);
            return NO_LOOK;
        }
        if (!isBlue(blue)) {
            refused(NUMBER);
            return NO_LOOK;
        }
        return fine(ofStreet ? Blink.ofStreet(blue, look, hope) : Blink.ofEye(blue, look, hope));
    }

    public int rests(int blue) {
        if (!isTube()) {
            return refused(NO_SUCH);
        }
        if (!isBlue(blue)) {
            return refused(NUMBER);
        }
        int count = 0;
        for (int pair = 0; pair < Blink.PAIRS; pair++) {
            count += Blink.isRest(blue, pair) ? 1 : 0;
        }
        return fine(count);
    }

    public int rest(int blue) {
        if (!isTube()) {
            return refused(NO_SUCH);
        }
        if (!isBlue(blue)) {
            return refused(NUMBER);
        }
        for (int pair = 0; pair < Blink.PAIRS; pair++) {
            if (Blink.isRest(blue, pair)) {
                return fine((Blink.isLook(pair) ? 10 : 0) + (Blink.isHope(pair) ? 1 : 0));
            }
        }
        return fine(NOT);
    }

    // ---- shakes

    public long odds(int p, int q, int n, boolean lower) {
        if (!areTwo(p, q)) {
            return refused(NO_SUCH);
        }
        if (n < 0 || n > MOST_TIMES) {
            return refused(NUMBER);
        }
        shaker.spread(told, slotOf(p), slotOf(q), n);
        return fineLong(inLowestTerms(shaker.besideWeight(), told.shakeWeight(n), lower));
    }

    public long slotOdds(int p, int k, int n, boolean lower) {
        if (!isPerson(p) || !isSlot(k)) {
            return refused(NO_SUCH);
        }
        if (n < 0 || n > MOST_TIMES) {
            return refused(NUMBER);
        }
        // one person taken twice stays a pair in one slot
        shaker.spread(told, slotOf(p), slotOf(p), n);
        return fineLong(inLowestTerms(shaker.weightIn(k), told.shakeWeight(n), lower));
    }

    public long mean(int n, boolean lower) {
        if (!isTube()) {
            return refused(NO_SUCH);
        }
        if (n < 0 || n > MOST_TIMES) {
            return refused(NUMBER);
        }
        // a mean of a sum is the sum of the means, so that each pair can be shaken alone
        long upper = 0;
        for (int i = 0; i < told.quarrels.count; i++) {
            shaker.spread(told, slotOf(told.quarrels.one[i]), slotOf(told.quarrels.other[i]), n);
            upper += shaker.besideWeight();
        }
        return fineLong(inLowestTerms(upper, told.shakeWeight(n), lower));
    }

    public int shaken(int p, int seed, int n) {
        if (!isPerson(p)) {
            return refused(NO_SUCH);
        }
        if (!isSeed(seed) || n < 0 || n > MOST_DRAWN_SHAKES) {
            return refused(NUMBER);
        }
        int stand = street.stand;
        shaker.seed = seed;
        for (int i = 0; i < n; i++) {
            stand = shaker.drawnShake(told, stand);
        }
        return fine(Six.at(stand, p));
    }

    public int peaceIn(int seed, int n) {
        if (!isTube()) {
            return refused(NO_SUCH);
        }
        if (!isSeed(seed) || n < 0 || n > MOST_DRAWN_SHAKES) {
            return refused(NUMBER);
        }
        int stand = street.stand;
        shaker.seed = seed;
        for (int i = 0; i <= n; i++) {
            if (quarrelsBy(stand) == 0) {
                return fine(i);
            }
            stand = shaker.drawnShake(told, stand);
        }
        return fine(NOT);
    }

    // ---- acts

    public int turn(int t) {
        return isTurn(t) ? fine(slideAll(told.turn[t])) : refused(NO_SUCH);
    }

    public int turnBack(int t) {
        if (!isTurn(t)) {
            return refused(NO_SUCH);
        }
        return fine(slideAll(Six.inverse(told.turn[t], told.slots)));
    }

    public int move(int p, int k) {
        if (!isPerson(p) || !isSlot(k)) {
            return refused(NO_SUCH);
        }
        if (whoIsIn(k) != NOT) {
            return refused(NOT_SO);
        }
        int from = slotOf(p);
        street.act(Six.with(street.stand, p, k));
        return fine(from);
    }

    public boolean undo() {
        if (street.acts == 0) {
            refused(NOTHING);
            return false;
        }
        street.takeBack();
        fine(0);
        return true;
    }

    public int keep() {
        if (!isTube()) {
            return refused(NO_SUCH);
        }
        return street.images < MOST_IMAGES ? fine(street.keepImage()) : refused(NO_ROOM);
    }

    public boolean back(int image) {
        if (image < 0 || image >= street.images) {
            refused(NO_SUCH);
            return false;
        }
        street.goBack(image);
        fine(0);
        return true;
    }

    // ---- what is told

    public int led(int i) throws NoSuchElementException {
        int left = i;
        for (int p = 0; p < told.people; p++) {
            if (slotOf(p) != told.home[p]) {
                if (left == 0) {
                    return p;
                }
                left--;
            }
        }
        throw new NoSuchElementException();
    }

    public int size(int what) {
        switch (what) {
            case 0:
                return told.mirrors;
            case 1:
                return told.slots;
            case 2:
                return told.shakes;
            case 3:
                return told.people;
            case 4:
                return told.turns;
            case 5:
                return told.quarrels.count;
            case 6:
                return told.wishes.count;
            case 7:
                return told.unsure;
            case 8:
                return told.seen.count;
            case 9:
                return street.acts;
            case 10:
                return street.images;
            case 11:
                return reader.taped;
            default:
                return NONE;
        }
    }

    public int trouble() {
        return latestTrouble;
    }

    // ---- of all calls

    private int refused(int why) {
        latestTrouble = why;
        return NONE;
    }

    private int fine(int answer) {
        latestTrouble = 0;
        return answer;
    }

    private long fineLong(long answer) {
        latestTrouble = 0;
        return answer;
    }

    private boolean isTube() {
        return told.slots > 0;
    }

    private boolean isPerson(int p) {
        return p >= 0 && p < told.people;
    }

    private boolean areTwo(int p, int q) {
        return isPerson(p) && isPerson(q) && p != q;
    }

    private boolean isSlot(int k) {
        return k >= 0 && k < told.slots;
    }

    private boolean isTurn(int t) {
        return t >= 0 && t < told.turns;
    }

    private boolean isPlace(int i) {
        return i >= 0 && i < places();
    }

    private static boolean areColours(int k) {
        return k >= 1 && k <= MOST_COLOURS;
    }

    private static boolean areBeads(int n) {
        return n >= 1 && n <= MOST_BEADS;
    }

    private static boolean isBlue(int blue) {
        return blue >= 0 && blue <= MOST_BLUE;
    }

    private static boolean isSeed(int seed) {
        return seed >= 0 && seed < SEEDS;
    }

    private int slotOf(int p) {
        return Six.at(street.stand, p);
    }

    private int whoIsIn(int k) {
        for (int p = 0; p < told.people; p++) {
            if (slotOf(p) == k) {
                return p;
            }
        }
        return NOT;
    }

    private int besideBits(int p) {
        int bits = 0;
        for (int q = 0; q < told.people; q++) {
            if (Six.areBeside(slotOf(p), slotOf(q))) {
                bits |= 1 << q;
            }
        }
        return bits;
    }

    private int quarrelsBy(int stand) {
        return Integer.bitCount(told.quarrels.holding(stand));
    }

    private int sectors() {
        return 2 * told.mirrors;
    }

    private int places() {
        return sectors() * told.slots;
    }

    private int slotAt(int place) {
        if (told.slots == 0) {
            return NONE;
        }
        int along = place % told.slots;
        boolean straight = place / told.slots % 2 == 0;
        return straight ? along : told.slots - 1 - along;
    }

    private int placeIn(int sector, int k) {
        int along = sector % 2 == 0 ? k : told.slots - 1 - k;
        return sector * told.slots + along;
    }

    private Reach reached() {
        if (!turnReach.known) {
            turnReach.explore(told, false);
        }
        return turnReach;
    }

    private int errandChange() {
        return reached().firstHolding(told.wishes, told.wishes.all(), street.stand, told.people);
    }

    private int peaceChange() {
        return reached().firstHolding(told.quarrels, 0, street.stand, told.people);
    }

    private int depthOrNot(int change) {
        return change == NONE ? NOT : reached().depth[change];
    }

    private int turnOnTheWay(int change, int i) {
        if (change == NONE || i < 0 || i >= reached().depth[change]) {
            return refused(NO_SUCH);
        }
        return fine(reached().turnAt(change, i));
    }

    private int whomToAsk(int fitting) {
        if (fitting == 0 || told.unsure == 0) {
            return NOT;
        }
        int best = 0;
        for (int u = 1; u < told.unsure; u++) {
            if (told.leftAtMost(fitting, u) < told.leftAtMost(fitting, best)) {
                best = u;
            }
        }
        return best;
    }

    private int slideAll(int change) {
        int before = street.stand;
        street.act(Six.through(before, change, told.people));
        int bits = 0;
        for (int p = 0; p < told.people; p++) {
            if (slotOf(p) != Six.at(before, p)) {
                bits |= 1 << p;
            }
        }
        return bits;
    }

    private static long inLowestTerms(long upper, long under, boolean lower) {
        long divisor = upper;
        long rest = under;
        // Euclid's steps on numbers below 2 to the 63 are fewer than a hundred
        for (int i = 0; i < 100 && rest != 0; i++) {
            long next = divisor % rest;
            divisor = rest;
            rest = next;
        }
        if (divisor == 0) {
            return 0;
        }
        return (lower ? under : upper) / divisor;
    }

    /**
     * Up to six slots in one number, three bits each, so that states are kept and compared without
     * objects. A STAND has the slot of each person; a CHANGE the slot into which each slot slides.
     */
    private static final class Six {
        private static final int NOTHING_CHANGED = 0 | 1 << 3 | 2 << 6 | 3 << 9 | 4 << 12 | 5 << 15;

        private Six() {
        }

        static int at(int six, int i) {
            return six >> 3 * i & 7;
        }

        static int with(int six, int i, int slot) {
            return six & ~(7 << 3 * i) | slot << 3 * i;
        }

        static boolean areBeside(int k, int l) {
            return k - l == 1 || l - k == 1;
        }

        static int same(int count) {
            return NOTHING_CHANGED & (1 << 3 * count) - 1;
        }

        static int otherWayRound(int count) {
            int six = 0;
            for (int i = 0; i < count; i++) {
                six |= count - 1 - i << 3 * i;
            }
            return six;
        }

        /** First the one, which may be a stand, then a change behind it. */
        static int through(int first, int then, int count) {
            int six = 0;
            for (int i = 0; i < count; i++) {
                six |= at(then, at(first, i)) << 3 * i;
            }
            return six;
        }

        static int inverse(int change, int count) {
            int six = 0;
            for (int i = 0; i < count; i++) {
                six |= i << 3 * at(change, i);
            }
            return six;
        }

        static boolean commuting(int one, int other, int count) {
            return through(one, other, count) == through(other, one, count);
        }

        static int fixed(int change, int count) {
            int fixed = 0;
            for (int i = 0; i < count; i++) {
                fixed += at(change, i) == i ? 1 : 0;
            }
            return fixed;
        }

        static int cycles(int change, int count) {
            int passed = 0;
            int cycles = 0;
            for (int i = 0; i < count; i++) {
                if ((passed >> i & 1) == 0) {
                    cycles++;
                }
                int k = i;
                for (int step = 0; step < count && (passed >> k & 1) == 0; step++) {
                    passed |= 1 << k;
                    k = at(change, k);
                }
            }
            return cycles;
        }

        /** A cycle of c slots is made by c - 1 changes of two. */
        static boolean isEven(int cycles, int count) {
            return (count - cycles) % 2 == 0;
        }

        static int order(int change, int count) {
            int done = change;
            int times = 1;
            for (int i = 0; i < Reach.MOST && done != same(count); i++) {
                done = through(done, change, count);
                times++;
            }
            return times;
        }

        /** Its number among all changes of so many slots, below 720. */
        static int rank(int change, int count) {
            int rank = 0;
            int used = 0;
            for (int i = 0; i < count; i++) {
                int slot = at(change, i);
                int usedBelow = Integer.bitCount(used & (1 << slot) - 1);
                rank = rank * (count - i) + slot - usedBelow;
                used |= 1 << slot;
            }
            return rank;
        }
    }

    /** Pairs of people that should be, or were, or shouldn't be beside each other. */
    private static final class PairList {
        private final int[] one;
        private final int[] other;
        private final boolean[] beside;
        private int count = 0;

        PairList(int most) {
            one = new int[most];
            other = new int[most];
            beside = new boolean[most];
        }

        boolean isFull() {
            return count >= one.length;
        }

        void add(int p, int q, boolean areBeside) {
            if (!isFull()) {
                one[count] = p;
                other[count] = q;
                beside[count] = areBeside;
                count++;
            }
        }

        int partners(int p) {
            int bits = 0;
            for (int i = 0; i < count; i++) {
                if (one[i] == p) {
                    bits |= 1 << other[i];
                } else if (other[i] == p) {
                    bits |= 1 << one[i];
                }
            }
            return bits;
        }

        int all() {
            return (1 << count) - 1;
        }

        /** Those that are so by a stand, as bits. */
        int holding(int stand) {
            int bits = 0;
            for (int i = 0; i < count; i++) {
                if (Six.areBeside(Six.at(stand, one[i]), Six.at(stand, other[i])) == beside[i]) {
                    bits |= 1 << i;
                }
            }
            return bits;
        }

        int firstBroken(int stand) {
            int bits = holding(stand);
            for (int i = 0; i < count; i++) {
                if ((bits >> i & 1) == 0) {
                    return i;
                }
            }
            return NOT;
        }
    }

    /** What a text tells. */
    private static final class Told {
        private int mirrors = 0;
        private int slots = 0;
        private int shakes = 0;
        private int people = 0;
        private int turns = 0;
        private int unsure = 0;
        private final int[] colour = new int[MOST_PEOPLE];
        private final int[] home = new int[MOST_PEOPLE];
        private final int[] turn = new int[MOST_TURNS];
        private final int[] unsureWho = new int[MOST_UNSURE];
        private final int[] unsureSlot = new int[MOST_UNSURE];
        private final PairList quarrels = new PairList(MOST_QUARRELS);
        private final PairList wishes = new PairList(MOST_WISHES);
        private final PairList seen = new PairList(MOST_SEEN);

        void clear() {
            mirrors = 0;
            slots = 0;
            shakes = 0;
            people = 0;
            turns = 0;
            unsure = 0;
            quarrels.count = 0;
            wishes.count = 0;
            seen.count = 0;
        }

        void addPerson(int hisColour, int k) {
            if (people < MOST_PEOPLE) {
                colour[people] = hisColour;
                home[people] = k;
                people++;
            }
        }

        void addTurn(int change) {
            if (turns < MOST_TURNS) {
                turn[turns] = change;
                turns++;
            }
        }

        void addUnsure(int p, int k) {
            if (unsure < MOST_UNSURE) {
                unsureWho[unsure] = p;
                unsureSlot[unsure] = k;
                unsure++;
            }
        }

        boolean isHome(int k) {
            for (int p = 0; p < people; p++) {
                if (home[p] == k) {
                    return true;
                }
            }
            return false;
        }

        boolean isUnsure(int p) {
            for (int u = 0; u < unsure; u++) {
                if (unsureWho[u] == p) {
                    return true;
                }
            }
            return false;
        }

        int homeStand() {
            int stand = 0;
            for (int p = 0; p < people; p++) {
                stand |= home[p] << 3 * p;
            }
            return stand;
        }

        /** NONE if it is no ROW. The last turn has the lowest digit, so it is built from its end. */
        int changeBy(int row, int n) {
            if (n < 0 || n > 6 || row < 0) {
                return NONE;
            }
            int change = Six.same(slots);
            int left = row;
            for (int i = 0; i < n; i++) {
                int digit = left % 10;
                if (digit < 1 || digit > turns) {
                    return NONE;
                }
                change = Six.through(turn[digit - 1], change, slots);
                left /= 10;
            }
            return left == 0 ? change : NONE;
        }

        int unsureSets() {
            return 1 << unsure;
        }

        /** A bit for each set of unsure people: 1 if it is one of the FITS. */
        int fitting() {
            int bits = 0;
            for (int set = 0; set < unsureSets(); set++) {
                int stand = standBy(set);
                if (areUnlike(stand) && seen.holding(stand) == seen.all()) {
                    bits |= 1 << set;
                }
            }
            return bits;
        }

        private int standBy(int set) {
            int stand = homeStand();
            for (int u = 0; u < unsure; u++) {
                if ((set >> u & 1) == 1) {
                    stand = Six.with(stand, unsureWho[u], unsureSlot[u]);
                }
            }
            return stand;
        }

        private boolean areUnlike(int stand) {
            int used = 0;
            for (int p = 0; p < people; p++) {
                used |= 1 << Six.at(stand, p);
            }
            return Integer.bitCount(used) == people;
        }

        /** How many FITS are left at most when it is told of an unsure one. */
        int leftAtMost(int fitting, int u) {
            int within = 0;
            for (int set = 0; set < unsureSets(); set++) {
                within += (fitting >> set & 1) & (set >> u & 1);
            }
            return Math.max(within, Integer.bitCount(fitting) - within);
        }

        /** What all that n shakes can do weighs together, in parts of a hundredth by turns. */
        long shakeWeight(int n) {
            long weight = 1;
            for (int i = 0; i < n; i++) {
                weight *= 100 * turns;
            }
            return weight;
        }
    }

    /** Has THE TAPE; reads a text from its left and stops at the first FAULT. */
    private static final class Reader {
        private static final int FORM = 1;
        private static final int NOT_TOLD = 2;
        private static final int AGAIN = 3;
        private static final int BOUNDS = 4;
        private static final int MANY = 5;
        private static final int LACKS = 6;

        private static final int END = 0;
        private static final int WORD = 1;
        private static final int WHOLE = 2;
        private static final int SEMICOLON = 3;
        private static final int NO_TOKEN = 4;

        /** The sorts of LINES, in the order of lineWords. */
        private static final int TUBE = 0;
        private static final int PERSON = 1;
        private static final int TURN = 2;
        private static final int QUARREL = 3;
        private static final int WANTS = 4;
        private static final int SHUNS = 5;
        private static final int UNSURE = 6;
        private static final int SEEN = 7;

        private static final int MOST_NAMES = MOST_PEOPLE + MOST_TURNS;

        private final long[] lineWords = {
            coded("tube"), coded("person"), coded("turn"), coded("quarrel"),
            coded("wants"), coded("shuns"), coded("unsure"), coded("seen")
        };
        private final byte[] text = new byte[TAPE_ROOM];
        private int taped = 0;
        private int end = 0;
        private int at = 0;
        private int kind = END;
        private int start = 0;
        /** A WORD by its letters to the base of 27, or what a WHOLE is. */
        private long value = 0;
        private final long[] names = new long[MOST_NAMES];
        /** The person of a name; NONE if it is a turn's. */
        private final int[] named = new int[MOST_NAMES];
        private int nameCount = 0;
        /** A text is read into this one, so that a FAULT leaves the TUBE as it was. */
        private Told told = new Told();
        private int fault = 0;
        private int place = 0;

        /** Four bytes come behind THE TAPE, the highest first. */
        void put(int number) {
            for (int shift = 24; shift >= 0 && taped < TAPE_ROOM; shift -= 8) {
                text[taped] = (byte) (number >> shift);
                taped++;
            }
        }

        boolean read(int n) {
            end = Math.min(n, taped);
            taped = 0;
            at = 0;
            nameCount = 0;
            fault = 0;
            place = 0;
            told.clear();
            step();
            boolean more = true;
            // a line has at least one byte
            for (int lines = 0; more && lines <= end; lines++) {
                more = takeLine() && goesOn();
            }
            return fault == 0;
        }

        /** What was read, for what is no longer needed: the next text is read into that one. */
        Told changeFor(Told old) {
            Told read = told;
            told = old;
            return read;
        }

        private boolean failHere(int number) {
            fault = number;
            place = start;
            return false;
        }

        private void step() {
            while (at < end && text[at] == ' ') {
                at++;
            }
            start = at;
            if (at >= end) {
                kind = END;
            } else if (text[at] == ';') {
                kind = SEMICOLON;
                at++;
            } else if (text[at] >= 'a' && text[at] <= 'z') {
                takeWord();
            } else if (text[at] >= '0' && text[at] <= '9') {
                takeWhole();
            } else {
                kind = NO_TOKEN;
            }
        }

        private void takeWord() {
            value = 0;
            while (at < end && text[at] >= 'a' && text[at] <= 'z') {
                value = value * 27 + text[at] - 'a' + 1;
                at++;
            }
            kind = at - start <= 8 ? WORD : NO_TOKEN;
        }

        private void takeWhole() {
            value = 0;
            while (at < end && text[at] >= '0' && text[at] <= '9') {
                value = value * 10 + text[at] - '0';
                at++;
            }
            kind = at - start <= 3 ? WHOLE : NO_TOKEN;
        }

        private static long coded(String word) {
            long code = 0;
            for (int i = 0; i < word.length(); i++) {
                code = code * 27 + word.charAt(i) - 'a' + 1;
            }
            return code;
        }

        private boolean isWord(String word) {
            return kind == WORD && value == coded(word);
        }

        /** Which LINE the WORD here begins; NONE if it begins none, so that it may be a NAME. */
        private int lineSort() {
            if (kind != WORD) {
                return NONE;
            }
            for (int sort = 0; sort < lineWords.length; sort++) {
                if (lineWords[sort] == value) {
                    return sort;
                }
            }
            return NONE;
        }

        private boolean takeLine() {
            int sort = lineSort();
            if (sort == NONE) {
                return failHere(FORM);
            }
            if (sort == TUBE && told.slots > 0) {
                return failHere(AGAIN);
            }
            if (sort != TUBE && told.slots == 0) {
                return failHere(LACKS);
            }
            if (isFull(sort)) {
                return failHere(MANY);
            }
            step();
            switch (sort) {
                case TUBE:
                    return takeTube();
                case PERSON:
                    return takePerson();
                case TURN:
                    return takeTurn();
                case QUARREL:
                    return takeQuarrel();
                case UNSURE:
                    return takeUnsure();
                case SEEN:
                    return takeSeen();
                default:
                    return takeWish(sort == WANTS);
            }
        }

        private boolean isFull(int sort) {
            switch (sort) {
                case PERSON:
                    return told.people >= MOST_PEOPLE;
                case TURN:
                    return told.turns >= MOST_TURNS;
                case QUARREL:
                    return told.quarrels.isFull();
                case WANTS:
                case SHUNS:
                    return told.wishes.isFull();
                case UNSURE:
                    return told.unsure >= MOST_UNSURE;
                case SEEN:
                    return told.seen.isFull();
                default:
                    return false;
            }
        }

        private boolean goesOn() {
            if (kind == SEMICOLON) {
                step();
                return true;
            }
            if (kind != END) {
                return failHere(FORM);
            }
            if (told.people == 0 || told.turns == 0) {
                failHere(LACKS);
            }
            return false;
        }

        private boolean takeTube() {
            if (!takeThis("mirrors")) {
                return false;
            }
            int mirrors = takeBetween(2, 9);
            if (mirrors == NONE || !takeThis("slots")) {
                return false;
            }
            int slots = takeBetween(2, MOST_SLOTS);
            if (slots == NONE || !takeThis("shakes")) {
                return false;
            }
            int shakes = takeBetween(0, 100);
            if (shakes == NONE) {
                return false;
            }
            told.mirrors = mirrors;
            told.slots = slots;
            told.shakes = shakes;
            return true;
        }

        private boolean takePerson() {
            if (!takeNewName(told.people)) {
                return false;
            }
            int colour = isWord("red") ? 0 : isWord("blue") ? 1 : isWord("green") ? 2 : NONE;
            if (colour == NONE) {
                return failHere(FORM);
            }
            step();
            if (!takeThis("at") || !isBetween(0, told.slots - 1)) {
                return false;
            }
            if (told.isHome((int) value)) {
                return failHere(AGAIN);
            }
            told.addPerson(colour, (int) value);
            step();
            return true;
        }

        private boolean takeTurn() {
            if (!takeNewName(NONE)) {
                return false;
            }
            int change = 0;
            int used = 0;
            for (int k = 0; k < told.slots; k++) {
                if (!isBetween(0, told.slots - 1)) {
                    return false;
                }
                int into = (int) value;
                if ((used >> into & 1) == 1) {
                    return failHere(AGAIN);
                }
                used |= 1 << into;
                change = Six.with(change, k, into);
                step();
            }
            told.addTurn(change);
            return true;
        }

        private boolean takeQuarrel() {
            int p = takePersonsName();
            if (p == NONE) {
                return false;
            }
            int q = personHere();
            if (q == NONE) {
                return false;
            }
            if (q == p || (told.quarrels.partners(p) >> q & 1) == 1) {
                return failHere(AGAIN);
            }
            told.quarrels.add(p, q, true);
            step();
            return true;
        }

        private boolean takeWish(boolean beside) {
            int p = takePersonsName();
            int q = p == NONE ? NONE : takeAnother(p);
            if (q == NONE) {
                return false;
            }
            told.wishes.add(p, q, beside);
            return true;
        }

        private boolean takeUnsure() {
            int p = personHere();
            if (p == NONE) {
                return false;
            }
            if (told.isUnsure(p)) {
                return failHere(AGAIN);
            }
            step();
            int k = takeBetween(0, told.slots - 1);
            if (k == NONE) {
                return false;
            }
            told.addUnsure(p, k);
            return true;
        }

        private boolean takeSeen() {
            int p = takePersonsName();
            int q = p == NONE ? NONE : takeAnother(p);
            if (q == NONE) {
                return false;
            }
            boolean beside = isWord("beside");
            if (!beside && !isWord("far")) {
                return failHere(FORM);
            }
            told.seen.add(p, q, beside);
            step();
            return true;
        }

        private boolean takeThis(String word) {
            if (!isWord(word)) {
                return failHere(FORM);
            }
            step();
            return true;
        }

        private boolean isBetween(int least, int most) {
            if (kind != WHOLE) {
                return failHere(FORM);
            }
            if (value < least || value > most) {
                return failHere(BOUNDS);
            }
            return true;
        }

        private int takeBetween(int least, int most) {
            if (!isBetween(least, most)) {
                return NONE;
            }
            int taken = (int) value;
            step();
            return taken;
        }

        private int nameHere() {
            for (int i = 0; i < nameCount; i++) {
                if (names[i] == value) {
                    return i;
                }
            }
            return NONE;
        }

        private boolean takeNewName(int person) {
            if (kind != WORD || lineSort() != NONE) {
                return failHere(FORM);
            }
            if (nameHere() != NONE) {
                return failHere(AGAIN);
            }
            if (nameCount < MOST_NAMES) {
                names[nameCount] = value;
                named[nameCount] = person;
                nameCount++;
            }
            step();
            return true;
        }

        private int personHere() {
            if (kind != WORD || lineSort() != NONE) {
                failHere(FORM);
                return NONE;
            }
            int name = nameHere();
            int person = name == NONE ? NONE : named[name];
            if (person == NONE) {
                failHere(NOT_TOLD);
            }
            return person;
        }

        private int takePersonsName() {
            int person = personHere();
            if (person != NONE) {
                step();
            }
            return person;
        }

        private int takeAnother(int first) {
            int person = personHere();
            if (person == NONE) {
                return NONE;
            }
            if (person == first) {
                failHere(AGAIN);
                return NONE;
            }
            step();
            return person;
        }
    }

    /** Where people are, what can be undone, and the IMAGES kept. */
    private static final class Street {
        private int stand = 0;
        private final int[] before = new int[MOST_ACTS];
        private int acts = 0;
        private final int[] kept = new int[MOST_IMAGES];
        private int images = 0;

        void begin(int first) {
            stand = first;
            acts = 0;
            images = 0;
        }

        void act(int next) {
            if (acts == MOST_ACTS) {
                System.arraycopy(before, 1, before, 0, MOST_ACTS - 1);
                acts--;
            }
            before[acts] = stand;
            acts++;
            stand = next;
        }

        void takeBack() {
            if (acts > 0) {
                acts--;
                stand = before[acts];
            }
        }

        int keepImage() {
            if (images >= MOST_IMAGES) {
                return NONE;
            }
            kept[images] = stand;
            images++;
            return images - 1;
        }

        void goBack(int number) {
            if (number >= 0 && number < images) {
                stand = kept[number];
                acts = 0;
            }
        }
    }

    /**
     * All changes that can be come to, by fewest turns, of like ones the first row by turns: each
     * is found from those before it in this order, so the first that will do is the one looked for.
     */
    private static final class Reach {
        private static final int MOST = 720;

        private boolean known = false;
        private int slots = 0;
        private int count = 0;
        private final int[] change = new int[MOST];
        private final int[] depth = new int[MOST];
        private final int[] from = new int[MOST];
        private final int[] by = new int[MOST];
        private final int[] indexOfRank = new int[MOST];
        private final int[] withCycles = new int[MOST_SLOTS + 1];

        void explore(Told told, boolean mirror) {
            slots = told.slots;
            count = 0;
            for (int i = 0; i < MOST; i++) {
                indexOfRank[i] = NONE;
            }
            for (int c = 0; c <= MOST_SLOTS; c++) {
                withCycles[c] = 0;
            }
            find(Six.same(slots), NONE, NONE);
            int mirroring = Six.otherWayRound(slots);
            for (int i = 0; i < count && i < MOST; i++) {
                for (int t = 0; t < told.turns; t++) {
                    find(Six.through(change[i], told.turn[t], slots), i, t);
                }
                if (mirror) {
                    find(Six.through(change[i], mirroring, slots), i, told.turns);
                }
            }
            known = true;
        }

        private void find(int found, int source, int turn) {
            int rank = Six.rank(found, slots);
            if (rank < 0 || rank >= MOST || indexOfRank[rank] != NONE || count >= MOST) {
                return;
            }
            indexOfRank[rank] = count;
            change[count] = found;
            depth[count] = source == NONE ? 0 : depth[source] + 1;
            from[count] = source;
            by[count] = turn;
            withCycles[Six.cycles(found, slots)]++;
            count++;
        }

        int depthOf(int looked) {
            int rank = Six.rank(looked, slots);
            int index = rank < 0 || rank >= MOST ? NONE : indexOfRank[rank];
            return index == NONE ? NONE : depth[index];
        }

        int most() {
            return count == 0 ? 0 : depth[count - 1];
        }

        int evenCount() {
            int evens = 0;
            for (int c = 0; c <= slots; c++) {
                evens += Six.isEven(c, slots) ? withCycles[c] : 0;
            }
            return evens;
        }

        int comesInto(int k) {
            int bits = 0;
            for (int i = 0; i < count; i++) {
                bits |= 1 << Six.at(change[i], k);
            }
            return bits;
        }

        int leaving(int k) {
            int leaving = 0;
            for (int i = 0; i < count; i++) {
                leaving += Six.at(change[i], k) == k ? 1 : 0;
            }
            return leaving;
        }

        int pairSets() {
            // bit 8 k + l stands for the slots k and l, k the lesser
            long passed = 0;
            int sets = 0;
            for (int l = 1; l < slots; l++) {
                for (int k = 0; k < l; k++) {
                    if ((passed >> 8 * k + l & 1) == 0) {
                        sets++;
                        passed |= pairsFrom(k, l);
                    }
                }
            }
            return sets;
        }

        private long pairsFrom(int k, int l) {
            long bits = 0;
            for (int i = 0; i < count; i++) {
                int one = Six.at(change[i], k);
                int other = Six.at(change[i], l);
                bits |= 1L << 8 * Math.min(one, other) + Math.max(one, other);
            }
            return bits;
        }

        int central(Told told) {
            int central = 0;
            for (int i = 0; i < count; i++) {
                boolean all = true;
                for (int t = 0; t < told.turns && all; t++) {
                    all = Six.commuting(change[i], told.turn[t], slots);
                }
                central += all ? 1 : 0;
            }
            return central;
        }

        int standBehind(int index, int stand, int people) {
            return Six.through(stand, change[index], people);
        }

        int firstHolding(PairList pairList, int wanted, int stand, int people) {
            for (int i = 0; i < count; i++) {
                if (pairList.holding(standBehind(i, stand, people)) == wanted) {
                    return i;
                }
            }
            return NONE;
        }

        int firstBringing(int k, int into) {
            for (int i = 0; i < count; i++) {
                if (Six.at(change[i], k) == into) {
                    return i;
                }
            }
            return NONE;
        }

        int turnAt(int index, int step) {
            int i = index;
            for (int d = depth[index]; d > step + 1 && from[i] != NONE; d--) {
                i = from[i];
            }
            return by[i];
        }

        /** Burnside: the mean, over all changes, of the colourings that each leaves as they are. */
        long colourCount(int colours) {
            long fixed = 0;
            long each = 1;
            for (int c = 1; c <= slots; c++) {
                each *= colours;
                fixed += withCycles[c] * each;
            }
            return count == 0 ? 0 : fixed / count;
        }
    }

    /** Necklaces and bracelets, by what each way of going round or over leaves as it is. */
    private static final class Beads {
        private Beads() {
        }

        static long power(int base, int times) {
            long power = 1;
            for (int i = 0; i < times; i++) {
                power *= base;
            }
            return power;
        }

        static long fixedByGoingRound(int n, int k) {
            long fixed = 0;
            for (int by = 1; by <= n; by++) {
                fixed += power(k, commonPart(by, n));
            }
            return fixed;
        }

        private static int commonPart(int by, int n) {
            int common = 1;
            for (int d = 2; d <= n; d++) {
                if (by % d == 0 && n % d == 0) {
                    common = d;
                }
            }
            return common;
        }

        static long fixedByGoingOver(int n, int k) {
            if (n % 2 == 1) {
                return n * power(k, (n + 1) / 2);
            }
            // half of the axes go through two beads, half between beads
            return n / 2 * (power(k, n / 2 + 1) + power(k, n / 2));
        }
    }

    /** Two who turn by turns: only the slots of the two people matter. */
    private static final class Duel {
        private Duel() {
        }

        /** Whether the two are beside each other in the end, n turns being left, both turning best. */
        private static boolean endsBeside(Told told, int k, int l, int n, boolean wanted) {
            if (n <= 0) {
                return Six.areBeside(k, l);
            }
            if (endsBeside(told, k, l, n - 1, !wanted) == wanted) {
                return wanted;
            }
            for (int t = 0; t < told.turns; t++) {
                int turn = told.turn[t];
                if (endsBeside(told, Six.at(turn, k), Six.at(turn, l), n - 1, !wanted) == wanted) {
                    return wanted;
                }
            }
            return !wanted;
        }

        static int firstTurn(Told told, int k, int l, int n) {
            if (endsBeside(told, k, l, n - 1, false)) {
                return NOT;
            }
            for (int t = 0; t < told.turns; t++) {
                int turn = told.turn[t];
                if (endsBeside(told, Six.at(turn, k), Six.at(turn, l), n - 1, false)) {
                    return t;
                }
            }
            return NOT;
        }
    }

    /** LOOK and BLINK. Pairs are numbered in the order of rest(): 2 if looked, and 1 if hoped. */
    private static final class Blink {
        private static final int PAIRS = 4;

        private Blink() {
        }

        static boolean isLook(int pair) {
            return pair >= 2;
        }

        static boolean isHope(int pair) {
            return pair % 2 == 1;
        }

        static int ofEye(int blue, boolean look, boolean hope) {
            if (look) {
                return hope ? 3 : 1 - blue;
            }
            return hope ? 0 : 1;
        }

        static int ofStreet(int blue, boolean look, boolean hope) {
            if (hope) {
                return look ? 3 : 2 - blue;
            }
            return 1;
        }

        static boolean isRest(int blue, int pair) {
            boolean look = isLook(pair);
            boolean hope = isHope(pair);
            return ofEye(blue, look, hope) >= ofEye(blue, !look, hope)
                    && ofStreet(blue, look, hope) >= ofStreet(blue, look, !hope);
        }
    }

    /** SHAKES by chance, of two people at a time, and by draws. */
    private static final class Shaker {
        /** 8 k + l: the one in slot k, the other in slot l. */
        private static final int STATES = 64;

        private final long[] weight = new long[STATES];
        private final long[] next = new long[STATES];
        private int slots = 0;
        private int seed = 0;

        /** Weighs where two from slots k and l can be behind n shakes; all weigh shakeWeight(n). */
        void spread(Told told, int k, int l, int n) {
            slots = told.slots;
            for (int i = 0; i < STATES; i++) {
                weight[i] = 0;
            }
            weight[state(k, l)] = 1;
            for (int i = 0; i < n; i++) {
                shakeOnce(told);
            }
        }

        private static int state(int k, int l) {
            return (k & 7) << 3 | l & 7;
        }

        private void shakeOnce(Told told) {
            long still = (100 - told.shakes) * told.turns;
            for (int i = 0; i < STATES; i++) {
                next[i] = weight[i] * still;
            }
            for (int i = 0; i < STATES; i++) {
                if (weight[i] != 0) {
                    for (int t = 0; t < told.turns; t++) {
                        int turn = told.turn[t];
                        int into = state(Six.at(turn, i >> 3), Six.at(turn, i & 7));
                        next[into] += weight[i] * told.shakes;
                    }
                }
            }
            System.arraycopy(next, 0, weight, 0, STATES);
        }

        long besideWeight() {
            long sum = 0;
            for (int k = 0; k + 1 < slots; k++) {
                sum += weight[state(k, k + 1)] + weight[state(k + 1, k)];
            }
            return sum;
        }

        long weightIn(int k) {
            return weight[state(k, k)];
        }

        private int draw() {
            seed = (75 * seed + 74) % SEEDS;
            return seed;
        }

        /** The stand behind one shake by the seed. */
        int drawnShake(Told told, int stand) {
            if (told.turns == 0 || draw() % 100 >= told.shakes) {
                return stand;
            }
            return Six.through(stand, told.turn[draw() % told.turns], told.people);
        }
    }
}
