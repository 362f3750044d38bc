/** Places of few seats given to askers by wish lists and votes; ../shared/DOC.md promises what each call answers. */
public final class WishPlaces {
    public static final int NONE = -1, BAD = -2, NO = -3, FULL = -4;

    private static final int BAD_VOTES = -100;
    private static final int BAD_PART = -1;

    private static final int ASKERS = 8;
    private static final int PLACES = 6;
    private static final int SEATS = 3;
    private static final int WISHES = 6;
    private static final int TOLD = 4;
    private static final int WORTH_OF_NONE = 7;
    private static final int WORTH_UNWISHED = 8;

    private static final int LEFT_OPEN = 0;
    private static final int TO_FIRSTS = 4;
    private static final int TO_FAIREST = 5;
    private static final int TO_MOST = 6;
    private static final int TO_BEATER = 7;
    private static final int TO_BETTER = 8;
    private static final int TO_TRADE = 9;

    // Gains by WORTH. No digit to the base 16 overflows: at most 8 askers have a like WORTH.
    private static final int[] FIRSTS_GAINS = {0, 1048576, 65536, 4096, 256, 16, 1, 0};
    private static final int[] FAIREST_GAINS = {0, -1, -16, -256, -4096, -65536, -1048576, -16777216};
    private static final int[] MOST_GAINS = {0, -1, -2, -3, -4, -5, -6, -1000};

    // Weighs one more first above all that having a place can weigh.
    private static final int FIRST_GAIN = 100;

    // A fraction of VOTES has parts of at most 8: it can't grow more often than this.
    private static final int FACTOR_STEPS = 64;

    private final Board board;
    private final Search all;
    private final Search steady;
    private final Search aimed;
    private final Steady steadiness;
    private final Trade trade;
    private final Ring ring;
    private final Lots lots;
    private final Eating eating;
    private final int[] row;
    private long above;
    private long below;

    public WishPlaces() {
        board = new Board();
        int[] slots = new int[Search.STATES];
        all = new Search(board, slots);
        steady = new Search(board, slots);
        aimed = new Search(board, slots);
        steadiness = new Steady(board);
        trade = new Trade(board);
        ring = new Ring(board);
        lots = new Lots(board);
        eating = new Eating(board);
        row = new int[ASKERS];
        above = 0;
        below = 1;
    }

    // ---- askers, places, givings

    public int asker() {
        if (board.askers >= ASKERS) {
            return FULL;
        }
        return board.addAsker();
    }

    public int place(int seats) {
        if (!isSeats(seats)) {
            return BAD;
        }
        if (board.places >= PLACES) {
            return FULL;
        }
        return board.addPlace(seats);
    }

    public int seats(int place, int seats) {
        if (!board.isPlace(place) || !isSeats(seats)) {
            return BAD;
        }
        for (int g = 0; g < TOLD; g++) {
            if (board.holders(g, place, NONE) > seats) {
                return NO;
            }
        }
        return board.setSeats(place, seats);
    }

    public int wish(int asker, int place, int v) {
        if (!board.isAsker(asker) || !board.isPlace(place) || v < 0 || v > WISHES) {
            return BAD;
        }
        return board.setWish(asker, place, v);
    }

    public int worth(int asker, int place) {
        if (!board.isAsker(asker) || !isPlaceOrNone(place)) {
            return BAD;
        }
        return board.worthOf(asker, place);
    }

    public long givings() {
        solveAll();
        return all.howMany();
    }

    public int givingAt(long i, int asker) {
        if (!board.isAsker(asker) || i < 0 || i >= givings()) {
            return BAD;
        }
        all.pathTo((int) i, row);
        return row[asker];
    }

    public int give(int giving, int asker, int place) {
        if (!isTold(giving) || !board.isAsker(asker) || !isPlaceOrNone(place)) {
            return BAD;
        }
        if (place != NONE && !isFree(giving, asker, place)) {
            return NO;
        }
        board.tell(giving, asker, place);
        return 1;
    }

    public int become(int giving, int what) {
        if (!isTold(giving) || what < 0 || what > TO_TRADE) {
            return BAD;
        }
        findRow(giving, what);
        for (int a = 0; a < board.askers; a++) {
            board.tell(giving, a, row[a]);
        }
        return 1;
    }

    public int has(int giving, int asker) {
        if (!isTold(giving) || !board.isAsker(asker)) {
            return BAD;
        }
        return board.toldOf(giving, asker);
    }

    public long placeOf(int giving) {
        if (!isTold(giving)) {
            return BAD;
        }
        solveAll();
        copyTold(giving);
        return all.rankOf(row);
    }

    public int many(int giving, int v) {
        if (!isTold(giving) || v < 1 || v > WORTH_OF_NONE) {
            return BAD;
        }
        int many = 0;
        for (int a = 0; a < board.askers; a++) {
            if (board.toldWorth(giving, a) == v) {
                many++;
            }
        }
        return many;
    }

    // ---- votes

    public int votes(int n, int m) {
        if (!isTold(n) || !isTold(m)) {
            return BAD_VOTES;
        }
        copyTold(n);
        return countRisers(m) - countFallers(m);
    }

    public int margin(int m) {
        if (!isTold(m)) {
            return BAD;
        }
        solveVotes(m, 1, -1);
        return aimed.bestGain();
    }

    public int beater(int m, int asker) {
        if (!isTold(m) || !board.isAsker(asker)) {
            return BAD;
        }
        solveVotes(m, 1, -1);
        aimed.pathTo(0, row);
        return row[asker];
    }

    public int factor(int m) {
        if (!isTold(m)) {
            return BAD;
        }
        if (!canAnyRise(m)) {
            tellFraction(0, 1);
        } else if (better(m) > 0) {
            tellFraction(1, 0);
        } else {
            findFactor(m);
        }
        return 1;
    }

    public long part(int what) {
        if (what != 0 && what != 1) {
            return BAD_PART;
        }
        return what == 0 ? above : below;
    }

    public int better(int m) {
        if (!isTold(m)) {
            return BAD;
        }
        solveVotes(m, 1, Search.RULED_OUT);
        return aimed.bestGain();
    }

    public long standing() {
        steadiness.learn();
        steadiness.fillGains(steady, 1, 0);
        steady.solve();
        return steady.bestGain() == steadiness.most ? steady.howMany() : 0;
    }

    public int standingAt(long i, int asker) {
        if (!board.isAsker(asker) || i < 0 || i >= standing()) {
            return BAD;
        }
        steady.pathTo((int) i, row);
        return row[asker];
    }

    public int standingMany(int what) {
        if (what != 0 && what != 1) {
            return BAD;
        }
        if (standing() == 0) {
            return NONE;
        }
        steadiness.fillGains(aimed, FIRST_GAIN, what == 0 ? 1 : -1);
        aimed.solve();
        int placed = aimed.bestGain() - FIRST_GAIN * steadiness.most;
        return what == 0 ? placed : -placed;
    }

    // ---- turns, trade

    public int turn(int order, int asker) {
        if (!board.isAsker(asker) || !isOrder(order)) {
            return BAD;
        }
        for (int a = 0; a < board.askers; a++) {
            int inTurn = (order >> (3 * a)) & 7;
            fillTurn(inTurn, 3 * a);
        }
        aimed.solve();
        aimed.pathTo(0, row);
        return row[asker];
    }

    public int round(int h, int asker) {
        if (!isTold(h) || !board.isAsker(asker)) {
            return BAD;
        }
        trade.run(h);
        return trade.servedIn[asker];
    }

    public int leaving(int m, int h, int what) {
        if (!isTold(m) || !isTold(h) || what < NONE) {
            return BAD;
        }
        ring.find(m, h);
        if (what == NONE) {
            return ring.length;
        }
        return what < ring.length && what < ASKERS ? ring.members[what] : NONE;
    }

    // ---- lots, shares

    public int chance(int asker, int place) {
        if (!board.isAsker(asker) || !board.isPlace(place)) {
            return BAD;
        }
        return lots.ordersFor(asker, place);
    }

    public int share(int asker, int place) {
        if (!board.isAsker(asker) || !board.isPlace(place)) {
            return BAD;
        }
        eating.run();
        long eaten = eating.eatenBy(asker, place);
        if (eaten == 0) {
            return 0;
        }
        tellFraction(eaten, eating.whole);
        return 1;
    }

    public int envies(int asker, int other) {
        if (!board.isAsker(asker) || !board.isAsker(other) || asker == other) {
            return BAD;
        }
        eating.run();
        for (int v = 1; v <= WISHES; v++) {
            if (eating.eatenUpTo(asker, v, asker) < eating.eatenUpTo(asker, v, other)) {
                return 1;
            }
        }
        return 0;
    }

    public int count(int what) {
        switch (what) {
            case 0:
                return board.askers;
            case 1:
                return board.places;
            case 2:
                return board.allSeats();
            case 3:
                return board.allWishes();
            default:
                return BAD;
        }
    }

    public long digest() {
        long h = 331;
        for (int what = 0; what <= 3; what++) {
            h = 31 * h + count(what);
        }
        h = board.digestOn(h);
        h = 31 * h + above;
        return 31 * h + below;
    }

    // ---- what the calls share

    private static boolean isTold(int giving) {
        return giving >= 0 && giving < TOLD;
    }

    private static boolean isSeats(int seats) {
        return seats >= 1 && seats <= SEATS;
    }

    private boolean isPlaceOrNone(int place) {
        return place == NONE || board.isPlace(place);
    }

    private boolean isFree(int giving, int asker, int place) {
        return board.wishOf(asker, place) > 0
                && board.holders(giving, place, asker) < board.seats[place];
    }

    private boolean isOrder(int order) {
        if (order < 0 || order >= 1 << (3 * board.askers)) {
            return false;
        }
        int seen = 0;
        for (int a = 0; a < board.askers; a++) {
            seen |= 1 << ((order >> (3 * a)) & 7);
        }
        return seen == (1 << board.askers) - 1;
    }

    private void copyTold(int giving) {
        for (int a = 0; a < board.askers; a++) {
            row[a] = board.toldOf(giving, a);
        }
    }

    private void findRow(int giving, int what) {
        switch (what) {
            case TO_FIRSTS:
                findByWorth(FIRSTS_GAINS);
                break;
            case TO_FAIREST:
                findByWorth(FAIREST_GAINS);
                break;
            case TO_MOST:
                findByWorth(MOST_GAINS);
                break;
            case TO_BEATER:
                solveVotes(giving, 1, -1);
                aimed.pathTo(0, row);
                break;
            case TO_BETTER:
                solveVotes(giving, 1, Search.RULED_OUT);
                aimed.pathTo(0, row);
                break;
            case TO_TRADE:
                trade.run(giving);
                System.arraycopy(trade.gets, 0, row, 0, ASKERS);
                break;
            default:
                copyTold(what);
        }
    }

    private void solveAll() {
        for (int a = 0; a < board.askers; a++) {
            for (int q = NONE; q < board.places; q++) {
                all.setGain(a, q, board.isOpen(a, q) ? LEFT_OPEN : Search.RULED_OUT);
            }
        }
        all.solve();
    }

    private void findByWorth(int[] gains) {
        for (int a = 0; a < board.askers; a++) {
            for (int q = NONE; q < board.places; q++) {
                aimed.setGain(a, q, board.isOpen(a, q) ? gains[board.worthOf(a, q)] : Search.RULED_OUT);
            }
        }
        aimed.solve();
        aimed.pathTo(0, row);
    }

    /** Weighs each asker by its vote against a told giving: a rise and a fall, or falls ruled out. */
    private void solveVotes(int m, int rise, int fall) {
        for (int a = 0; a < board.askers; a++) {
            int now = board.toldWorth(m, a);
            for (int q = NONE; q < board.places; q++) {
                int then = board.worthOf(a, q);
                int gain = then < now ? rise : then > now ? fall : 0;
                aimed.setGain(a, q, board.isOpen(a, q) ? gain : Search.RULED_OUT);
            }
        }
        aimed.solve();
    }

    /** Its turn weighs above all later ones together: worths are digits to the base 8. */
    private void fillTurn(int asker, int shift) {
        for (int q = NONE; q < board.places; q++) {
            int gain = -(board.worthOf(asker, q) << shift);
            aimed.setGain(asker, q, board.isOpen(asker, q) ? gain : Search.RULED_OUT);
        }
    }

    private int countRisers(int m) {
        int risers = 0;
        for (int a = 0; a < board.askers; a++) {
            if (board.worthOf(a, row[a]) < board.toldWorth(m, a)) {
                risers++;
            }
        }
        return risers;
    }

    private int countFallers(int m) {
        int fallers = 0;
        for (int a = 0; a < board.askers; a++) {
            if (board.worthOf(a, row[a]) > board.toldWorth(m, a)) {
                fallers++;
            }
        }
        return fallers;
    }

    private boolean canAnyRise(int m) {
        for (int a = 0; a < board.askers; a++) {
            if (board.firstWorth(a) < board.toldWorth(m, a)) {
                return true;
            }
        }
        return false;
    }

    /**
     * M is FULL OUT and somebody can rise: by a seat of one who falls, so it is one by one at least. Each step finds a
     * greater fraction, until there is none (Dinkelbach).
     */
    private void findFactor(int m) {
        int rises = 1;
        int falls = 1;
        for (int i = 0; i < FACTOR_STEPS; i++) {
            solveVotes(m, falls, -rises);
            if (aimed.bestGain() <= 0) {
                break;
            }
            aimed.pathTo(0, row);
            rises = countRisers(m);
            falls = countFallers(m);
        }
        tellFraction(rises, falls);
    }

    private void tellFraction(long over, long under) {
        long a = over;
        long b = under;
        for (int i = 0; i < 100 && b != 0; i++) {
            long rest = a % b;
            a = b;
            b = rest;
        }
        if (a > 0) {
            above = over / a;
            below = under / a;
        }
    }

    /** Who asks, what there is, who wishes what, and the told givings. */
    private static final class Board {
        int askers;
        int places;
        // Grows whenever anything but a told giving changes, so that answers can be kept.
        int age;
        final int[] seats;
        private final int[] wishes;
        private final int[] likes;
        private final int[] told;

        Board() {
            seats = new int[PLACES];
            wishes = new int[ASKERS * PLACES];
            likes = new int[ASKERS * PLACES];
            told = new int[TOLD * ASKERS];
            for (int i = 0; i < TOLD * ASKERS; i++) {
                told[i] = NONE;
            }
            for (int i = 0; i < ASKERS * PLACES; i++) {
                likes[i] = NONE;
            }
        }

        boolean isAsker(int a) {
            return a >= 0 && a < askers && a < ASKERS;
        }

        boolean isPlace(int q) {
            return q >= 0 && q < places && q < PLACES;
        }

        int addAsker() {
            age++;
            askers++;
            return askers - 1;
        }

        int addPlace(int some) {
            age++;
            seats[places] = some;
            places++;
            return places - 1;
        }

        int setSeats(int q, int some) {
            int old = seats[q];
            age++;
            seats[q] = some;
            return old;
        }

        int setWish(int a, int q, int v) {
            int old = wishes[a * PLACES + q];
            age++;
            wishes[a * PLACES + q] = v;
            sortLikes(a);
            if (v == 0) {
                takeBack(a, q);
            }
            return old;
        }

        private void takeBack(int a, int q) {
            for (int g = 0; g < TOLD; g++) {
                if (told[g * ASKERS + a] == q) {
                    told[g * ASKERS + a] = NONE;
                }
            }
        }

        private void sortLikes(int a) {
            int many = 0;
            for (int v = 1; v <= WISHES; v++) {
                for (int q = 0; q < places; q++) {
                    if (wishes[a * PLACES + q] == v && many < PLACES) {
                        likes[a * PLACES + many] = q;
                        many++;
                    }
                }
            }
            for (int i = many; i < PLACES; i++) {
                likes[a * PLACES + i] = NONE;
            }
        }

        /** The i-th of its wished places, by wishes, then by numbers; NONE after the last. */
        int likeAt(int a, int i) {
            return likes[a * PLACES + i];
        }

        int wishOf(int a, int q) {
            return wishes[a * PLACES + q];
        }

        int worthOf(int a, int q) {
            if (q < 0 || q >= PLACES) {
                return WORTH_OF_NONE;
            }
            int v = wishes[a * PLACES + q];
            return v == 0 ? WORTH_UNWISHED : v;
        }

        int firstWorth(int a) {
            return worthOf(a, likes[a * PLACES]);
        }

        /** Whether a giving may have it: a place with a wish, or none. */
        boolean isOpen(int a, int q) {
            return worthOf(a, q) <= WORTH_OF_NONE;
        }

        int toldOf(int g, int a) {
            return told[g * ASKERS + a];
        }

        int toldWorth(int g, int a) {
            return worthOf(a, toldOf(g, a));
        }

        void tell(int g, int a, int q) {
            told[g * ASKERS + a] = q;
        }

        /** How many have a place in a told giving, one asker (or NONE) not counted. */
        int holders(int g, int q, int uncounted) {
            int many = 0;
            for (int a = 0; a < askers; a++) {
                if (a != uncounted && toldOf(g, a) == q) {
                    many++;
                }
            }
            return many;
        }

        /** Two bits for each place. */
        int seatBits() {
            int bits = 0;
            for (int q = 0; q < places; q++) {
                bits |= seats[q] << (2 * q);
            }
            return bits;
        }

        int allSeats() {
            int sum = 0;
            for (int q = 0; q < places; q++) {
                sum += seats[q];
            }
            return sum;
        }

        int allWishes() {
            int many = 0;
            for (int i = 0; i < ASKERS * PLACES; i++) {
                if (wishes[i] > 0) {
                    many++;
                }
            }
            return many;
        }

        long digestOn(long start) {
            long h = start;
            for (int q = 0; q < places; q++) {
                h = 31 * h + seats[q];
            }
            for (int a = 0; a < askers; a++) {
                for (int q = 0; q < places; q++) {
                    h = 31 * h + wishOf(a, q);
                }
            }
            for (int g = 0; g < TOLD; g++) {
                for (int a = 0; a < askers; a++) {
                    h = 31 * h + toldOf(g, a);
                }
            }
            return h;
        }
    }

    /** The givings with the greatest sum of gains: how great, how many, and which, in the order of all. */
    private static final class Search {
        static final int RULED_OUT = -2000000000;
        static final int STATES = 4096;

        private static final int CHOICES = PLACES + 1;
        // Eight askers over six places of two seats make the most entries, 1054 (all mixes of seats tried).
        private static final int ENTRIES = 1056;

        private final Board board;
        private final int[] gains;
        private final int[] solvedGains;
        private int askers;
        private int places;
        private int seatBits;

        // An entry: the seats that are left ahead of one asker. Level by level, an asker each.
        private final int[] left;
        private final int[] best;
        private final int[] ways;
        private final int[] next;
        private final int[] firstOf;
        private int entries;

        // Where the entry with such seats stands; it counts only if the entry itself agrees.
        private final int[] slots;

        // By levels, the places of which no, one, two seats matter any more.
        private final int[] clipAll;
        private final int[] clipToOne;
        private final int[] clipToTwo;

        Search(Board of, int[] sharedSlots) {
            board = of;
            slots = sharedSlots;
            gains = new int[ASKERS * CHOICES];
            solvedGains = new int[ASKERS * CHOICES];
            left = new int[ENTRIES];
            best = new int[ENTRIES];
            ways = new int[ENTRIES];
            next = new int[ENTRIES * CHOICES];
            firstOf = new int[ASKERS + 2];
            clipAll = new int[ASKERS + 1];
            clipToOne = new int[ASKERS + 1];
            clipToTwo = new int[ASKERS + 1];
            askers = -1;
        }

        void setGain(int a, int q, int gain) {
            gains[a * CHOICES + q + 1] = gain;
        }

        int bestGain() {
            return best[0];
        }

        int howMany() {
            return ways[0];
        }

        void solve() {
            if (isSolved()) {
                return;
            }
            askers = board.askers;
            places = board.places;
            seatBits = board.seatBits();
            System.arraycopy(gains, 0, solvedGains, 0, ASKERS * CHOICES);
            setClips();
            spread();
            weigh();
        }

        private boolean isSolved() {
            if (askers != board.askers || places != board.places || seatBits != board.seatBits()) {
                return false;
            }
            for (int a = 0; a < askers; a++) {
                for (int c = 0; c <= places; c++) {
                    if (gains[a * CHOICES + c] != solvedGains[a * CHOICES + c]) {
                        return false;
                    }
                }
            }
            return true;
        }

        /** Seats beyond those who can still take one don't matter: states that differ in them are one. */
        private void setClips() {
            for (int k = 0; k <= askers; k++) {
                clipAll[k] = 0;
                clipToOne[k] = 0;
                clipToTwo[k] = 0;
            }
            for (int q = 0; q < places; q++) {
                int takers = 0;
                for (int k = askers; k >= 0; k--) {
                    if (k < askers && gains[k * CHOICES + q + 1] != RULED_OUT) {
                        takers++;
                    }
                    setClip(k, 1 << (2 * q), takers);
                }
            }
        }

        private void setClip(int level, int unit, int takers) {
            if (takers == 0) {
                clipAll[level] |= 3 * unit;
            } else if (takers == 1) {
                clipToOne[level] |= unit;
            } else if (takers == 2) {
                clipToTwo[level] |= unit;
            }
        }

        private void spread() {
            left[0] = seatBits;
            entries = 1;
            firstOf[0] = 0;
            firstOf[1] = 1;
            for (int k = 0; k < askers; k++) {
                for (int e = firstOf[k]; e < firstOf[k + 1]; e++) {
                    spreadEntry(k, e);
                }
                firstOf[k + 2] = entries;
            }
        }

        private void spreadEntry(int level, int e) {
            int s = left[e];
            for (int c = 0; c <= places; c++) {
                int child = NONE;
                if (gains[level * CHOICES + c] != RULED_OUT) {
                    if (c == 0) {
                        child = entryOf(level + 1, s);
                    } else if (((s >> (2 * c - 2)) & 3) > 0) {
                        child = entryOf(level + 1, s - (1 << (2 * c - 2)));
                    }
                }
                next[e * CHOICES + c] = child;
            }
        }

        private int entryOf(int level, int seatsLeft) {
            int ones = clipToOne[level];
            int s = seatsLeft & ~clipAll[level];
            s = (s & ~(3 * ones)) | (((s >> 1) | s) & ones);
            s = (s & ~((s >> 1) & s & clipToTwo[level])) & (STATES - 1);
            int e = slots[s];
            if (e >= firstOf[level] && e < entries && left[e] == s) {
                return e;
            }
            if (entries >= ENTRIES) {
                return NONE;
            }
            left[entries] = s;
            slots[s] = entries;
            entries++;
            return entries - 1;
        }

        private void weigh() {
            for (int e = firstOf[askers]; e < entries; e++) {
                best[e] = 0;
                ways[e] = 1;
            }
            for (int k = askers - 1; k >= 0; k--) {
                for (int e = firstOf[k]; e < firstOf[k + 1]; e++) {
                    weighEntry(k, e);
                }
            }
        }

        private void weighEntry(int level, int e) {
            int top = RULED_OUT;
            int many = 0;
            for (int c = 0; c <= places; c++) {
                int child = childOf(e, c);
                if (child != NONE && ways[child] > 0) {
                    int gain = gains[level * CHOICES + c] + best[child];
                    if (many == 0 || gain > top) {
                        top = gain;
                        many = ways[child];
                    } else if (gain == top) {
                        many += ways[child];
                    }
                }
            }
            best[e] = top;
            ways[e] = many;
        }

        /** How many of the best go on by a choice from an entry. */
        private int waysBy(int level, int e, int c) {
            int child = childOf(e, c);
            if (child == NONE || ways[child] == 0) {
                return 0;
            }
            return solvedGains[level * CHOICES + c] + best[child] == best[e] ? ways[child] : 0;
        }

        /** Puts the i-th of the best givings into a row; there must be so many. */
        void pathTo(int i, int[] into) {
            int e = 0;
            int ahead = i;
            for (int k = 0; k < askers && k < into.length; k++) {
                int c = 0;
                int some = waysBy(k, e, 0);
                while (c < places && ahead >= some) {
                    ahead -= some;
                    c++;
                    some = waysBy(k, e, c);
                }
                into[k] = c - 1;
                e = childOf(e, c);
            }
        }

        /** How many of the best are ahead of one of them. */
        int rankOf(int[] of) {
            int e = 0;
            int ahead = 0;
            for (int k = 0; k < askers && k < of.length; k++) {
                int chosen = of[k] + 1;
                for (int c = 0; c < chosen && c < CHOICES; c++) {
                    ahead += waysBy(k, e, c);
                }
                e = childOf(e, chosen);
            }
            return ahead;
        }

        /** The entry that a choice leads to, or NONE. */
        private int childOf(int e, int c) {
            if (e < 0 || e >= ENTRIES || c < 0 || c >= CHOICES) {
                return NONE;
            }
            int child = next[e * CHOICES + c];
            return child >= 0 && child < ENTRIES ? child : NONE;
        }
    }

    /**
     * Which givings none wins against, without a look at each pair. Such a giving is one in which as many as can be
     * have a first, and each has one of its firsts or one of the best of what is not tight (Abraham, Irving,
     * Kavitha and Mehlhorn for lists that tie, Manlove and Sng for seats; NONE is a last wish that is never tight).
     */
    private static final class Steady {
        private final Board board;
        // The most askers that can have a place that is a first of theirs at once.
        int most;
        private final int[] firsts;
        // Places that are full in every giving with so many firsts.
        private int tight;

        Steady(Board of) {
            board = of;
            firsts = new int[ASKERS];
        }

        void learn() {
            for (int a = 0; a < board.askers; a++) {
                firsts[a] = firstBits(a);
            }
            most = board.askers;
            tight = 0;
            for (int some = 0; some < 1 << board.places; some++) {
                weighCover(some);
            }
        }

        private int firstBits(int a) {
            int bits = 0;
            for (int q = 0; q < board.places; q++) {
                if (board.wishOf(a, q) > 0 && board.wishOf(a, q) == board.firstWorth(a)) {
                    bits |= 1 << q;
                }
            }
            return bits;
        }

        /** By Koenig, the least cover is as great as the most firsts; the places of any least cover are tight. */
        private void weighCover(int some) {
            int size = 0;
            for (int q = 0; q < board.places; q++) {
                if (((some >> q) & 1) == 1) {
                    size += board.seats[q];
                }
            }
            for (int a = 0; a < board.askers; a++) {
                if ((firsts[a] & ~some) != 0) {
                    size++;
                }
            }
            if (size < most) {
                most = size;
                tight = some;
            } else if (size == most) {
                tight |= some;
            }
        }

        void fillGains(Search search, int perFirst, int perPlace) {
            for (int a = 0; a < board.askers; a++) {
                int second = secondWorth(a);
                search.setGain(a, NONE, second == WORTH_OF_NONE ? 0 : Search.RULED_OUT);
                for (int q = 0; q < board.places; q++) {
                    int gain = Search.RULED_OUT;
                    if (((firsts[a] >> q) & 1) == 1) {
                        gain = perFirst + perPlace;
                    } else if (!isTight(q) && board.worthOf(a, q) == second) {
                        gain = perPlace;
                    }
                    search.setGain(a, q, gain);
                }
            }
        }

        private boolean isTight(int q) {
            return ((tight >> q) & 1) == 1;
        }

        private int secondWorth(int a) {
            int second = WORTH_OF_NONE;
            for (int q = 0; q < board.places; q++) {
                if (!isTight(q) && board.worthOf(a, q) < second) {
                    second = board.worthOf(a, q);
                }
            }
            return second;
        }
    }

    /** Owners who trade in rings, round by round. */
    private static final class Trade {
        private final Board board;
        final int[] gets;
        final int[] servedIn;
        private final int[] holds;
        private final int[] pointsAt;
        private final int[] holderOf;

        Trade(Board of) {
            board = of;
            gets = new int[ASKERS];
            servedIn = new int[ASKERS];
            holds = new int[ASKERS];
            pointsAt = new int[ASKERS];
            holderOf = new int[PLACES];
        }

        void run(int h) {
            int owners = 0;
            for (int a = 0; a < ASKERS; a++) {
                holds[a] = board.toldOf(h, a);
                gets[a] = NONE;
                servedIn[a] = 0;
                if (holds[a] != NONE) {
                    owners++;
                }
            }
            for (int r = 1; r <= ASKERS && owners > 0; r++) {
                findHolders();
                pointAll();
                owners -= serve(r);
            }
        }

        private boolean isLeft(int a) {
            return holds[a] != NONE && servedIn[a] == 0;
        }

        private void findHolders() {
            for (int q = 0; q < PLACES; q++) {
                holderOf[q] = NONE;
            }
            for (int a = board.askers - 1; a >= 0; a--) {
                int q = holds[a];
                if (isLeft(a) && q >= 0 && q < PLACES) {
                    holderOf[q] = a;
                }
            }
        }

        private void pointAll() {
            for (int a = 0; a < board.askers; a++) {
                pointsAt[a] = NONE;
                if (isLeft(a)) {
                    pointsAt[a] = targetOf(a);
                }
            }
        }

        private int targetOf(int a) {
            int target = a;
            int least = board.worthOf(a, holds[a]);
            for (int q = 0; q < board.places; q++) {
                if (holderOf[q] != NONE && board.worthOf(a, q) < least) {
                    least = board.worthOf(a, q);
                    target = holderOf[q];
                }
            }
            return target;
        }

        /** Those on rings are all found by the pointers of this round, so serving one breaks no other ring. */
        private int serve(int r) {
            int served = 0;
            for (int a = 0; a < board.askers; a++) {
                int next = pointsAt[a];
                if (next >= 0 && next < ASKERS && isOnRing(a)) {
                    gets[a] = holds[next];
                    servedIn[a] = r;
                    served++;
                }
            }
            return served;
        }

        private boolean isOnRing(int a) {
            int at = pointsAt[a];
            for (int i = 0; i < ASKERS && at != a && at >= 0 && at < ASKERS; i++) {
                at = pointsAt[at];
            }
            return at == a;
        }
    }

    /** The ring of fewest owners who would all rather have what the next one holds. */
    private static final class Ring {
        private final Board board;
        final int[] members;
        int length;
        // By askers, as bits, the owners whose place they would rather have.
        private final int[] wants;

        Ring(Board of) {
            board = of;
            members = new int[ASKERS];
            wants = new int[ASKERS];
        }

        void find(int m, int h) {
            for (int a = 0; a < board.askers; a++) {
                wants[a] = wantsOf(m, h, a);
            }
            length = 0;
            for (int size = 1; size <= board.askers && length == 0; size++) {
                if (hasRing(size)) {
                    length = size;
                }
            }
        }

        private int wantsOf(int m, int h, int a) {
            int bits = 0;
            if (board.toldOf(h, a) == NONE) {
                return bits;
            }
            for (int o = 0; o < board.askers; o++) {
                int q = board.toldOf(h, o);
                if (q != NONE && board.worthOf(a, q) < board.toldWorth(m, a)) {
                    bits |= 1 << o;
                }
            }
            return bits;
        }

        private boolean hasRing(int size) {
            for (int a = 0; a < board.askers; a++) {
                members[0] = a;
                if (closes(this, 1, 1 << a, size)) {
                    return true;
                }
            }
            return false;
        }

        /** Whether the members so far can be made a ring, with members above the first alone. */
        private static boolean closes(Ring ring, int had, int used, int size) {
            if (had < 1 || had > ASKERS) {
                return false;
            }
            int wanted = ring.wants[ring.members[had - 1]];
            if (had >= size) {
                return ((wanted >> ring.members[0]) & 1) == 1;
            }
            for (int o = ring.members[0] + 1; o < ring.board.askers; o++) {
                if (((wanted >> o) & 1) == 1 && ((used >> o) & 1) == 0) {
                    ring.members[had] = o;
                    if (closes(ring, had + 1, used | 1 << o, size)) {
                        return true;
                    }
                }
            }
            return false;
        }
    }

    /** In how many orders of all askers one has a place. */
    private static final class Lots {
        private static final int[] ORDERS = {1, 1, 2, 6, 24, 120, 720, 5040, 40320};
        private static final int MEMOS = 2048;
        private static final int UNKNOWN = -1;

        private final Board board;

        // The answers of this age of the board.
        private final int[] answers;
        private int age;

        // A memo holds the last state that fell to it; a lost one is counted again.
        private final long[] memoKeys;
        private final int[] memos;
        private long runs;

        private int wanting;
        private int wanted;

        Lots(Board of) {
            board = of;
            answers = new int[ASKERS * PLACES];
            memoKeys = new long[MEMOS];
            memos = new int[MEMOS];
            age = -1;
        }

        int ordersFor(int a, int q) {
            if (age != board.age) {
                age = board.age;
                for (int i = 0; i < ASKERS * PLACES; i++) {
                    answers[i] = UNKNOWN;
                }
            }
            if (answers[a * PLACES + q] == UNKNOWN) {
                wanting = a;
                wanted = q;
                runs++;
                answers[a * PLACES + q] = board.wishOf(a, q) == 0 ? 0 : ordersFrom(this, 0, board.seatBits(), 0);
            }
            return answers[a * PLACES + q];
        }

        /** In how many orders of those not gone the wanting one has the wanted place. */
        private static int ordersFrom(Lots lots, int gone, int left, int depth) {
            if (depth >= ASKERS || ((left >> (2 * lots.wanted)) & 3) == 0) {
                return 0;
            }
            int slot = (gone * 113 + left * 37) & (MEMOS - 1);
            long key = lots.runs << 20 | gone << 12 | left;
            if (lots.memoKeys[slot] == key) {
                return lots.memos[slot];
            }
            int sum = 0;
            for (int a = 0; a < lots.board.askers; a++) {
                if (((gone >> a) & 1) == 0) {
                    sum += ordersAfter(lots, a, gone, left, depth);
                }
            }
            lots.memoKeys[slot] = key;
            lots.memos[slot] = sum;
            return sum;
        }

        private static int ordersAfter(Lots lots, int a, int gone, int left, int depth) {
            int q = lots.takes(a, left);
            if (a == lots.wanting) {
                int later = lots.board.askers - depth - 1;
                return q == lots.wanted && later >= 0 && later <= ASKERS ? ORDERS[later] : 0;
            }
            int rest = q == NONE ? left : left - (1 << (2 * q));
            return ordersFrom(lots, gone | 1 << a, rest, depth + 1);
        }

        private int takes(int a, int left) {
            for (int i = 0; i < PLACES; i++) {
                int q = board.likeAt(a, i);
                if (q == NONE || ((left >> (2 * q)) & 3) > 0) {
                    return q;
                }
            }
            return NONE;
        }
    }

    /** What askers eat of places at one pace; all amounts are in parts of which the whole has so many. */
    private static final class Eating {
        // Grows by a factor of at most 8 each time that a place is eaten up: at most 8 to the 6th.
        long whole;
        private final Board board;
        private long time;
        private final long[] eaten;
        private final long[] rest;
        private final int[] eatsAt;
        private final int[] eaters;

        Eating(Board of) {
            board = of;
            eaten = new long[ASKERS * PLACES];
            rest = new long[PLACES];
            eatsAt = new int[ASKERS];
            eaters = new int[PLACES];
        }

        void run() {
            whole = 1;
            time = 1;
            for (int i = 0; i < ASKERS * PLACES; i++) {
                eaten[i] = 0;
            }
            for (int q = 0; q < board.places; q++) {
                rest[q] = board.seats[q];
            }
            for (int i = 0; i <= PLACES && time > 0; i++) {
                seatAll();
                int soonest = soonestUp();
                if (soonest == NONE) {
                    eatFor(time);
                } else {
                    long step = rest[soonest];
                    refine(eaters[soonest]);
                    eatFor(step);
                }
            }
        }

        private void seatAll() {
            for (int q = 0; q < PLACES; q++) {
                eaters[q] = 0;
            }
            for (int a = 0; a < board.askers; a++) {
                int q = bestLeft(a);
                eatsAt[a] = q;
                if (q >= 0 && q < PLACES) {
                    eaters[q]++;
                }
            }
        }

        private int bestLeft(int a) {
            for (int i = 0; i < PLACES; i++) {
                int q = board.likeAt(a, i);
                if (q == NONE || rest[q] > 0) {
                    return q;
                }
            }
            return NONE;
        }

        /** The place that is eaten up first, if any is ahead of the end. */
        private int soonestUp() {
            int soonest = NONE;
            long up = time;
            long by = 1;
            for (int q = 0; q < board.places; q++) {
                if (eaters[q] > 0 && rest[q] * by < up * eaters[q]) {
                    soonest = q;
                    up = rest[q];
                    by = eaters[q];
                }
            }
            return soonest;
        }

        private void refine(int parts) {
            whole *= parts;
            time *= parts;
            for (int i = 0; i < ASKERS * PLACES; i++) {
                eaten[i] *= parts;
            }
            for (int q = 0; q < PLACES; q++) {
                rest[q] *= parts;
            }
        }

        private void eatFor(long step) {
            for (int a = 0; a < board.askers; a++) {
                int q = eatsAt[a];
                if (q >= 0 && q < PLACES) {
                    eaten[a * PLACES + q] += step;
                    rest[q] -= step;
                }
            }
            time -= step;
        }

        long eatenBy(int a, int q) {
            return eaten[a * PLACES + q];
        }

        /** What one ate of the places that an asker has wishes for up to v. */
        long eatenUpTo(int a, int v, int eater) {
            long sum = 0;
            for (int q = 0; q < board.places; q++) {
                if (board.worthOf(a, q) <= v) {
                    sum += eaten[eater * PLACES + q];
                }
            }
            return sum;
        }
    }
}
