/** Each promise of the document in turn: what is ordinary, the edges that it names, and what is refused. */
public final class PromisesTest extends Boards {
    private static final int[] WILD = {Integer.MIN_VALUE, -100, -2, 9, 64, Integer.MAX_VALUE};

    private PromisesTest() {
    }

    public static void main(String[] args) {
        begin("PromisesTest");
        newObject();
        askers();
        places();
        seats();
        wishes();
        worths();
        givings();
        give();
        become();
        placeOf();
        many();
        votes();
        margins();
        factors();
        better();
        standing();
        turns();
        trade();
        leaving();
        chances();
        shares();
        envies();
        counts();
        digest();
        end();
    }

    // Promise 1
    private static void newObject() {
        due("NONE", WishPlaces.NONE, NONE);
        due("BAD", WishPlaces.BAD, BAD);
        due("NO", WishPlaces.NO, NO);
        due("FULL", WishPlaces.FULL, FULL);
        WishPlaces x = new WishPlaces();
        for (int what = 0; what < 4; what++) {
            due("new count(" + what + ")", x.count(what), 0);
        }
        dueFraction("new", x, 0, 1);
        due("new givings()", x.givings(), 1);
        due("new givingAt(0, 0)", x.givingAt(0, 0), BAD);
        due("new standing()", x.standing(), 1);
        due("new standingMany(0)", x.standingMany(0), 0);
        due("new standingMany(1)", x.standingMany(1), 0);
        due("new standingAt(0, 0)", x.standingAt(0, 0), BAD);
        due("new placeOf(3)", x.placeOf(3), 0);
        due("new margin(0)", x.margin(0), 0);
        due("new votes(0, 1)", x.votes(0, 1), 0);
        due("new better(0)", x.better(0), 0);
        due("new factor(0)", x.factor(0), 1);
        due("new turn(0, 0)", x.turn(0, 0), BAD);
        due("new round(0, 0)", x.round(0, 0), BAD);
        due("new leaving(0, 0, NONE)", x.leaving(0, 0, NONE), 0);
        due("new leaving(0, 0, 0)", x.leaving(0, 0, 0), NONE);
        for (int what = 0; what < 10; what++) {
            due("new become(0, " + what + ")", x.become(0, what), 1);
        }
    }

    // Promise 2
    private static void askers() {
        WishPlaces x = new WishPlaces();
        x.place(1);
        for (int a = 0; a < 8; a++) {
            due("asker()", x.asker(), a);
            due("worth of a new asker", x.worth(a, 0), 8);
            due("has of a new asker", x.has(2, a), NONE);
        }
        long before = x.digest();
        due("asker() 9", x.asker(), FULL);
        due("asker() 10", x.asker(), FULL);
        due("count(0)", x.count(0), 8);
        due("digest() after FULL", x.digest(), before);
    }

    // Promise 3
    private static void places() {
        WishPlaces x = new WishPlaces();
        due("place(0)", x.place(0), BAD);
        due("place(4)", x.place(4), BAD);
        for (int q = 0; q < 6; q++) {
            due("place", x.place(1 + q % 3), q);
        }
        long before = x.digest();
        due("place(1), a seventh", x.place(1), FULL);
        due("place(4), a seventh", x.place(4), BAD);
        due("place(-1), a seventh", x.place(-1), BAD);
        due("count(1)", x.count(1), 6);
        due("count(2)", x.count(2), 12);
        due("digest() after FULL", x.digest(), before);
        for (int w : WILD) {
            due("place(" + w + ")", x.place(w), BAD);
        }
    }

    // Promise 4
    private static void seats() {
        WishPlaces x = made(row(3, 1), row(1, 1), row(1, 1), row(1, 1));
        tell(x, 2, 0, 0, 0);
        due("seats(0, 2), three have it", x.seats(0, 2), NO);
        due("seats(0, 3)", x.seats(0, 3), 3);
        due("seats(0, 0)", x.seats(0, 0), BAD);
        due("seats(0, 4)", x.seats(0, 4), BAD);
        due("seats(2, 1)", x.seats(2, 1), BAD);
        due("seats(-1, 1)", x.seats(-1, 1), BAD);
        tell(x, 2, 0, 1, 0);
        due("seats(0, 1), two have it", x.seats(0, 1), NO);
        due("seats(0, 2), two have it", x.seats(0, 2), 3);
        due("seats(1, 3)", x.seats(1, 3), 1);
        due("seats(1, 1)", x.seats(1, 1), 3);
        due("count(2)", x.count(2), 3);
        for (int w : WILD) {
            due("seats(0, " + w + ")", x.seats(0, w), BAD);
            due("seats(" + w + ", 1)", x.seats(w, 1), BAD);
        }
        due("seats(0, 1), two still have it", x.seats(0, 1), NO);
        due("give(2, 0, NONE)", x.give(2, 0, NONE), 1);
        due("seats(0, 1), one has it", x.seats(0, 1), 2);
        due("give(2, 0, 0), no seat left", x.give(2, 0, 0), NO);
    }

    // Promise 5
    private static void wishes() {
        WishPlaces x = made(row(1, 1), row(1, 2), row(0, 6));
        due("wish(0, 0, 4)", x.wish(0, 0, 4), 1);
        due("wish(0, 0, 4) again", x.wish(0, 0, 4), 4);
        due("wish(1, 0, 0), there was none", x.wish(1, 0, 0), 0);
        due("wish(0, 0, 7)", x.wish(0, 0, 7), BAD);
        due("wish(0, 0, -1)", x.wish(0, 0, -1), BAD);
        due("wish(2, 0, 1)", x.wish(2, 0, 1), BAD);
        due("wish(0, 2, 1)", x.wish(0, 2, 1), BAD);
        for (int w : WILD) {
            due("wish(" + w + ", 0, 1)", x.wish(w, 0, 1), BAD);
            due("wish(0, " + w + ", 1)", x.wish(0, w, 1), BAD);
            due("wish(0, 0, " + w + ")", x.wish(0, 0, w), BAD);
        }
        for (int g = 0; g < 4; g++) {
            tell(x, g, g % 2, g % 2 == 0 ? 1 : NONE);
        }
        due("wish(0, 0, 3), told ones stay", x.wish(0, 0, 3), 4);
        dueRow("a wish that changed", x, 0, 0, 1);
        due("wish(0, 0, 0)", x.wish(0, 0, 0), 3);
        dueRow("a wish that went", x, 0, NONE, 1);
        dueRow("a wish that went", x, 1, 1, NONE);
        dueRow("a wish that went", x, 2, NONE, 1);
        dueRow("a wish that went", x, 3, 1, NONE);
    }

    // Promise 6
    private static void worths() {
        WishPlaces x = made(row(1, 1), row(1, 6), row(0, 3));
        due("worth(0, 0)", x.worth(0, 0), 1);
        due("worth(0, 1)", x.worth(0, 1), 6);
        due("worth(1, 0)", x.worth(1, 0), 8);
        due("worth(1, NONE)", x.worth(1, NONE), 7);
        due("worth(2, NONE)", x.worth(2, NONE), BAD);
        due("worth(0, 2)", x.worth(0, 2), BAD);
        for (int w : WILD) {
            due("worth(" + w + ", 0)", x.worth(w, 0), BAD);
            due("worth(0, " + w + ")", x.worth(0, w), BAD);
        }
    }

    // Promises 7 and 8
    private static void givings() {
        WishPlaces x = made(row(1, 2), row(1, 2), row(0, 3), row(5, 5));
        int[][] rows = {{-1, -1, -1}, {-1, -1, 0}, {-1, -1, 1}, {-1, 1, -1}, {-1, 1, 0}, {-1, 1, 1},
            {0, -1, -1}, {0, -1, 1}, {0, 1, -1}, {0, 1, 1}, {1, -1, -1}, {1, -1, 0}, {1, -1, 1},
            {1, 1, -1}, {1, 1, 0}};
        due("givings()", x.givings(), rows.length);
        for (int i = 0; i < rows.length; i++) {
            for (int a = 0; a < 3; a++) {
                due("givingAt(" + i + ", " + a + ")", x.givingAt(i, a), rows[i][a]);
            }
        }
        due("givingAt(15, 0)", x.givingAt(15, 0), BAD);
        due("givingAt(-1, 0)", x.givingAt(-1, 0), BAD);
        due("givingAt(0, 3)", x.givingAt(0, 3), BAD);
        due("givingAt(0, -1)", x.givingAt(0, -1), BAD);
        due("givingAt(2^32, 0)", x.givingAt(1L << 32, 0), BAD);
        due("givingAt(least, 0)", x.givingAt(Long.MIN_VALUE, 0), BAD);
        due("givingAt(most, 0)", x.givingAt(Long.MAX_VALUE, 0), BAD);
        x.seats(1, 3);
        due("givings(), three seats", x.givings(), 16);
        x.wish(1, 1, 0);
        due("givings(), a wish less", x.givings(), 8);
        x.asker();
        due("givings(), an asker without wishes", x.givings(), 8);
    }

    // Promises 9 and 11
    private static void give() {
        WishPlaces x = made(row(1, 2), row(1, 2), row(2, 3), row(0, 5));
        due("give(0, 0, 0)", x.give(0, 0, 0), 1);
        due("has(0, 0)", x.has(0, 0), 0);
        due("has(1, 0)", x.has(1, 0), NONE);
        due("give(0, 1, 0), had", x.give(0, 1, 0), NO);
        due("give(1, 1, 0), another giving", x.give(1, 1, 0), 1);
        due("give(0, 2, 0), no wish", x.give(0, 2, 0), NO);
        due("give(0, 0, 0) again, the seat is its own", x.give(0, 0, 0), 1);
        due("give(0, 0, 1)", x.give(0, 0, 1), 1);
        due("give(0, 1, 1)", x.give(0, 1, 1), 1);
        due("give(0, 2, 1), two have it", x.give(0, 2, 1), NO);
        due("give(0, 0, NONE)", x.give(0, 0, NONE), 1);
        due("has(0, 0), taken back", x.has(0, 0), NONE);
        due("give(0, 2, 1)", x.give(0, 2, 1), 1);
        dueRow("given", x, 0, NONE, 1, 1);
        due("give(4, 0, 0)", x.give(4, 0, 0), BAD);
        due("give(-1, 0, 0)", x.give(-1, 0, 0), BAD);
        due("give(0, 3, 0)", x.give(0, 3, 0), BAD);
        due("give(0, 0, 2)", x.give(0, 0, 2), BAD);
        due("give(0, 0, -2)", x.give(0, 0, -2), BAD);
        due("give(0, 3, NONE)", x.give(0, 3, NONE), BAD);
        due("has(4, 0)", x.has(4, 0), BAD);
        due("has(0, 3)", x.has(0, 3), BAD);
        for (int w : WILD) {
            due("give(" + w + ", 0, 0)", x.give(w, 0, 0), BAD);
            due("give(0, " + w + ", 0)", x.give(0, w, 0), BAD);
            due("give(0, 0, " + w + ")", x.give(0, 0, w), BAD);
            due("has(" + w + ", 0)", x.has(w, 0), BAD);
            due("has(0, " + w + ")", x.has(0, w), BAD);
        }
        dueRow("nothing changed", x, 0, NONE, 1, 1);
    }

    // Promise 10
    private static void become() {
        WishPlaces x = made(row(1, 1, 1), row(1, 2, 6), row(0, 1, 6), row(1, 0, 3));
        due("become(1, 4)", x.become(1, 4), 1);
        dueRow("FIRSTS", x, 1, 0, 1, 2);
        due("become(2, 5)", x.become(2, 5), 1);
        dueRow("FAIREST", x, 2, 0, 1, 2);
        due("become(2, 6)", x.become(2, 6), 1);
        dueRow("MOST", x, 2, 0, 1, 2);
        due("become(3, 2)", x.become(3, 2), 1);
        dueRow("told 2", x, 3, 0, 1, 2);
        due("become(3, 3)", x.become(3, 3), 1);
        dueRow("told 3", x, 3, 0, 1, 2);
        due("become(3, 0)", x.become(3, 0), 1);
        dueRow("told 0", x, 3, NONE, NONE, NONE);
        due("become(3, 8)", x.become(3, 8), 1);
        dueRow("BETTER than none, the first in which all rise", x, 3, 0, 1, 2);
        firstsLeaveOut();
        fairestAndMost();
        firstsByWorth();
        becomeByVotes();
        for (int w : WILD) {
            due("become(" + w + ", 0)", x.become(w, 0), BAD);
            due("become(0, " + w + ")", x.become(0, w == 9 ? 10 : w), BAD);
        }
        due("become(4, 4)", x.become(4, 4), BAD);
        due("become(0, -1)", x.become(0, NONE), BAD);
    }

    private static void firstsLeaveOut() {
        // One first is more than two seconds, though it leaves one asker out.
        WishPlaces x = made(row(1, 1), row(1, 2), row(2, 0));
        due("become(1, 4)", x.become(1, 4), 1);
        dueRow("FIRSTS", x, 1, 0, NONE);
        due("become(1, 5)", x.become(1, 5), 1);
        dueRow("FAIREST", x, 1, 1, 0);
        due("become(2, 6)", x.become(2, 6), 1);
        dueRow("MOST", x, 2, 1, 0);
    }

    private static void fairestAndMost() {
        // All three placed: sixes 1 and ones 2 (sum 8), or fours 2 and one 1 (sum 9).
        WishPlaces x = made(row(1, 1, 1), row(6, 4, 0), row(4, 1, 0), row(0, 0, 1));
        due("become(0, 5)", x.become(0, 5), 1);
        dueRow("FAIREST: no sixes", x, 0, 1, 0, 2);
        due("become(0, 6)", x.become(0, 6), 1);
        dueRow("MOST: the least sum", x, 0, 0, 1, 2);
        due("become(0, 4)", x.become(0, 4), 1);
        dueRow("FIRSTS", x, 0, 0, 1, 2);
    }

    private static void firstsByWorth() {
        // One first either way; then seconds count more than any thirds.
        WishPlaces x = made(row(1, 1, 1), row(1, 2, 3), row(1, 3, 3), row(3, 3, 3));
        due("become(0, 4)", x.become(0, 4), 1);
        dueRow("FIRSTS: a second rather than two thirds", x, 0, 1, 0, 2);
        due("become(0, 9)", x.become(0, 9), 1);
        dueRow("TRADE from it", x, 0, 1, 0, 2);
        WishPlaces one = made(row(2), row(5));
        due("become(3, 4), one asker", one.become(3, 4), 1);
        dueRow("FIRSTS of a fifth wish", one, 3, 0);
    }

    private static void becomeByVotes() {
        WishPlaces x = made(row(1, 1, 1), row(1, 2, 3), row(1, 2, 3), row(1, 2, 3));
        tell(x, 0, 0, 1, 2);
        due("become(0, 7)", x.become(0, 7), 1);
        dueRow("the BEATER", x, 0, NONE, 0, 1);
        WishPlaces full = made(row(2), row(3), row(3));
        due("become(0, 8)", full.become(0, 8), 1);
        due("become(0, 7)", full.become(0, 7), 1);
        dueRow("no votes over it: the first of so many", full, 0, 0, 0);
        WishPlaces ties = made(row(1, 1), row(2, 2));
        tell(ties, 0, 1);
        due("better(0) of FULL OUT", ties.better(0), 0);
        due("become(0, 8) of FULL OUT", ties.become(0, 8), 1);
        dueRow("of like ones the first", ties, 0, 0);
        tell(ties, 0, 1);
        due("become(0, 7), margin 0", ties.become(0, 7), 1);
        dueRow("of like ones the first", ties, 0, 0);
    }

    // Promise 12
    private static void placeOf() {
        WishPlaces x = made(row(1, 2), row(1, 2), row(0, 3), row(5, 5));
        due("placeOf(0)", x.placeOf(0), 0);
        for (int i = 0; i < 15; i++) {
            int[] had = row(x.givingAt(i, 0), x.givingAt(i, 1), x.givingAt(i, 2));
            tell(x, 1, had);
            due("placeOf(1)", x.placeOf(1), i);
        }
        due("placeOf(4)", x.placeOf(4), BAD);
        due("placeOf(-1)", x.placeOf(-1), BAD);
        for (int w : WILD) {
            due("placeOf(" + w + ")", x.placeOf(w), BAD);
        }
    }

    // Promise 13
    private static void many() {
        WishPlaces x = made(row(2, 1, 1), row(1, 6, 0), row(1, 2, 0), row(2, 2, 6), row(3, 0, 0));
        due("many(0, 7), none told", x.many(0, 7), 4);
        tell(x, 0, 0, 0, 2, NONE);
        due("many(0, 1)", x.many(0, 1), 2);
        due("many(0, 2)", x.many(0, 2), 0);
        due("many(0, 6)", x.many(0, 6), 1);
        due("many(0, 7)", x.many(0, 7), 1);
        due("many(0, 0)", x.many(0, 0), BAD);
        due("many(0, 8)", x.many(0, 8), BAD);
        due("many(4, 1)", x.many(4, 1), BAD);
        due("many(-1, 1)", x.many(-1, 1), BAD);
        for (int w : WILD) {
            due("many(" + w + ", 1)", x.many(w, 1), BAD);
            due("many(0, " + w + ")", x.many(0, w), BAD);
        }
    }

    // Promise 14
    private static void votes() {
        WishPlaces x = made(row(1, 1, 1), row(1, 2, 2), row(1, 2, 0), row(1, 2, 3));
        tell(x, 0, 0, 1, 2);
        tell(x, 1, 2, 0, 1);
        due("votes(1, 0)", x.votes(1, 0), 1);
        due("votes(0, 1)", x.votes(0, 1), -1);
        due("votes(1, 1)", x.votes(1, 1), 0);
        due("votes(0, 2), over none at all", x.votes(0, 2), 3);
        due("votes(2, 0)", x.votes(2, 0), -3);
        tell(x, 2, 1, 0, NONE);
        due("votes(2, 1), alike wishes are no vote", x.votes(2, 1), -1);
        due("votes(4, 0)", x.votes(4, 0), -100);
        due("votes(0, -1)", x.votes(0, -1), -100);
        for (int w : WILD) {
            due("votes(" + w + ", 0)", x.votes(w, 0), -100);
            due("votes(0, " + w + ")", x.votes(0, w), -100);
        }
    }

    // Promises 15 and 16
    private static void margins() {
        WishPlaces x = made(row(1, 1, 1), row(1, 2, 3), row(1, 2, 3), row(1, 2, 3));
        due("margin(1) of none", x.margin(1), 3);
        due("beater(1, 0)", x.beater(1, 0), 0);
        due("beater(1, 1)", x.beater(1, 1), 1);
        due("beater(1, 2)", x.beater(1, 2), 2);
        tell(x, 0, 0, 1, 2);
        due("margin(0)", x.margin(0), 1);
        due("beater(0, 0)", x.beater(0, 0), NONE);
        due("beater(0, 1)", x.beater(0, 1), 0);
        due("beater(0, 2)", x.beater(0, 2), 1);
        WishPlaces one = made(row(1, 1), row(3, 3));
        tell(one, 0, 1);
        due("margin(0), nothing better", one.margin(0), 0);
        due("beater(0, 0), the first of like ones", one.beater(0, 0), 0);
        due("margin(4)", x.margin(4), BAD);
        due("beater(4, 0)", x.beater(4, 0), BAD);
        due("beater(0, 3)", x.beater(0, 3), BAD);
        for (int w : WILD) {
            due("margin(" + w + ")", x.margin(w), BAD);
            due("beater(" + w + ", 0)", x.beater(w, 0), BAD);
            due("beater(0, " + w + ")", x.beater(0, w), BAD);
        }
    }

    // Promises 17 and 18
    private static void factors() {
        WishPlaces x = made(row(1, 1, 1), row(1, 2, 3), row(1, 2, 3), row(1, 2, 3));
        due("factor(0), all can rise", x.factor(0), 1);
        dueFraction("nobody prefers M", x, 1, 0);
        tell(x, 0, 0, 1, 2);
        due("factor(0)", x.factor(0), 1);
        dueFraction("two by one", x, 2, 1);
        WishPlaces calm = made(row(1, 1), row(1, 0), row(0, 1));
        tell(calm, 0, 0, 1);
        due("factor(1)", calm.factor(1), 1);
        dueFraction("nobody prefers M", calm, 1, 0);
        due("factor(0), nobody can rise", calm.factor(0), 1);
        dueFraction("none", calm, 0, 1);
        WishPlaces pair = made(row(1), row(2), row(2));
        tell(pair, 0, 0, NONE);
        due("factor(0), one for one", pair.factor(0), 1);
        dueFraction("one by one", pair, 1, 1);
        moreFactors();
        due("factor(4)", x.factor(4), BAD);
        due("factor(-1)", x.factor(-1), BAD);
        dueFraction("after BAD", x, 2, 1);
        for (int w : WILD) {
            due("factor(" + w + ")", x.factor(w), BAD);
            due("part(" + w + ")", x.part(w), -1);
        }
        due("part(2)", x.part(2), -1);
        due("part(-1)", x.part(-1), -1);
    }

    private static void moreFactors() {
        // The one who can rise robs one who has nothing else.
        WishPlaces x = made(row(1, 1, 1), row(2, 0, 0), row(0, 2, 0), row(1, 1, 1), row(1, 0, 0));
        tell(x, 0, 0, 1, 2, NONE);
        due("factor(0)", x.factor(0), 1);
        dueFraction("one by one", x, 1, 1);
        WishPlaces three = made(row(1, 1, 1, 1), row(1, 2, 3, 4), row(1, 2, 3, 4), row(1, 2, 3, 4), row(1, 2, 3, 4));
        tell(three, 0, 0, 1, 2, 3);
        due("factor(0) of four alike", three.factor(0), 1);
        dueFraction("three by one", three, 3, 1);
        // Many givings with more who rise and more who fall: the greatest counts, not the most.
        WishPlaces twos = made(row(1, 1, 2), row(1, 2, 3), row(1, 2, 3), row(1, 2, 3));
        tell(twos, 0, 2, 0, 1);
        due("factor(0)", twos.factor(0), 1);
        dueFraction("two by one", twos, 2, 1);
    }

    // Promise 19
    private static void better() {
        WishPlaces x = made(row(1, 1, 1), row(1, 2, 0), row(2, 1, 0), row(0, 0, 4));
        tell(x, 0, 1, 0, NONE);
        due("better(0)", x.better(0), 3);
        due("better(1), from none", x.better(1), 3);
        tell(x, 0, 0, 1, NONE);
        due("better(0)", x.better(0), 1);
        tell(x, 0, 0, 1, 2);
        due("better(0), FULL OUT", x.better(0), 0);
        due("better(4)", x.better(4), BAD);
        for (int w : WILD) {
            due("better(" + w + ")", x.better(w), BAD);
        }
        // Somebody would rise by what another one alone would lose by.
        WishPlaces tight = made(row(1), row(2), row(1));
        tell(tight, 0, 0, NONE);
        due("better(0), only by a loss", tight.better(0), 0);
    }

    // Promises 20, 21 and 22
    private static void standing() {
        WishPlaces none = made(row(1, 1, 1), row(1, 2, 3), row(1, 2, 3), row(1, 2, 3));
        due("standing(), none", none.standing(), 0);
        due("standingMany(0), none", none.standingMany(0), NONE);
        due("standingMany(1), none", none.standingMany(1), NONE);
        due("standingAt(0, 0), none", none.standingAt(0, 0), BAD);
        // Two want place 0; place 1 is the next of the first alone: standing with one placed or two.
        WishPlaces x = made(row(1, 1), row(1, 2), row(1, 0));
        due("standing()", x.standing(), 2);
        due("standingAt(0, 0)", x.standingAt(0, 0), 0);
        due("standingAt(0, 1)", x.standingAt(0, 1), NONE);
        due("standingAt(1, 0)", x.standingAt(1, 0), 1);
        due("standingAt(1, 1)", x.standingAt(1, 1), 0);
        due("standingAt(2, 0)", x.standingAt(2, 0), BAD);
        due("standingAt(-1, 0)", x.standingAt(-1, 0), BAD);
        due("standingAt(0, 2)", x.standingAt(0, 2), BAD);
        due("standingAt(2^32, 0)", x.standingAt(1L << 32, 0), BAD);
        due("standingMany(0)", x.standingMany(0), 2);
        due("standingMany(1)", x.standingMany(1), 1);
        due("standingMany(2)", x.standingMany(2), BAD);
        due("standingMany(-1)", x.standingMany(-1), BAD);
        for (int w : WILD) {
            due("standingMany(" + w + ")", x.standingMany(w), BAD);
            due("standingAt(0, " + w + ")", x.standingAt(0, w), BAD);
        }
        x.seats(0, 2);
        due("standing(), seats for both", x.standing(), 1);
        WishPlaces ties = made(row(1, 1), row(4, 4), row(4, 4));
        due("standing(), ties", ties.standing(), 2);
    }

    // Promise 23
    private static void turns() {
        WishPlaces x = made(row(1, 1, 1), row(1, 2, 3), row(1, 2, 3), row(1, 3, 3));
        int order = 2 * 64 + 0 * 8 + 1;
        due("turn(201, 2)", x.turn(order, 2), 0);
        due("turn(201, 0)", x.turn(order, 0), 1);
        due("turn(201, 1)", x.turn(order, 1), 2);
        due("turn(012, 0)", x.turn(8 + 2, 0), 0);
        due("turn(012, 2)", x.turn(8 + 2, 2), 2);
        due("turn(011, 0)", x.turn(8 + 1, 0), BAD);
        due("turn(013, 0)", x.turn(8 + 3, 0), BAD);
        due("turn(1012, 0)", x.turn(512 + 8 + 2, 0), BAD);
        due("turn(012, 3)", x.turn(8 + 2, 3), BAD);
        due("turn(012, -1)", x.turn(8 + 2, -1), BAD);
        for (int w : WILD) {
            due("turn(" + w + ", 0)", x.turn(w, 0), BAD);
            due("turn(012, " + w + ")", x.turn(8 + 2, w), BAD);
        }
        // A first that has a choice of like ones leaves the next its only one.
        WishPlaces ties = made(row(1, 1), row(2, 2), row(5, 0));
        due("turn(01, 0)", ties.turn(1, 0), 1);
        due("turn(01, 1)", ties.turn(1, 1), 0);
        WishPlaces one = made(row(1), row(1));
        due("turn(0, 0)", one.turn(0, 0), 0);
        due("turn(1, 0)", one.turn(1, 0), BAD);
        due("turn(10, 0), a digit too many", one.turn(8, 0), BAD);
    }

    // Promise 24
    private static void trade() {
        WishPlaces x = made(row(1, 1, 1, 1), row(2, 1, 0, 0), row(1, 2, 0, 0), row(1, 0, 2, 0), row(0, 0, 0, 3));
        tell(x, 0, 0, 1, 2, NONE);
        due("round(0, 0)", x.round(0, 0), 1);
        due("round(0, 1)", x.round(0, 1), 1);
        due("round(0, 2)", x.round(0, 2), 2);
        due("round(0, 3), no owner", x.round(0, 3), 0);
        due("round(1, 0), none told", x.round(1, 0), 0);
        due("become(1, 0)", x.become(1, 0), 1);
        due("become(1, 9)", x.become(1, 9), 1);
        dueRow("TRADE", x, 1, 1, 0, 2, NONE);
        due("round(4, 0)", x.round(4, 0), BAD);
        due("round(0, 4)", x.round(0, 4), BAD);
        for (int w : WILD) {
            due("round(" + w + ", 0)", x.round(w, 0), BAD);
            due("round(0, " + w + ")", x.round(0, w), BAD);
        }
        tradeOfTies();
    }

    private static void tradeOfTies() {
        // Of like ones its own: nobody moves, though the other place has the lesser number.
        WishPlaces own = made(row(1, 1), row(2, 2), row(1, 2));
        tell(own, 0, 1, 0);
        due("round(0, 0)", own.round(0, 0), 1);
        due("become(0, 9)", own.become(0, 9), 1);
        dueRow("its own of like ones", own, 0, 1, 0);
        // Else the least number: 2 points at 0's place 0, not at 1's place 1.
        WishPlaces least = made(row(1, 1, 1), row(2, 0, 1), row(0, 2, 1), row(1, 1, 2));
        tell(least, 0, 0, 1, 2);
        due("round(0, 0)", least.round(0, 0), 1);
        due("round(0, 1)", least.round(0, 1), 2);
        due("become(0, 9)", least.become(0, 9), 1);
        dueRow("the least number of like ones", least, 0, 2, 1, 0);
        // A place of two seats is pointed at by its least owner that is left; owners of it point at themselves.
        WishPlaces two = made(row(2, 1), row(1, 0), row(2, 1), row(1, 2));
        tell(two, 0, 0, 0, 1);
        due("round(0, 0)", two.round(0, 0), 1);
        due("round(0, 1)", two.round(0, 1), 2);
        due("round(0, 2)", two.round(0, 2), 2);
        due("become(0, 9)", two.become(0, 9), 1);
        dueRow("the least owner goes first", two, 0, 0, 1, 0);
    }

    // Promise 25
    private static void leaving() {
        WishPlaces x = made(row(1, 1, 1), row(3, 2, 0), row(0, 3, 2), row(2, 0, 3), row(1, 1, 1));
        tell(x, 0, 0, 1, 2, NONE);
        due("leaving(0, 0, NONE), a ring of three", x.leaving(0, 0, NONE), 3);
        due("leaving(0, 0, 0)", x.leaving(0, 0, 0), 0);
        due("leaving(0, 0, 1)", x.leaving(0, 0, 1), 1);
        due("leaving(0, 0, 2)", x.leaving(0, 0, 2), 2);
        due("leaving(0, 0, 3)", x.leaving(0, 0, 3), NONE);
        due("leaving(0, 0, 7)", x.leaving(0, 0, 7), NONE);
        due("leaving(0, 0, most)", x.leaving(0, 0, Integer.MAX_VALUE), NONE);
        due("leaving(1, 0, NONE), each by itself", x.leaving(1, 0, NONE), 1);
        due("leaving(1, 0, 0), the first", x.leaving(1, 0, 0), 0);
        due("leaving(0, 1, NONE), no owners", x.leaving(0, 1, NONE), 0);
        due("leaving(0, 1, 0)", x.leaving(0, 1, 0), NONE);
        due("wish(0, 2, 1)", x.wish(0, 2, 1), 0);
        due("leaving(0, 0, NONE), a ring of two", x.leaving(0, 0, NONE), 2);
        due("leaving(0, 0, 0)", x.leaving(0, 0, 0), 0);
        due("leaving(0, 0, 1)", x.leaving(0, 0, 1), 2);
        x.become(2, 9);
        x.become(2, 0);
        x.become(2, 9);
        due("leaving(2, 0, NONE), none leaves what trade gave", x.leaving(2, 0, NONE), 0);
        longestRing();
        due("leaving(4, 0, NONE)", x.leaving(4, 0, NONE), BAD);
        due("leaving(0, 4, NONE)", x.leaving(0, 4, NONE), BAD);
        due("leaving(0, 0, -2)", x.leaving(0, 0, -2), BAD);
        for (int w : WILD) {
            due("leaving(" + w + ", 0, 0)", x.leaving(w, 0, 0), BAD);
            due("leaving(0, " + w + ", 0)", x.leaving(0, w, 0), BAD);
        }
    }

    private static void longestRing() {
        // Each holds the place of its number; each wants that of another one, round and round.
        int[] next = {3, 5, 4, 2, 1, 0};
        WishPlaces x = made(row(1, 1, 1, 1, 1, 1), row(6, 0, 0, 5, 0, 0), row(0, 6, 0, 0, 0, 5), row(0, 0, 6, 0, 5, 0),
                row(0, 0, 5, 6, 0, 0), row(0, 5, 0, 0, 6, 0), row(5, 0, 0, 0, 0, 6));
        tell(x, 3, 0, 1, 2, 3, 4, 5);
        due("leaving(3, 3, NONE), all six", x.leaving(3, 3, NONE), 6);
        int at = 0;
        for (int i = 0; i < 6; i++) {
            due("leaving(3, 3, " + i + ")", x.leaving(3, 3, i), at);
            at = next[at];
        }
        due("leaving(3, 3, 6)", x.leaving(3, 3, 6), NONE);
        for (int a = 0; a < 6; a++) {
            due("round(3, " + a + ")", x.round(3, a), 1);
        }
    }

    // Promise 26
    private static void chances() {
        WishPlaces x = made(row(1, 1), row(1, 2), row(1, 2), row(1, 0));
        due("chance(0, 0)", x.chance(0, 0), 2);
        due("chance(0, 1)", x.chance(0, 1), 3);
        due("chance(1, 1)", x.chance(1, 1), 3);
        due("chance(2, 0)", x.chance(2, 0), 2);
        due("chance(2, 1), no wish", x.chance(2, 1), 0);
        x.seats(0, 2);
        due("chance(2, 0), two seats", x.chance(2, 0), 4);
        x.asker();
        due("chance(2, 0), an asker more", x.chance(2, 0), 16);
        x.wish(0, 1, 1);
        due("chance(0, 0), of like ones the least number", x.chance(0, 0), 16);
        x.wish(0, 0, 2);
        due("chance(0, 1), the least wish", x.chance(0, 1), 24);
        due("chance(4, 0)", x.chance(4, 0), BAD);
        due("chance(0, 2)", x.chance(0, 2), BAD);
        due("chance(0, NONE)", x.chance(0, NONE), BAD);
        for (int w : WILD) {
            due("chance(" + w + ", 0)", x.chance(w, 0), BAD);
            due("chance(0, " + w + ")", x.chance(0, w), BAD);
        }
    }

    // Promise 27
    private static void shares() {
        // Place 0 is eaten up at 1/3; then 0 and 1 eat place 1 from 1/3 to 5/6.
        WishPlaces x = made(row(1, 1, 1), row(1, 2, 3), row(1, 2, 0), row(1, 0, 0));
        due("share(0, 0)", x.share(0, 0), 1);
        dueFraction("share", x, 1, 3);
        due("share(1, 1)", x.share(1, 1), 1);
        dueFraction("share", x, 1, 2);
        due("share(2, 1), it is 0", x.share(2, 1), 0);
        dueFraction("the fraction stays", x, 1, 2);
        due("share(0, 2)", x.share(0, 2), 1);
        dueFraction("share to the end", x, 1, 6);
        due("share(3, 0)", x.share(3, 0), BAD);
        due("share(0, 3)", x.share(0, 3), BAD);
        due("share(0, NONE)", x.share(0, NONE), BAD);
        dueFraction("after BAD", x, 1, 6);
        for (int w : WILD) {
            due("share(" + w + ", 0)", x.share(w, 0), BAD);
            due("share(0, " + w + ")", x.share(0, w), BAD);
        }
        x.seats(0, 3);
        due("share(2, 0), seats for all", x.share(2, 0), 1);
        dueFraction("the whole", x, 1, 1);
        x.seats(0, 2);
        due("share(2, 0), two seats for three", x.share(2, 0), 1);
        dueFraction("two thirds", x, 2, 3);
    }

    // Promise 28
    private static void envies() {
        // Nobody ever does: of the places up to any wish an asker eats at full pace for as long as there is some.
        WishPlaces x = made(row(1, 1), row(1, 2), row(1, 0), row(2, 1));
        due("envies(0, 1)", x.envies(0, 1), 0);
        due("envies(1, 2)", x.envies(1, 2), 0);
        // 0 eats place 0 with 1, by its number, while 2 has place 1 alone.
        WishPlaces ties = made(row(1, 1), row(1, 1), row(1, 0), row(0, 1));
        due("envies(0, 2)", ties.envies(0, 2), 0);
        due("envies(1, 0)", ties.envies(1, 0), 0);
        WishPlaces late = made(row(1, 1, 1), row(1, 1, 1), row(1, 0, 0), row(0, 1, 0), row(0, 1, 0));
        due("envies(0, 1)", late.envies(0, 1), 0);
        WishPlaces envy = made(row(1, 1), row(1, 1), row(1, 1), row(0, 1));
        due("envies(0, 2), as much in all", envy.envies(0, 2), 0);
        due("envies(2, 0)", envy.envies(2, 0), 0);
        due("envies(0, 0), alike", x.envies(0, 0), BAD);
        due("envies(0, 3)", x.envies(0, 3), BAD);
        due("envies(3, 0)", x.envies(3, 0), BAD);
        for (int w : WILD) {
            due("envies(" + w + ", 0)", x.envies(w, 0), BAD);
            due("envies(0, " + w + ")", x.envies(0, w), BAD);
        }
    }

    // Promise 29
    private static void counts() {
        WishPlaces x = made(row(1, 3), row(1, 2), row(0, 6), row(0, 0));
        due("count(0)", x.count(0), 3);
        due("count(1)", x.count(1), 2);
        due("count(2)", x.count(2), 4);
        due("count(3)", x.count(3), 3);
        due("count(4)", x.count(4), BAD);
        due("count(-1)", x.count(-1), BAD);
        for (int w : WILD) {
            due("count(" + w + ")", x.count(w), BAD);
        }
    }

    // Promise 30
    private static void digest() {
        WishPlaces x = new WishPlaces();
        due("digest() of a new one", x.digest(), fold(0, 0, 0, 0, 0, 1));
        x.asker();
        x.place(2);
        x.asker();
        x.wish(1, 0, 5);
        x.give(2, 1, 0);
        due("digest()", x.digest(), fold(2, 1, 2, 1, 2, 0, 5, -1, -1, -1, -1, -1, 0, -1, -1, 0, 1));
        x.factor(0);
        due("digest() with a fraction", x.digest(),
                fold(2, 1, 2, 1, 2, 0, 5, -1, -1, -1, -1, -1, 0, -1, -1, 1, 0));
    }
}
