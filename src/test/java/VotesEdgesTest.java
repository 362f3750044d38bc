/**
 * Terms 2 and promises 14 to 22, sentence by sentence: each sentence that names a boundary has a test of its own.
 * What is refused as BAD stands in RefusalsEdgesTest.
 */
public final class VotesEdgesTest extends Boards {
    private VotesEdgesTest() {
    }

    public static void main(String[] args) {
        begin("VotesEdgesTest");
        votes();
        margins();
        beaters();
        factors();
        fractions();
        betters();
        standings();
        standingOnes();
        standingMany();
        end();
    }

    /** One seat each, all askers alike: with one place fewer the last has none. */
    private static WishPlaces ladder(int askers, int places) {
        int[] wishes = new int[places];
        for (int q = 0; q < places; q++) {
            wishes[q] = q + 1;
        }
        return madeAlike(like(1, places), askers, wishes);
    }

    // ---- VOTES, promise 14

    private static void votes() {
        votesOfBoth();
        votesOfAlike();
        votesOfItself();
        votesOfAll();
    }

    private static void votesOfBoth() {
        sentence("Terms 2, promise 14: VOTES: ASKERS to whom N is better less those to whom M is");
        WishPlaces x = ladder(3, 3);
        tell(x, 0, 0, 1, 2);
        tell(x, 3, 2, 0, 1);
        due("votes(3, 0), two rise, one falls", x.votes(3, 0), 1);
        due("votes(0, 3)", x.votes(0, 3), -1);
        tell(x, 1, 1, 0, 2);
        due("votes(1, 0), one rises, one falls", x.votes(1, 0), 0);
    }

    private static void votesOfAlike() {
        sentence("Terms 2, promise 14: neither is better to whom the WISHES are alike");
        WishPlaces x = made(row(1, 1), row(6, 6), row(2, 1));
        tell(x, 0, 0, 1);
        tell(x, 1, 1, 0);
        due("votes(0, 1)", x.votes(0, 1), 1);
        due("votes(1, 0)", x.votes(1, 0), -1);
        due("votes(2, 3), both have none", x.votes(2, 3), 0);
    }

    private static void votesOfItself() {
        sentence("Terms 2, promise 14: VOTES of a told GIVING over itself, and of nobody");
        WishPlaces x = ladder(2, 2);
        tell(x, 2, 0, 1);
        due("votes(2, 2)", x.votes(2, 2), 0);
        due("votes(0, 3), no askers", new WishPlaces().votes(0, 3), 0);
    }

    private static void votesOfAll() {
        sentence("Terms 2, promise 14: VOTES of all over none, and of none over all");
        WishPlaces x = largest(6);
        tell(x, 0, LARGEST_LAST);
        due("votes(0, 3)", x.votes(0, 3), 8);
        due("votes(3, 0)", x.votes(3, 0), -8);
    }

    // ---- MARGIN, promise 15

    private static void margins() {
        marginOfMost();
        marginIsNoLess();
        marginAtMost();
        marginAfterChanges();
    }

    private static void marginOfMost() {
        sentence("Terms 2, promise 15: MARGIN of M: the most VOTES of any GIVING over it");
        for (int n = 2; n <= 6; n++) {
            WishPlaces x = ladder(n, n);
            for (int a = 0; a < n; a++) {
                x.give(1, a, a);
            }
            due("margin(1) of " + n + " askers alike", x.margin(1), n - 2);
            due("margin(0) of " + n + " without a place", x.margin(0), n);
        }
    }

    private static void marginIsNoLess() {
        sentence("Terms 2, promise 15: (0 at least: itself)");
        WishPlaces x = made(row(1, 1), row(1, 2), row(2, 1));
        tell(x, 0, 0, 1);
        due("margin(0), all others are worse to all", x.margin(0), 0);
        due("margin(0), no askers", new WishPlaces().margin(0), 0);
        due("margin(3), the empty one alone", made(row(1), row(0)).margin(3), 0);
        WishPlaces pair = madeAlike(row(1), 2, 3);
        tell(pair, 2, 0, NONE);
        due("margin(2), one for one", pair.margin(2), 0);
    }

    private static void marginAtMost() {
        sentence("Terms 2, promise 15: MARGIN of none to all 8");
        WishPlaces x = largest(6);
        due("margin(3)", x.margin(3), 8);
        tell(x, 3, 0, 0, 0, 1, 1, 1, 2, NONE);
        due("margin(3)", x.margin(3), 1);
        tell(x, 3, LARGEST_LAST);
        due("margin(3)", x.margin(3), 0);
    }

    private static void marginAfterChanges() {
        sentence("Terms 2, promise 15: MARGIN over all GIVINGS that there are now");
        WishPlaces x = madeAlike(row(1), 2, 1);
        tell(x, 0, 0, NONE);
        due("margin(0)", x.margin(0), 0);
        x.seats(0, 2);
        due("margin(0), a seat more", x.margin(0), 1);
        x.wish(1, 0, 0);
        due("margin(0), a wish less", x.margin(0), 0);
        x.place(1);
        x.wish(1, 1, 6);
        due("margin(0), a place more", x.margin(0), 1);
        due("give(0, 1, 1)", x.give(0, 1, 1), 1);
        due("margin(0), given", x.margin(0), 0);
        WishPlaces none = made(row(1), row(0), row(0));
        for (int what = 5; what <= 9; what++) {
            none.become(0, what);
            due("margin(1), no wishes, after become(0, " + what + ")", none.margin(1), 0);
            none.become(0, what);
            due("better(1), no wishes, after become(0, " + what + ")", none.better(1), 0);
        }
    }

    // ---- BEATER, promise 16

    private static void beaters() {
        beaterIsFirst();
        beaterOfMostVotes();
        beaterOfNone();
        beaterWithoutMargin();
        beaterHasNone();
    }

    private static void beaterIsFirst() {
        sentence("Terms 2, promise 16: its BEATER: the first GIVING with so many");
        // Two of three rise, whoever falls: the first of these leaves the first one none.
        WishPlaces x = ladder(3, 3);
        tell(x, 0, 0, 1, 2);
        int[] first = {NONE, 0, 1};
        for (int a = 0; a < 3; a++) {
            due("beater(0, " + a + ")", x.beater(0, a), first[a]);
        }
        dueBecome(x, 0, 7, first);
    }

    private static void dueBeater(WishPlaces x, int... row) {
        for (int a = 0; a < row.length; a++) {
            due("beater(0, " + a + ")", x.beater(0, a), row[a]);
        }
        dueBecome(x, 0, 7, row);
    }

    private static void beaterOfMostVotes() {
        sentence("Terms 2, promise 16: its BEATER: .. so many: rises and falls alike");
        // One rises by one who falls: no more votes than its own.
        WishPlaces one = madeAlike(row(1), 2, 1);
        tell(one, 0, NONE, 0);
        dueBeater(one, NONE, 0);
        // Two rise by one who falls: more votes than its own, though it is later.
        WishPlaces two = madeAlike(row(1, 1, 1), 3, 3, 2, 1);
        tell(two, 0, 0, 1, 2);
        dueBeater(two, 1, 2, NONE);
    }

    private static void beaterOfNone() {
        sentence("Terms 2, promise 16: the first of like ones by numbers of PLACES");
        WishPlaces x = madeAlike(row(1, 1, 1), 2, 6, 6, 6);
        due("beater(3, 0)", x.beater(3, 0), 0);
        due("beater(3, 1)", x.beater(3, 1), 1);
    }

    private static void beaterWithoutMargin() {
        sentence("Terms 2, promise 16: the first GIVING with 0, where MARGIN is 0");
        WishPlaces x = madeAlike(row(1), 2, 1);
        tell(x, 1, 0, NONE);
        due("margin(1)", x.margin(1), 0);
        due("beater(1, 0)", x.beater(1, 0), NONE);
        due("beater(1, 1)", x.beater(1, 1), 0);
        WishPlaces ties = made(row(1, 1), row(5, 5));
        tell(ties, 1, 1);
        due("beater(1, 0)", ties.beater(1, 0), 0);
    }

    private static void beaterHasNone() {
        sentence("Promise 16: NONE");
        WishPlaces x = made(row(1), row(0), row(1));
        due("beater(0, 0)", x.beater(0, 0), NONE);
        due("beater(0, 1)", x.beater(0, 1), 0);
    }

    // ---- FACTOR, promise 17

    private static void factors() {
        factorIsGreatest();
        factorIsNotOfMostVotes();
        factorInLowestTerms();
        factorByNobody();
        factorOfNone();
        factorOfOne();
        factorAtMost();
    }

    private static void factorIsGreatest() {
        sentence("Terms 2, promise 17: FACTOR: those who prefer N by those who prefer M, the greatest");
        for (int n = 2; n <= 6; n++) {
            WishPlaces x = ladder(n, n);
            for (int a = 0; a < n; a++) {
                x.give(0, a, a);
            }
            due("factor(0)", x.factor(0), 1);
            dueFraction(n + " askers alike", x, n - 1, 1);
        }
    }

    private static void factorIsNotOfMostVotes() {
        sentence("Terms 2, promise 17: the greatest over all GIVINGS, not that of the most VOTES");
        // Three alike over two places (2 by 1), four over three others (3 by 1), and both at once 5 by 2.
        WishPlaces x = made(like(1, 5), row(1, 2, 0, 0, 0), row(1, 2, 0, 0, 0), row(1, 2, 0, 0, 0),
                row(0, 0, 1, 2, 3), row(0, 0, 1, 2, 3), row(0, 0, 1, 2, 3), row(0, 0, 1, 2, 3));
        tell(x, 2, 0, 1, NONE, 2, 3, 4, NONE);
        due("margin(2)", x.margin(2), 3);
        due("factor(2)", x.factor(2), 1);
        dueFraction("three by one", x, 3, 1);
    }

    private static void factorInLowestTerms() {
        sentence("Terms 2, promise 17: a fraction in lowest terms");
        // The first GIVING that is as great is two by two.
        WishPlaces x = made(row(1, 1), row(1, 0), row(1, 0), row(0, 1), row(0, 1));
        tell(x, 0, 0, NONE, 1, NONE);
        due("factor(0)", x.factor(0), 1);
        dueFraction("two by two, one by one", x, 1, 1);
        WishPlaces two = made(like(1, 4), row(1, 2, 0, 0), row(1, 2, 0, 0), row(1, 2, 0, 0), row(0, 0, 1, 2),
                row(0, 0, 1, 2), row(0, 0, 1, 2));
        tell(two, 0, 0, 1, NONE, 2, 3, NONE);
        due("factor(0)", two.factor(0), 1);
        dueFraction("four by two, two by one", two, 2, 1);
    }

    private static void factorByNobody() {
        sentence("Terms 2, promise 17: 1 by 0, if nobody prefers M in some of them");
        WishPlaces x = largest(6);
        due("factor(0), all can rise", x.factor(0), 1);
        dueFraction("nobody prefers M", x, 1, 0);
        // One rises by a loss or without one: without one counts, though others are lost by.
        WishPlaces some = madeAlike(row(1, 1), 3, 1, 2);
        tell(some, 3, 0, NONE, NONE);
        due("factor(3)", some.factor(3), 1);
        dueFraction("a seat is free", some, 1, 0);
        tell(some, 3, 0, 1, NONE);
        due("factor(3)", some.factor(3), 1);
        dueFraction("no seat is free", some, 2, 1);
    }

    private static void factorOfNone() {
        sentence("Terms 2, promise 17: 0 by 1, if there are none");
        WishPlaces x = made(row(1, 1), row(1, 2), row(2, 1));
        x.factor(0);
        dueFraction("somebody can rise", x, 1, 0);
        tell(x, 0, 0, 1);
        due("factor(0), all have a first", x.factor(0), 1);
        dueFraction("nobody can rise", x, 0, 1);
        WishPlaces none = new WishPlaces();
        due("factor(3), no askers", none.factor(3), 1);
        dueFraction("no askers", none, 0, 1);
        WishPlaces last = madeAlike(row(2), 2, 6);
        tell(last, 1, 0, 0);
        due("factor(1), their best is a sixth wish", last.factor(1), 1);
        dueFraction("nobody can rise", last, 0, 1);
    }

    private static void factorOfOne() {
        sentence("Terms 2, promise 17: if there are none: not if one ASKER alone can rise, the first or the last");
        WishPlaces x = largest(6);
        tell(x, 0, LARGEST_LAST);
        x.factor(0);
        dueFraction("nobody of 8 can rise", x, 0, 1);
        x.wish(0, 0, 5);
        x.factor(0);
        dueFraction("the first can rise", x, 1, 0);
        x.wish(0, 0, 6);
        x.wish(7, 5, 5);
        x.factor(0);
        dueFraction("the last can rise", x, 1, 0);
        x.give(0, 7, NONE);
        x.give(0, 0, 0);
        x.give(0, 7, 5);
        x.factor(0);
        dueFraction("the last has risen", x, 0, 1);
    }

    private static void factorAtMost() {
        sentence("Terms 2, promise 17: FACTOR of the most ASKERS");
        WishPlaces x = ladder(8, 6);
        tell(x, 0, 0, 1, 2, 3, 4, 5, NONE, NONE);
        due("factor(0)", x.factor(0), 1);
        dueFraction("six by one", x, 6, 1);
    }

    // ---- THE FRACTION, promise 18

    private static void fractions() {
        fractionAboveAndBelow();
        fractionStays();
    }

    private static void fractionAboveAndBelow() {
        sentence("Promise 18: THE FRACTION: above (0), below (1)");
        WishPlaces x = ladder(3, 3);
        tell(x, 0, 0, 1, 2);
        x.factor(0);
        due("part(0)", x.part(0), 2);
        due("part(1)", x.part(1), 1);
        x.share(0, 1);
        due("part(0)", x.part(0), 1);
        due("part(1)", x.part(1), 3);
        due("part(-1)", x.part(-1), -1);
        due("part(2)", x.part(2), -1);
    }

    private static void fractionStays() {
        sentence("Promises 17, 18, 27: THE FRACTION is what the last of these calls made it");
        WishPlaces x = ladder(3, 3);
        tell(x, 0, 0, 1, 2);
        x.factor(0);
        x.margin(1);
        x.better(1);
        x.standing();
        x.chance(0, 0);
        x.envies(0, 1);
        x.become(2, 7);
        x.place(1);
        x.asker();
        x.wish(3, 3, 1);
        dueFraction("other calls", x, 2, 1);
        x.factor(-1);
        x.factor(4);
        dueFraction("refused calls", x, 2, 1);
    }

    // ---- BETTER, promise 19

    private static void betters() {
        betterWithoutLoss();
        betterMost();
        betterFirst();
        betterFullOut();
        betterAtMost();
    }

    private static void betterWithoutLoss() {
        sentence("Terms 2, promise 19: BETTER than M: of GIVINGS by which nobody is worse off");
        WishPlaces x = ladder(3, 3);
        tell(x, 0, 0, 1, 2);
        due("better(0), each rises by a loss alone", x.better(0), 0);
        tell(x, 0, 0, 2, NONE);
        due("better(0)", x.better(0), 2);
        dueBecome(x, 0, 8, 0, 1, 2);
        WishPlaces one = made(row(1), row(2), row(1));
        tell(one, 0, 0, NONE);
        due("better(0), another one's rise is its loss", one.better(0), 0);
    }

    private static void betterMost() {
        sentence("Terms 2, promise 19: that by which most are better off");
        WishPlaces x = made(row(1, 1, 1), row(1, 2, 3), row(2, 1, 3), row(1, 2, 1));
        tell(x, 1, 1, 0, NONE);
        due("better(1)", x.better(1), 3);
        dueBecome(x, 1, 8, 0, 1, 2);
        // The first that nobody is worse off by has one who rises, a later one two.
        WishPlaces later = made(row(1, 1), row(1, 1), row(1, 0));
        due("better(0)", later.better(0), 2);
        dueBecome(later, 0, 8, 1, 0);
    }

    private static void betterFirst() {
        sentence("Terms 2, promise 19: of like ones the first");
        WishPlaces x = madeAlike(row(1, 1, 1), 2, 4, 4, 4);
        due("better(3)", x.better(3), 2);
        dueBecome(x, 3, 8, 0, 1);
        WishPlaces none = madeAlike(row(1), 2, 1);
        due("better(2), one of two", none.better(2), 1);
        dueBecome(none, 2, 8, NONE, 0);
    }

    private static void betterFullOut() {
        sentence("Terms 2, promise 19: if nobody can be: M is FULL OUT (0: FULL OUT)");
        WishPlaces x = made(row(1, 1), row(1, 2), row(1, 2));
        tell(x, 0, 1, 0);
        due("better(0)", x.better(0), 0);
        dueBecome(x, 0, 8, 1, 0);
        due("better(0), no askers", new WishPlaces().better(0), 0);
        due("better(0), no wishes", made(row(1), row(0)).better(0), 0);
        // Of like ones the first, which is another one than M.
        WishPlaces ties = made(row(1, 1), row(3, 3));
        tell(ties, 0, 1);
        due("better(0)", ties.better(0), 0);
        dueBecome(ties, 0, 8, 0);
    }

    private static void betterAtMost() {
        sentence("Promise 19: How many are better off, all 8");
        WishPlaces x = largest(6);
        due("better(3)", x.better(3), 8);
        dueBecome(x, 3, 8, 0, 0, 0, 1, 1, 1, 2, 2);
        due("better(3)", x.better(3), 0);
    }

    // ---- STANDING, promises 20 and 21

    private static void standings() {
        standingHasNoMargin();
        standingNone();
        standingOfFew();
        standingOfMost();
        standingAnew();
    }

    private static void standingHasNoMargin() {
        sentence("Terms 2, promise 20: STANDING: a GIVING of which the MARGIN is 0");
        dueStanding(ladder(3, 3));
        dueStanding(made(row(1, 1), row(1, 2), row(1, 0)));
        dueStanding(made(row(1, 1), row(2, 1), row(0, 1)));
        dueStanding(made(row(1, 1, 1), row(3, 1, 2), row(0, 1, 0), row(0, 0, 6)));
        dueStanding(made(row(2, 1), row(1, 1), row(1, 2), row(2, 1)));
        dueStanding(made(row(1, 1), row(6, 6), row(6, 0), row(0, 6)));
        dueStanding(made(row(1, 2), row(1, 3), row(1, 3)));
    }

    /** Each giving in order: it stands if its margin is 0, and then it is the next one told. */
    private static void dueStanding(WishPlaces x) {
        int stood = 0;
        for (long i = 0; i < x.givings(); i++) {
            int[] g = new int[x.count(0)];
            for (int a = 0; a < g.length; a++) {
                g[a] = x.givingAt(i, a);
            }
            tell(x, 3, g);
            if (x.margin(3) == 0) {
                for (int a = 0; a < g.length; a++) {
                    due("standingAt(" + stood + ", " + a + ")", x.standingAt(stood, a), g[a]);
                }
                stood++;
            }
        }
        due("standing()", x.standing(), stood);
    }

    private static void standingNone() {
        sentence("Promise 20: How many GIVINGS are STANDING, if none is");
        WishPlaces x = ladder(3, 3);
        due("standing()", x.standing(), 0);
        due("standing() of six alike", ladder(6, 6).standing(), 0);
        due("standing() of two alike", ladder(2, 2).standing(), 2);
    }

    private static void standingOfFew() {
        sentence("Promise 20: How many GIVINGS are STANDING, where the empty one is all there is");
        due("no askers", new WishPlaces().standing(), 1);
        due("no wishes", made(row(1), row(0), row(0)).standing(), 1);
        due("one wish, the empty one does not stand", made(row(1), row(6)).standing(), 1);
        due("standingAt(0, 0) of it", made(row(1), row(6)).standingAt(0, 0), 0);
    }

    private static void standingOfMost() {
        sentence("Promise 20: How many GIVINGS are STANDING, at the most");
        WishPlaces x = largest(6);
        due("standing()", x.standing(), LARGEST_ALL_PLACED);
        int[] first = {0, 0, 0, 1, 1, 1, 2, 2};
        for (int a = 0; a < 8; a++) {
            due("standingAt(0, " + a + ")", x.standingAt(0, a), first[a]);
            due("standingAt(last, " + a + ")", x.standingAt(LARGEST_ALL_PLACED - 1, a), LARGEST_LAST[a]);
        }
        refused("standingAt(as many as there are, 0)", x, BAD, () -> x.standingAt(LARGEST_ALL_PLACED, 0));
    }

    private static void standingAnew() {
        sentence("Promise 20: How many GIVINGS are STANDING, after each change");
        WishPlaces x = ladder(3, 3);
        due("standing()", x.standing(), 0);
        x.seats(0, 2);
        due("standing(), a seat more", x.standing(), 3);
        x.wish(2, 0, 0);
        due("standing(), a wish less", x.standing(), 1);
        x.seats(0, 1);
        due("standing(), a seat less", x.standing(), 2);
    }

    private static void standingOnes() {
        standingFirstAndLast();
        standingHasNone();
        noSuchStanding();
        noSuchAskerOfStanding();
    }

    private static void standingFirstAndLast() {
        sentence("Promise 21: What an ASKER has in the i-th GIVING that is STANDING, the first and the last");
        WishPlaces x = ladder(2, 2);
        due("standingAt(0, 0)", x.standingAt(0, 0), 0);
        due("standingAt(0, 1)", x.standingAt(0, 1), 1);
        due("standingAt(1, 0)", x.standingAt(1, 0), 1);
        due("standingAt(1, 1)", x.standingAt(1, 1), 0);
    }

    private static void standingHasNone() {
        sentence("Promise 21: NONE");
        WishPlaces x = madeAlike(row(1), 2, 5);
        due("standingAt(0, 0)", x.standingAt(0, 0), NONE);
        due("standingAt(0, 1)", x.standingAt(0, 1), 0);
        due("standingAt(1, 1)", x.standingAt(1, 1), NONE);
    }

    private static void noSuchStanding() {
        sentence("Promise 21: BAD: no such one");
        WishPlaces none = ladder(3, 3);
        refused("standingAt(0, 0), none stands", none, BAD, () -> none.standingAt(0, 0));
        WishPlaces x = ladder(2, 2);
        long[] wrong = {-1, 2, 3, -2, 1L << 31, 1L << 32, (1L << 32) + 1, -1L << 32, 1L << 63, Long.MAX_VALUE,
            Integer.MAX_VALUE, Integer.MIN_VALUE};
        for (long i : wrong) {
            refused("standingAt(" + i + ", 0)", x, BAD, () -> x.standingAt(i, 0));
        }
    }

    private static void noSuchAskerOfStanding() {
        sentence("Promise 21: BAD: no such ASKER");
        WishPlaces nobody = made(row(1));
        refused("standingAt(0, 0), no askers", nobody, BAD, () -> nobody.standingAt(0, 0));
        WishPlaces x = ladder(2, 2);
        refusedOutside("standingAt(0, #)", x, BAD, 0, 1, a -> x.standingAt(0, a));
        WishPlaces most = largest(1);
        refusedOutside("standingAt(0, #)", most, BAD, 0, 7, a -> most.standingAt(0, a));
    }

    // ---- promise 22

    private static void standingMany() {
        standingMostAndFewest();
        standingManyNone();
        standingManyOfNobody();
        standingManyOfMost();
    }

    private static void standingMostAndFewest() {
        sentence("Promise 22: The most ASKERS that have a PLACE in a GIVING that is STANDING (what = 0), the fewest (1)");
        WishPlaces x = made(row(1, 1), row(1, 2), row(1, 0));
        due("standingMany(0)", x.standingMany(0), 2);
        due("standingMany(1)", x.standingMany(1), 1);
        WishPlaces alike = madeAlike(row(1), 3, 1);
        due("standingMany(0), one in each", alike.standingMany(0), 1);
        due("standingMany(1), one in each", alike.standingMany(1), 1);
    }

    private static void standingManyNone() {
        sentence("Promise 22: NONE: none is");
        WishPlaces x = ladder(3, 3);
        due("standingMany(0)", x.standingMany(0), NONE);
        due("standingMany(1)", x.standingMany(1), NONE);
        due("standingMany(2), BAD all the same", x.standingMany(2), BAD);
    }

    private static void standingManyOfNobody() {
        sentence("Promise 22: none have a PLACE in the empty GIVING, and it is STANDING if it is all there is");
        WishPlaces x = new WishPlaces();
        due("standingMany(0), no askers", x.standingMany(0), 0);
        due("standingMany(1), no askers", x.standingMany(1), 0);
        x.place(3);
        x.asker();
        due("standingMany(0), no wishes", x.standingMany(0), 0);
        due("standingMany(1), no wishes", x.standingMany(1), 0);
    }

    private static void standingManyOfMost() {
        sentence("Promise 22: The most ASKERS, all 8");
        WishPlaces x = largest(1);
        due("standingMany(0)", x.standingMany(0), 8);
        due("standingMany(1)", x.standingMany(1), 8);
        // All want the three seats of place 0, and two of them have place 1 to fall back on.
        WishPlaces few = made(row(3, 3), row(1, 2), row(1, 2), row(1, 0), row(1, 0), row(1, 0), row(1, 0), row(1, 0),
                row(1, 0));
        due("standingMany(0)", few.standingMany(0), 5);
        due("standingMany(1)", few.standingMany(1), 3);
    }
}
