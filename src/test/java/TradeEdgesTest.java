/**
 * Terms 4 and promises 24 and 25, sentence by sentence: each sentence that names a boundary has a test of its own.
 * What is refused as BAD stands in RefusalsEdgesTest.
 */
public final class TradeEdgesTest extends Boards {
    private static final int TRADE = 9;

    private TradeEdgesTest() {
    }

    public static void main(String[] args) {
        begin("TradeEdgesTest");
        owners();
        pointing();
        pointingAtOwners();
        serving();
        rounds();
        leavingRings();
        leavingOfSuch();
        leavingTold();
        end();
    }

    private static void dueRounds(WishPlaces x, int h, int... rounds) {
        for (int a = 0; a < rounds.length; a++) {
            due("round(" + h + ", " + a + ")", x.round(h, a), rounds[a]);
        }
    }

    /** The rounds of a told giving, then what its trade gives. */
    private static void dueTrade(WishPlaces x, int[] held, int[] rounds, int[] gets) {
        tell(x, 0, held);
        dueRounds(x, 0, rounds);
        dueBecome(x, 0, TRADE, gets);
    }

    // ---- OWNERS

    private static void owners() {
        ownersHaveAPlace();
        ownersOfTheToldOne();
        ownersKeepWishes();
    }

    private static void ownersHaveAPlace() {
        sentence("Terms 4, promise 24: OWNERS (ASKERS with a PLACE in H)");
        WishPlaces x = madeAlike(row(1, 1), 3, 1, 2);
        dueTrade(x, row(NONE, 1, NONE), row(0, 1, 0), row(NONE, 1, NONE));
        dueTrade(x, row(NONE, NONE, NONE), row(0, 0, 0), row(NONE, NONE, NONE));
        // 1 has no wish for what is held: it points at nobody, itself neither.
        WishPlaces other = made(row(1, 1), row(1, 2), row(0, 1));
        dueTrade(other, row(0, NONE), row(1, 0), row(0, NONE));
    }

    private static void ownersOfTheToldOne() {
        sentence("Terms 4, promise 24: OWNERS hold what a told GIVING H tells");
        WishPlaces x = made(row(1, 1), row(2, 1), row(1, 2));
        tell(x, 1, 0, NONE);
        tell(x, 2, 0, 1);
        tell(x, 3, NONE, 1);
        dueRounds(x, 0, 0, 0);
        dueRounds(x, 1, 1, 0);
        dueRounds(x, 2, 1, 1);
        dueRounds(x, 3, 0, 1);
        dueBecome(x, 1, TRADE, 0, NONE);
        dueBecome(x, 2, TRADE, 1, 0);
        dueBecome(x, 3, TRADE, NONE, 1);
    }

    private static void ownersKeepWishes() {
        sentence("Terms 4, promise 24: (Its own it always has a WISH for.)");
        WishPlaces x = made(row(1, 1), row(2, 1), row(1, 2));
        tell(x, 0, 0, 1);
        due("wish(0, 0, 0)", x.wish(0, 0, 0), 2);
        dueRounds(x, 0, 0, 1);
        dueBecome(x, 0, TRADE, NONE, 1);
    }

    // ---- each points at one

    private static void pointing() {
        pointsAtHeldPlaces();
        pointsAtWishedPlaces();
        pointsAtThoseLeft();
        pointsAtLeastWish();
        pointsAtItsOwnOfLikeOnes();
        pointsAtLeastNumber();
    }

    private static void pointsAtHeldPlaces() {
        sentence("Terms 4, promise 24: of PLACES that are held by some that are left");
        // Nobody holds place 2, which both want most.
        WishPlaces x = madeAlike(row(1, 1, 1), 2, 2, 3, 1);
        dueTrade(x, row(0, 1), row(1, 2), row(0, 1));
        dueTrade(x, row(0, NONE), row(1, 0), row(0, NONE));
    }

    private static void pointsAtWishedPlaces() {
        sentence("Terms 4, promise 24: and for which it has a WISH");
        WishPlaces x = made(row(1, 1, 1), row(6, 0, 0), row(1, 6, 0), row(0, 1, 6));
        dueTrade(x, row(0, 1, 2), row(1, 2, 3), row(0, 1, 2));
    }

    private static void pointsAtThoseLeft() {
        sentence("Terms 4, promise 24: held by some that are left: not by those who went");
        // 2 wants place 0, which goes in the first round; then place 1, which goes in it, too.
        WishPlaces x = made(row(1, 1, 1, 1), row(2, 1, 0, 0), row(1, 2, 0, 0), row(1, 2, 4, 3), row(0, 0, 1, 2));
        dueTrade(x, row(0, 1, 2, 3), row(1, 1, 2, 2), row(1, 0, 3, 2));
    }

    private static void pointsAtLeastWish() {
        for (int v = 1; v <= 5; v++) {
            sentence("Terms 4, promise 24: that with the least WISH: " + v + " rather than the next");
            WishPlaces x = made(row(1, 1, 1), row(0, v + 1, v), row(v, 6, 0), row(v, 0, 6));
            x.wish(0, 0, 6);
            dueTrade(x, row(0, 1, 2), row(1, 2, 1), row(2, 1, 0));
            x.wish(0, 1, v);
            x.wish(0, 2, v + 1);
            dueTrade(x, row(0, 1, 2), row(1, 1, 2), row(1, 0, 2));
        }
    }

    private static void pointsAtItsOwnOfLikeOnes() {
        sentence("Terms 4, promise 24: of like ones its own");
        WishPlaces x = madeAlike(row(1, 1, 1), 3, 4, 4, 4);
        dueTrade(x, row(2, 0, 1), row(1, 1, 1), row(2, 0, 1));
        WishPlaces wanted = made(row(1, 1), row(3, 3), row(1, 2));
        dueTrade(wanted, row(1, 0), row(1, 1), row(1, 0));
        dueTrade(wanted, row(0, 1), row(1, 2), row(0, 1));
    }

    private static void pointsAtLeastNumber() {
        sentence("Terms 4, promise 24: else the least number");
        // 0 holds place 2 and wants 0 and 1 alike; the owners of both want place 2.
        WishPlaces x = made(row(1, 1, 1), row(1, 1, 2), row(0, 2, 1), row(2, 0, 1));
        dueTrade(x, row(2, 1, 0), row(1, 2, 1), row(0, 1, 2));
    }

    private static void pointingAtOwners() {
        pointsAtItself();
        pointsAtLeastOwner();
        pointsAtLeastOwnerLeft();
    }

    private static void pointsAtItself() {
        sentence("Terms 4, promise 24: in it at itself, if it holds it");
        WishPlaces x = madeAlike(row(3), 3, 6);
        dueTrade(x, row(0, 0, 0), row(1, 1, 1), row(0, 0, 0));
        // If 2 pointed at 0 it would be served in a later round.
        WishPlaces late = made(row(2, 1), row(2, 1), row(1, 2), row(1, 0));
        dueTrade(late, row(0, 1, 0), row(1, 1, 1), row(1, 0, 0));
    }

    private static void pointsAtLeastOwner() {
        sentence("Terms 4, promise 24: else at the least OWNER that is left of it");
        WishPlaces x = made(row(3, 1), row(2, 1), row(2, 1), row(2, 1), row(1, 2));
        dueTrade(x, row(0, 0, 0, 1), row(1, 2, 2, 1), row(1, 0, 0, 0));
        dueTrade(x, row(NONE, 0, 0, 1), row(0, 1, 2, 1), row(NONE, 1, 0, 0));
    }

    private static void pointsAtLeastOwnerLeft() {
        sentence("Terms 4, promise 24: the least OWNER that is left: the next one when the least has gone");
        WishPlaces x = made(row(3, 3), row(2, 1), row(1, 2), row(2, 1), row(1, 2), row(2, 1), row(1, 2));
        dueTrade(x, row(0, 1, 0, 1, 0, 1), row(1, 1, 2, 2, 3, 3), row(1, 0, 1, 0, 1, 0));
    }

    // ---- all rings at once

    private static void serving() {
        ringsAtOnce();
        ringsOfTheLast();
        ringsGiveThePointedAt();
        othersHaveNone();
        othersWait();
    }

    private static void ringsAtOnce() {
        sentence("Terms 4, promise 24: All rings of those who point are served at once");
        WishPlaces x = made(like(1, 5), row(2, 1, 0, 0, 0), row(1, 2, 0, 0, 0), row(0, 0, 2, 1, 0), row(0, 0, 1, 2, 0),
                row(0, 0, 0, 0, 1));
        dueTrade(x, row(0, 1, 2, 3, 4), row(1, 1, 1, 1, 1), row(1, 0, 3, 2, 4));
    }

    private static void ringsOfTheLast() {
        sentence("Terms 4, promise 24: All rings: that of the last of 8 ASKERS, too");
        WishPlaces x = madeAlike(row(3, 3, 1, 1), 8, 1, 1, 0, 0);
        x.wish(6, 2, 6);
        x.wish(6, 3, 5);
        x.wish(7, 2, 5);
        x.wish(7, 3, 6);
        x.wish(6, 0, 0);
        x.wish(6, 1, 0);
        x.wish(7, 0, 0);
        x.wish(7, 1, 0);
        dueTrade(x, row(0, 0, 0, 1, 1, 1, 2, 3), like(1, 8), row(0, 0, 0, 1, 1, 1, 3, 2));
        WishPlaces far = madeAlike(row(1, 1), 8, 0, 0);
        far.wish(0, 0, 2);
        far.wish(0, 1, 1);
        far.wish(7, 0, 1);
        far.wish(7, 1, 2);
        dueTrade(far, row(0, NONE, NONE, NONE, NONE, NONE, NONE, 1), row(1, 0, 0, 0, 0, 0, 0, 1),
                row(1, NONE, NONE, NONE, NONE, NONE, NONE, 0));
    }

    private static void ringsGiveThePointedAt() {
        sentence("Terms 4, promise 24: each gets the PLACE of whom it points at");
        WishPlaces x = made(row(1, 1, 1), row(2, 0, 1), row(1, 2, 0), row(0, 1, 2));
        dueTrade(x, row(0, 1, 2), row(1, 1, 1), row(2, 0, 1));
        WishPlaces six = madeAlike(like(1, 6), 6, like(0, 6));
        for (int a = 0; a < 6; a++) {
            six.wish(a, a, 6);
            six.wish(a, (a + 1) % 6, 5);
        }
        dueTrade(six, row(0, 1, 2, 3, 4, 5), like(1, 6), row(1, 2, 3, 4, 5, 0));
    }

    private static void othersHaveNone() {
        sentence("Terms 4, promise 10: Others have NONE");
        // Seats are free and wished for; those who hold nothing have nothing by TRADE.
        WishPlaces x = madeAlike(row(3, 3), 3, 1, 1);
        dueTrade(x, row(NONE, 1, NONE), row(0, 1, 0), row(NONE, 1, NONE));
    }

    private static void othersWait() {
        sentence("Terms 4, promise 24: they go: who points at one on a ring is served later");
        WishPlaces x = made(row(1, 1, 1), row(2, 1, 0), row(1, 2, 0), row(0, 1, 6));
        dueTrade(x, row(0, 1, 2), row(1, 1, 2), row(1, 0, 2));
    }

    // ---- promise 24

    private static void rounds() {
        roundsFromOne();
        roundsOfNoOwner();
        roundsAtMost();
        roundsOfAll();
    }

    private static void roundsFromOne() {
        sentence("Promise 24: In which round of TRADE from a told GIVING an ASKER is served (1 on)");
        WishPlaces x = madeAlike(row(1, 1), 2, 1, 2);
        tell(x, 3, 1, 0);
        dueRounds(x, 3, 2, 1);
    }

    private static void roundsOfNoOwner() {
        sentence("Promise 24: 0: no OWNER");
        WishPlaces x = made(row(1, 1), row(1, 1), row(0, 0));
        dueRounds(x, 0, 0, 0);
        tell(x, 0, 1, NONE);
        dueRounds(x, 0, 1, 0);
        x.asker();
        dueRounds(x, 0, 1, 0, 0);
    }

    private static void roundsAtMost() {
        sentence("Promise 24: rounds, one after another until all are served");
        WishPlaces x = madeAlike(like(1, 6), 6, 1, 2, 3, 4, 5, 6);
        dueTrade(x, row(0, 1, 2, 3, 4, 5), row(1, 2, 3, 4, 5, 6), row(0, 1, 2, 3, 4, 5));
        dueTrade(x, row(5, 4, 3, 2, 1, 0), row(6, 5, 4, 3, 2, 1), row(5, 4, 3, 2, 1, 0));
        // 0 keeps what it has; 3 and 1 trade then, after which each waits for the one ahead, and 2 for the last.
        WishPlaces seven = made(row(3, 1, 1, 1, 1, 1), row(1, 0, 0, 0, 0, 0), row(2, 1, 0, 0, 0, 0),
                row(2, 0, 0, 0, 0, 1), row(1, 2, 0, 0, 0, 0), row(0, 1, 2, 0, 0, 0), row(0, 0, 1, 2, 0, 0),
                row(0, 0, 0, 1, 2, 0), row(0, 0, 0, 0, 1, 2));
        dueTrade(seven, row(0, 0, 0, 1, 2, 3, 4, 5), row(1, 2, 7, 2, 3, 4, 5, 6), row(0, 1, 0, 0, 2, 3, 4, 5));
    }

    private static void roundsOfAll() {
        sentence("Promise 24: of all 8 ASKERS");
        WishPlaces x = largest(6);
        dueTrade(x, LARGEST_LAST, like(1, 8), LARGEST_LAST);
        WishPlaces wish = madeAlike(like(3, 6), 8, 6, 5, 4, 3, 2, 1);
        dueTrade(wish, LARGEST_LAST, row(1, 1, 1, 2, 2, 2, 3, 3), LARGEST_LAST);
    }

    // ---- LEAVING, promise 25

    private static void leavingRings() {
        leavingOwnersAlone();
        leavingForM();
        leavingBetterOff();
        leavingByNextOnes();
        leavingAlone();
    }

    /** The ring for a told M of the owners of a told H: its number, its askers, then NONE. */
    private static void dueRing(WishPlaces x, int m, int h, int... ring) {
        String call = "leaving(" + m + ", " + h + ", ";
        due(call + "NONE)", x.leaving(m, h, NONE), ring.length);
        for (int i = 0; i < 9; i++) {
            due(call + i + ")", x.leaving(m, h, i), i < ring.length ? ring[i] : NONE);
        }
    }

    private static void leavingOwnersAlone() {
        sentence("Terms 4, promise 25: LEAVING for a told GIVING M: a ring of OWNERS of H");
        // 1 would rather have place 0, but holds nothing in H that another one could have.
        WishPlaces x = made(row(1, 1), row(1, 1), row(1, 1));
        tell(x, 1, 0, NONE);
        tell(x, 0, 0, 1);
        dueRing(x, 0, 1);
        tell(x, 0, 0, NONE);
        dueRing(x, 0, 1);
        tell(x, 0, NONE, NONE);
        dueRing(x, 0, 1, 0);
        dueRing(x, 0, 2);
    }

    private static void leavingForM() {
        sentence("Terms 4, promise 25: than by M");
        // By H itself they would trade; by M they have what they want, though H is the same.
        WishPlaces x = made(row(1, 1), row(2, 1), row(1, 2));
        tell(x, 2, 0, 1);
        tell(x, 3, 1, 0);
        dueRing(x, 2, 2, 0, 1);
        dueRing(x, 3, 2);
        dueRing(x, 2, 3, 0);
        dueRing(x, 3, 3);
    }

    private static void leavingBetterOff() {
        sentence("Terms 4, promise 25: each of which is better off: not as well off");
        WishPlaces x = made(row(1, 1), row(2, 2), row(1, 2));
        tell(x, 0, 0, 1);
        dueRing(x, 0, 0);
        due("wish(0, 1, 1)", x.wish(0, 1, 1), 2);
        dueRing(x, 0, 0, 0, 1);
        due("wish(0, 1, 3)", x.wish(0, 1, 3), 1);
        dueRing(x, 0, 0);
        due("wish(0, 1, 0)", x.wish(0, 1, 0), 3);
        dueRing(x, 0, 0);
        // A sixth wish is better than none; no wish is not.
        WishPlaces last = made(row(1, 1), row(6, 0), row(0, 6));
        tell(last, 1, NONE, 1);
        dueRing(last, 0, 1, 1);
        tell(last, 1, 0, NONE);
        dueRing(last, 0, 1, 0);
    }

    private static void leavingByNextOnes() {
        sentence("Terms 4, promise 25: with the PLACE that the next one holds, the first one's after the last");
        WishPlaces x = made(row(1, 1, 1), row(2, 0, 1), row(1, 2, 0), row(0, 1, 2));
        tell(x, 3, 0, 1, 2);
        dueRing(x, 3, 3, 0, 2, 1);
        WishPlaces other = made(row(1, 1, 1), row(2, 1, 0), row(0, 2, 1), row(1, 0, 2));
        tell(other, 3, 0, 1, 2);
        dueRing(other, 3, 3, 0, 1, 2);
        due("wish(2, 0, 0), the ring breaks", other.wish(2, 0, 0), 1);
        dueRing(other, 3, 3);
    }

    private static void leavingAlone() {
        sentence("Terms 4, promise 25: a ring of one: the next one is itself");
        WishPlaces x = madeAlike(row(1, 1, 1), 3, 1, 2, 3);
        tell(x, 1, 0, 1, 2);
        tell(x, 2, 2, 1, 0);
        dueRing(x, 2, 1, 0);
        dueRing(x, 1, 2, 2);
    }

    private static void leavingOfSuch() {
        leavingFewest();
        leavingFirst();
        leavingFromItsLeast();
    }

    private static void leavingFewest() {
        sentence("Terms 4, promise 25: that with the fewest");
        // A ring of three of the least, and one of two.
        WishPlaces x = made(like(1, 5), row(2, 1, 0, 0, 0), row(0, 2, 1, 0, 0), row(1, 0, 2, 0, 0), row(0, 0, 0, 2, 1),
                row(0, 0, 0, 1, 2));
        tell(x, 0, 0, 1, 2, 3, 4);
        dueRing(x, 0, 0, 3, 4);
        due("give(1, 0, 0)", x.give(1, 0, 0), 1);
        due("give(1, 1, 1)", x.give(1, 1, 1), 1);
        due("give(1, 2, 2)", x.give(1, 2, 2), 1);
        due("give(1, 3, 3)", x.give(1, 3, 3), 1);
        dueRing(x, 1, 0, 4);
        dueRing(x, 0, 1, 0, 1, 2);
    }

    private static void leavingFirst() {
        sentence("Terms 4, promise 25: of like ones the first as a row");
        WishPlaces pairs = made(row(1, 1, 1, 1), row(3, 0, 0, 1), row(0, 3, 1, 0), row(0, 1, 3, 0), row(1, 0, 0, 3));
        tell(pairs, 0, 0, 1, 2, 3);
        dueRing(pairs, 0, 0, 0, 3);
        pairs.wish(0, 2, 1);
        pairs.wish(2, 0, 1);
        dueRing(pairs, 0, 0, 0, 2);
        WishPlaces threes = madeAlike(row(1, 1, 1, 1), 4, like(0, 4));
        for (int a = 0; a < 4; a++) {
            threes.wish(a, a, 2);
        }
        tell(threes, 0, 0, 1, 2, 3);
        int[][] wanted = {{0, 1}, {1, 3}, {3, 0}, {1, 2}, {2, 0}};
        for (int i = 0; i < 5; i++) {
            due("no ring without the next", threes.leaving(0, 0, NONE), i < 3 ? 0 : 3);
            threes.wish(wanted[i][0], wanted[i][1], 1);
        }
        dueRing(threes, 0, 0, 0, 1, 2);
    }

    private static void leavingFromItsLeast() {
        sentence("Terms 4, promise 25: a row that begins with its least");
        WishPlaces x = made(row(1, 1, 1, 1), row(1, 0, 0, 0), row(0, 2, 0, 1), row(0, 1, 2, 0), row(0, 0, 1, 2));
        tell(x, 0, 0, 1, 2, 3);
        dueRing(x, 0, 0, 1, 3, 2);
    }

    private static void leavingTold() {
        leavingHowMany();
        leavingNotSoMany();
        leavingBelowNone();
        leavingOfMost();
        leavingOfEachTold();
    }

    private static void leavingHowMany() {
        sentence("Promise 25: how many (what = NONE; 0: no ring)");
        due("no askers", new WishPlaces().leaving(0, 3, NONE), 0);
        WishPlaces x = made(row(1), row(6));
        due("no owners", x.leaving(0, 0, NONE), 0);
        tell(x, 0, 0);
        due("no ring", x.leaving(0, 0, NONE), 0);
        due("one", x.leaving(3, 0, NONE), 1);
    }

    private static void leavingNotSoMany() {
        sentence("Promise 25: its i-th ASKER (what = i). NONE: not so many");
        WishPlaces x = made(row(1, 1), row(2, 1), row(1, 2));
        tell(x, 0, 0, 1);
        due("leaving(0, 0, 0)", x.leaving(0, 0, 0), 0);
        due("leaving(0, 0, 1)", x.leaving(0, 0, 1), 1);
        for (int what : row(2, 3, 7, 8, 9, 256, 65536, Integer.MAX_VALUE)) {
            due("leaving(0, 0, " + what + ")", x.leaving(0, 0, what), NONE);
            due("leaving(1, 1, " + what + "), no ring", x.leaving(1, 1, what), NONE);
        }
        due("leaving(1, 1, 0), no ring", x.leaving(1, 1, 0), NONE);
    }

    private static void leavingBelowNone() {
        sentence("Promise 25: BAD: what below NONE");
        WishPlaces x = made(row(1, 1), row(2, 1), row(1, 2));
        tell(x, 0, 0, 1);
        for (int what : row(-2, -3, -9, Integer.MIN_VALUE)) {
            refused("leaving(0, 0, " + what + ")", x, BAD, () -> x.leaving(0, 0, what));
            refused("leaving(1, 1, " + what + "), no ring", x, BAD, () -> x.leaving(1, 1, what));
        }
    }

    private static void leavingOfMost() {
        sentence("Promise 25: LEAVING, of 8 OWNERS");
        // Each wants the place of the next one alone; 6 and 7 hold places that 0 and 1 hold, too.
        WishPlaces x = madeAlike(row(2, 2, 1, 1, 1, 1), 8, like(0, 6));
        int[] held = {0, 1, 2, 3, 4, 5, 0, 1};
        for (int a = 0; a < 8; a++) {
            x.wish(a, held[a], 6);
        }
        tell(x, 2, held);
        dueRing(x, 2, 2);
        for (int a = 0; a < 6; a++) {
            x.wish(a, held[a + 1], 5);
        }
        // 5 wants place 0, which 0 holds and 6, too.
        dueRing(x, 2, 2, 0, 1, 2, 3, 4, 5);
        due("wish(5, 0, 0)", x.wish(5, 0, 0), 5);
        dueRing(x, 2, 2);
    }

    private static void leavingOfEachTold() {
        sentence("Promise 25: LEAVING: each told H and M, the others beside it told, too");
        WishPlaces x = madeAlike(row(3, 3, 2), 8, 1, 2, 3);
        int[][] rows = {{2, 1, 0, 0, 0, 1, 1, 2}, {0, 2, 1, 0, 0, 1, 1, 2}, {0, 0, 2, 1, 0, 1, 1, 2},
            {0, 0, 0, 2, 1, 1, 1, 2}};
        for (int g = 0; g < 4; g++) {
            tell(x, g, rows[g]);
        }
        // Alone, who has a lesser place in M than in H; the first such one.
        int[][] alone = {{-1, 0, 0, 0}, {1, -1, 1, 1}, {2, 2, -1, 2}, {3, 3, 3, -1}};
        for (int m = 0; m < 4; m++) {
            for (int h = 0; h < 4; h++) {
                due("leaving(" + m + ", " + h + ", 0)", x.leaving(m, h, 0), alone[m][h]);
                due("leaving(" + m + ", " + h + ", NONE)", x.leaving(m, h, NONE), m == h ? 0 : 1);
            }
        }
    }
}
