/** Terms 3 and promise 23, sentence by sentence: FIRSTS, FAIREST, MOST and TURNS, each at its edges. */
public final class AimsEdgesTest extends Boards {
    private static final int FIRSTS = 4;
    private static final int FAIREST = 5;
    private static final int MOST = 6;

    private AimsEdgesTest() {
    }

    public static void main(String[] args) {
        begin("AimsEdgesTest");
        firsts();
        fairest();
        most();
        likeOnes();
        turns();
        orders();
        end();
    }

    // ---- FIRSTS

    private static void firsts() {
        firstsMostAtEach();
        firstsThenAtTheNext();
        firstsAtSix();
        firstsOfAll();
    }

    private static void firstsMostAtEach() {
        for (int v = 1; v <= 5; v++) {
            sentence("Terms 3, promise 10: FIRSTS: the GIVING with most ASKERS at WISH 1, then .. 6: one more at " + v);
            // One at v and one without, or two at v + 1.
            WishPlaces x = made(row(1, 1), row(v, v + 1), row(v + 1, 0));
            dueBecome(x, 0, FIRSTS, 0, NONE);
        }
    }

    private static void firstsThenAtTheNext() {
        for (int v = 1; v <= 5; v++) {
            sentence("Terms 3, promise 10: FIRSTS: .. then at 2, .. 6: as many at " + v + ", one more at the next");
            WishPlaces x = made(row(1, 1), row(v, v), row(v + 1, 0));
            dueBecome(x, 0, FIRSTS, 1, 0);
        }
    }

    private static void firstsAtSix() {
        sentence("Terms 3, promise 10: FIRSTS: .. 6: one at WISH 6 rather than none, two rather than one");
        dueBecome(made(row(1), row(6)), 3, FIRSTS, 0);
        dueBecome(made(row(1, 1), row(6, 6), row(6, 0)), 3, FIRSTS, 1, 0);
    }

    private static void firstsOfAll() {
        sentence("Terms 3, promise 10: FIRSTS with 8 ASKERS at one WISH");
        // All eight at 2, or one of them at 1.
        WishPlaces x = madeAlike(row(3, 3, 3), 8, 2, 2, 2);
        x.place(1);
        x.wish(7, 3, 1);
        dueBecome(x, 0, FIRSTS, 0, 0, 0, 1, 1, 1, 2, 3);
        due("many(0, 1)", x.many(0, 1), 1);
        x.wish(7, 3, 3);
        dueBecome(x, 0, FIRSTS, 0, 0, 0, 1, 1, 1, 2, 2);
    }

    // ---- FAIREST

    private static void fairest() {
        fairestLeavesOutFewest();
        fairestFewestAtEach();
        fairestChain();
    }

    private static void fairestLeavesOutFewest() {
        for (int v = 1; v <= 5; v++) {
            sentence("Terms 3, promise 10: FAIREST: fewest with none, rather than a WISH of " + v);
            WishPlaces x = made(row(1, 1), row(v, 6), row(6, 0));
            dueBecome(x, 0, FAIREST, 1, 0);
        }
    }

    private static void fairestFewestAtEach() {
        for (int v = 6; v >= 2; v--) {
            sentence("Terms 3, promise 10: FAIREST: then fewest at WISH 6, then 5, .. 1: one fewer at " + v);
            // One at 1 and one at v, or two at v - 1.
            WishPlaces x = made(row(1, 1), row(1, v - 1), row(v - 1, v));
            dueBecome(x, 0, FAIREST, 1, 0);
        }
        for (int v = 6; v >= 3; v--) {
            sentence("Terms 3, promise 10: FAIREST: as many at 6 .. " + v + ", fewer at the next");
            // One of them is at v in each; the other one is at v - 1 or at v - 2.
            WishPlaces x = made(row(1, 1), row(v, v), row(v - 2, v - 1));
            dueBecome(x, 0, FAIREST, 1, 0);
        }
    }

    private static void fairestChain() {
        sentence("Terms 3, promise 10: FAIREST: fewest with none, whatever all others lose by it");
        WishPlaces x = chain();
        dueBecome(x, 0, FAIREST, 1, 2, 3, 4, 5, 0);
    }

    /** Five have a first of their own; only if all of them take a sixth wish has the last one a place. */
    private static WishPlaces chain() {
        WishPlaces x = madeAlike(like(1, 6), 6, like(0, 6));
        for (int a = 0; a < 5; a++) {
            x.wish(a, a, 1);
            x.wish(a, a + 1, 6);
        }
        x.wish(5, 0, 6);
        return x;
    }

    // ---- MOST

    private static void most() {
        mostLeavesOutFewest();
        mostLeastSum();
        mostOfAll();
    }

    private static void mostLeavesOutFewest() {
        sentence("Terms 3, promise 10: MOST: fewest with none, whatever the sum");
        dueBecome(chain(), 0, MOST, 1, 2, 3, 4, 5, 0);
        dueBecome(made(row(1, 1), row(1, 6), row(6, 0)), 0, MOST, 1, 0);
        dueBecome(made(row(1), row(6)), 0, MOST, 0);
    }

    private static void mostLeastSum() {
        sentence("Terms 3, promise 10: MOST: then the least sum of WISHES");
        // Of both all are placed: 2 and 6, or 4 and 5; 4 and 4 rather than 3 and 6.
        dueBecome(made(row(1, 1), row(4, 2), row(6, 5)), 0, MOST, 1, 0);
        dueBecome(made(row(1, 1), row(3, 4), row(4, 6)), 0, MOST, 1, 0);
        dueBecome(made(row(1, 1), row(3, 4), row(4, 4)), 0, MOST, 0, 1);
        // A sum is a sum: v and v + 3 are as much as v + 1 and v + 2, so the first of both it is.
        for (int v = 1; v <= 3; v++) {
            dueBecome(made(row(1, 1), row(v + 1, v), row(v + 3, v + 2)), 0, MOST, 0, 1);
            dueBecome(made(row(1, 1), row(v, v + 1), row(v + 2, v + 3)), 0, MOST, 0, 1);
        }
    }

    private static void mostOfAll() {
        sentence("Terms 3, promise 10: MOST: the least sum with nobody left out, and with some");
        WishPlaces x = largest(6);
        x.wish(0, 5, 5);
        dueBecome(x, 0, MOST, 5, 0, 0, 0, 1, 1, 1, 2);
        WishPlaces few = made(row(1), row(3), row(2), row(2), row(6));
        dueBecome(few, 0, MOST, NONE, NONE, 0, NONE);
    }

    // ---- Of like ones the first

    private static void likeOnes() {
        int[] aims = {FIRSTS, FAIREST, MOST};
        String[] names = {"FIRSTS", "FAIREST", "MOST"};
        for (int i = 0; i < 3; i++) {
            sentence("Terms 3, promise 10: " + names[i] + ": Of like ones the first");
            dueBecome(madeAlike(row(1), 2, 3), 0, aims[i], NONE, 0);
            dueBecome(madeAlike(row(1, 1, 1), 2, 3, 3, 3), 0, aims[i], 0, 1);
            dueBecome(made(row(1, 1), row(2, 3), row(2, 3)), 0, aims[i], 0, 1);
            dueBecome(largest(2), 0, aims[i], 0, 0, 0, 1, 1, 1, 2, 2);
        }
    }

    // ---- TURNS, promise 23

    private static void turns() {
        turnsFirstThenSecond();
        turnsChooseLater();
        turnsTakeWhatIsLeft();
        turnsOfLikeOnes();
        turnsOfNone();
        turnsOfAll();
    }

    /** What each has by an order, as a row. */
    private static void dueTurn(WishPlaces x, int order, int... row) {
        for (int a = 0; a < row.length; a++) {
            due("turn(0" + Integer.toOctalString(order) + ", " + a + ")", x.turn(order, a), row[a]);
        }
    }

    private static void turnsFirstThenSecond() {
        sentence("Terms 3, promise 23: TURNS: the least WORTH to its first, then to its second, and so on");
        WishPlaces x = madeAlike(row(1, 1, 1), 3, 1, 2, 3);
        dueTurn(x, 0012, 0, 1, 2);
        dueTurn(x, 0021, 0, 2, 1);
        dueTurn(x, 0102, 1, 0, 2);
        dueTurn(x, 0120, 2, 0, 1);
        dueTurn(x, 0201, 1, 2, 0);
        dueTurn(x, 0210, 2, 1, 0);
        // The first one's fifth wish rather than its sixth, though all others lose by it.
        WishPlaces loss = made(row(1, 1), row(5, 6), row(1, 0), row(1, 0));
        dueTurn(loss, 0012, 0, NONE, NONE);
        dueTurn(loss, 0102, 1, 0, NONE);
    }

    private static void turnsChooseLater() {
        sentence("Terms 3, promise 23: TURNS: of PLACES alike to the first it has that which is better to the next");
        dueTurn(made(row(1, 1), row(4, 4), row(1, 2)), 0001, 1, 0);
        dueTurn(made(row(1, 1), row(4, 4), row(2, 1)), 0001, 0, 1);
    }

    private static void turnsTakeWhatIsLeft() {
        sentence("Terms 3, promise 23: TURNS: a sixth WISH rather than none (7)");
        WishPlaces x = madeAlike(row(1, 1), 2, 1, 6);
        dueTurn(x, 0001, 0, 1);
        dueTurn(x, 0010, 1, 0);
    }

    private static void turnsOfLikeOnes() {
        sentence("Terms 3, promise 23: TURNS: Of like ones the first");
        dueTurn(madeAlike(row(1, 1, 1), 2, 4, 4, 4), 0010, 0, 1);
        dueTurn(madeAlike(row(1, 1), 1, 6, 6), 0000, 0);
    }

    private static void turnsOfNone() {
        sentence("Promise 23: NONE");
        dueTurn(made(row(1), row(0), row(1), row(1)), 0012, NONE, 0, NONE);
        dueTurn(made(row(), row(), row()), 0010, NONE, NONE);
    }

    private static void turnsOfAll() {
        sentence("Promise 23: (digits of ASKERS to the base 8, the first highest), of all 8");
        WishPlaces x = madeAlike(like(1, 6), 8, 1, 2, 3, 4, 5, 6);
        dueTurn(x, 001234567, 0, 1, 2, 3, 4, 5, NONE, NONE);
        dueTurn(x, 076543210, NONE, NONE, 5, 4, 3, 2, 1, 0);
        dueTurn(x, 070123456, 1, 2, 3, 4, 5, NONE, NONE, 0);
    }

    private static void orders() {
        ordersOfEachOnce();
        ordersOfAllAskers();
        ordersOfTooMany();
    }

    private static void ordersOfEachOnce() {
        sentence("Promise 23: digits of ASKERS .. each once; else BAD");
        WishPlaces x = madeAlike(row(3), 3, 1);
        for (int order = 0; order < 01000; order++) {
            int seen = 1 << (order & 7) | 1 << (order >> 3 & 7) | 1 << (order >> 6);
            due("turn(0" + Integer.toOctalString(order) + ", 2)", x.turn(order, 2), seen == 7 ? 0 : BAD);
        }
    }

    private static void ordersOfAllAskers() {
        sentence("Promise 23, Terms 3: an order of all ASKERS; else BAD");
        WishPlaces x = madeAlike(row(3), 3, 1);
        for (int order : row(0, 1, 0010, 0001, 0020, 0013, 0123)) {
            refused("turn(0" + Integer.toOctalString(order) + ", 0)", x, BAD, () -> x.turn(order, 0));
        }
        x.asker();
        due("turn(00123, 0), four askers", x.turn(0123, 0), 0);
        WishPlaces one = made(row(1), row(1));
        due("turn(0, 0), one asker", one.turn(0, 0), 0);
        refused("turn(1, 0), one asker", one, BAD, () -> one.turn(1, 0));
        refused("turn(010, 0), one asker", one, BAD, () -> one.turn(010, 0));
        WishPlaces nobody = made(row(1));
        refused("turn(0, 0), no askers", nobody, BAD, () -> nobody.turn(0, 0));
    }

    private static void ordersOfTooMany() {
        sentence("Promise 23: a digit too many, a number below 0 or beyond 8 digits: BAD");
        WishPlaces x = madeAlike(row(3), 3, 1);
        for (int more : row(01000, 03000, 07000, 1 << 12, 1 << 24, 1 << 30, Integer.MIN_VALUE)) {
            refused("turn(" + (0012 + more) + ", 0)", x, BAD, () -> x.turn(0012 + more, 0));
        }
        WishPlaces full = largest(1);
        for (int more : row(1 << 24, 1 << 27, 1 << 30, Integer.MIN_VALUE)) {
            refused("turn(" + (001234567 + more) + ", 0)", full, BAD, () -> full.turn(001234567 + more, 0));
        }
        refused("turn(-1, 0)", full, BAD, () -> full.turn(-1, 0));
        refused("turn(012345678 to the base 10, 0)", full, BAD, () -> full.turn(12345678, 0));
    }
}
