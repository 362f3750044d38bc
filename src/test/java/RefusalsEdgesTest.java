/**
 * "Refused, changing nothing, the first of: BAD -2 a number is not as told; NO -3 as told; FULL -4", call by call;
 * and the 512 calls that an object is used for.
 */
public final class RefusalsEdgesTest extends Boards {
    private RefusalsEdgesTest() {
    }

    public static void main(String[] args) {
        begin("RefusalsEdgesTest");
        constants();
        badAheadOfNo();
        badAheadOfFull();
        refusedChangesNothing();
        badOfPlaces();
        badOfWishes();
        badOfGivings();
        badOfVotes();
        badOfStanding();
        badOfTrade();
        badOfLots();
        badOfAnEmptyOne();
        manyCalls();
        end();
    }

    /** Three askers, two places, told givings that differ, and a fraction: what is refused would show. */
    private static WishPlaces half() {
        WishPlaces x = made(row(2, 3), row(1, 2), row(2, 0), row(1, 6));
        tell(x, 0, 0, 0, 1);
        tell(x, 1, 1, NONE, 0);
        tell(x, 3, NONE, 0, NONE);
        x.share(0, 0);
        return x;
    }

    private static WishPlaces full() {
        WishPlaces x = largest(6);
        tell(x, 2, LARGEST_LAST);
        x.factor(0);
        return x;
    }

    private static WishPlaces[] boards() {
        return new WishPlaces[] {half(), full()};
    }

    // ---- which, and in which order

    private static void constants() {
        sentence("The public face: NONE = -1, BAD = -2, NO = -3, FULL = -4");
        due("NONE", WishPlaces.NONE, -1);
        due("BAD", WishPlaces.BAD, -2);
        due("NO", WishPlaces.NO, -3);
        due("FULL", WishPlaces.FULL, -4);
    }

    private static void badAheadOfNo() {
        sentence("Refused, the first of: BAD ahead of NO");
        WishPlaces x = half();
        refused("seats(0, 0), two have it", x, BAD, () -> x.seats(0, 0));
        refused("seats(0, -1), two have it", x, BAD, () -> x.seats(0, -1));
        refused("seats(2, 1)", x, BAD, () -> x.seats(2, 1));
        refused("give(4, 1, 1), no wish", x, BAD, () -> x.give(4, 1, 1));
        refused("give(0, 3, 1), no such asker", x, BAD, () -> x.give(0, 3, 1));
        refused("give(0, 1, 2), no such place", x, BAD, () -> x.give(0, 1, 2));
        refused("give(0, 1, 1), no wish", x, NO, () -> x.give(0, 1, 1));
        refused("give(-1, 2, 0), its seats are had", x, BAD, () -> x.give(-1, 2, 0));
        refused("give(0, 2, 0), its seats are had", x, NO, () -> x.give(0, 2, 0));
    }

    private static void badAheadOfFull() {
        sentence("Refused, the first of: BAD ahead of FULL");
        WishPlaces x = full();
        refused("place(0), the seventh", x, BAD, () -> x.place(0));
        refused("place(4), the seventh", x, BAD, () -> x.place(4));
        refused("place(1), the seventh", x, FULL, () -> x.place(1));
    }

    private static void refusedChangesNothing() {
        sentence("Refused, changing nothing: what is asked afterwards is as before");
        WishPlaces x = half();
        WishPlaces same = half();
        x.place(4);
        x.seats(0, 1);
        x.seats(1, 0);
        x.wish(0, 0, 7);
        x.wish(3, 0, 0);
        x.give(0, 2, 0);
        x.give(0, 1, 1);
        x.become(0, 10);
        x.factor(4);
        x.share(0, 2);
        due("givings()", x.givings(), same.givings());
        due("standing()", x.standing(), same.standing());
        due("digest()", x.digest(), same.digest());
        for (int g = 0; g < 4; g++) {
            due("placeOf(" + g + ")", x.placeOf(g), same.placeOf(g));
            due("margin(" + g + ")", x.margin(g), same.margin(g));
        }
        due("asker(), nothing came", x.asker(), 3);
        due("place(1), nothing came", x.place(1), 2);
    }

    // ---- BAD, call by call

    private static void badOfPlaces() {
        sentence("Promise 3: place: BAD");
        for (WishPlaces x : boards()) {
            refusedOutside("place(#)", x, BAD, 1, 3, s -> x.place(s));
        }
        sentence("Promise 4: seats: BAD");
        for (WishPlaces x : boards()) {
            refusedOutside("seats(#, 3)", x, BAD, 0, x.count(1) - 1, q -> x.seats(q, 3));
            refusedOutside("seats(1, #)", x, BAD, 1, 3, s -> x.seats(1, s));
        }
    }

    private static void badOfWishes() {
        sentence("Promise 5: wish: BAD");
        for (WishPlaces x : boards()) {
            refusedOutside("wish(#, 0, 5)", x, BAD, 0, x.count(0) - 1, a -> x.wish(a, 0, 5));
            refusedOutside("wish(0, #, 5)", x, BAD, 0, x.count(1) - 1, q -> x.wish(0, q, 5));
            refusedOutside("wish(0, #, 0)", x, BAD, 0, x.count(1) - 1, q -> x.wish(0, q, 0));
            refusedOutside("wish(0, 0, #)", x, BAD, 0, 6, v -> x.wish(0, 0, v));
        }
        sentence("Promise 6: worth: BAD");
        for (WishPlaces x : boards()) {
            refusedOutside("worth(#, 0)", x, BAD, 0, x.count(0) - 1, a -> x.worth(a, 0));
            refusedOutside("worth(#, NONE)", x, BAD, 0, x.count(0) - 1, a -> x.worth(a, NONE));
            refusedOutside("worth(0, #)", x, BAD, NONE, x.count(1) - 1, q -> x.worth(0, q));
        }
    }

    private static void badOfGivings() {
        sentence("Promise 9: give: BAD");
        for (WishPlaces x : boards()) {
            refusedOutside("give(#, 0, 1)", x, BAD, 0, 3, g -> x.give(g, 0, 1));
            refusedOutside("give(1, #, NONE)", x, BAD, 0, x.count(0) - 1, a -> x.give(1, a, NONE));
            refusedOutside("give(1, 0, #)", x, BAD, NONE, x.count(1) - 1, q -> x.give(1, 0, q));
        }
        sentence("Promise 10: become: BAD");
        for (WishPlaces x : boards()) {
            refusedOutside("become(#, 4)", x, BAD, 0, 3, g -> x.become(g, 4));
            refusedOutside("become(0, #)", x, BAD, 0, 9, what -> x.become(0, what));
        }
        sentence("Promise 11: has: BAD");
        for (WishPlaces x : boards()) {
            refusedOutside("has(#, 0)", x, BAD, 0, 3, g -> x.has(g, 0));
            refusedOutside("has(0, #)", x, BAD, 0, x.count(0) - 1, a -> x.has(0, a));
        }
        sentence("Promise 12: placeOf: BAD");
        for (WishPlaces x : boards()) {
            refusedOutside("placeOf(#)", x, BAD, 0, 3, g -> x.placeOf(g));
        }
        sentence("Promise 13: many: BAD");
        for (WishPlaces x : boards()) {
            refusedOutside("many(#, 1)", x, BAD, 0, 3, g -> x.many(g, 1));
            refusedOutside("many(0, #)", x, BAD, 1, 7, v -> x.many(0, v));
        }
    }

    private static void badOfVotes() {
        sentence("Promise 14: votes: BAD: -100");
        for (WishPlaces x : boards()) {
            refusedOutside("votes(#, 0)", x, -100, 0, 3, g -> x.votes(g, 0));
            refusedOutside("votes(0, #)", x, -100, 0, 3, g -> x.votes(0, g));
        }
        sentence("Promise 15: margin: BAD");
        for (WishPlaces x : boards()) {
            refusedOutside("margin(#)", x, BAD, 0, 3, g -> x.margin(g));
        }
        sentence("Promise 16: beater: BAD");
        for (WishPlaces x : boards()) {
            refusedOutside("beater(#, 0)", x, BAD, 0, 3, g -> x.beater(g, 0));
            refusedOutside("beater(0, #)", x, BAD, 0, x.count(0) - 1, a -> x.beater(0, a));
        }
        sentence("Promise 17: factor: BAD");
        for (WishPlaces x : boards()) {
            refusedOutside("factor(#)", x, BAD, 0, 3, g -> x.factor(g));
        }
        sentence("Promise 18: part: BAD: -1");
        for (WishPlaces x : boards()) {
            refusedOutside("part(#)", x, -1, 0, 1, what -> x.part(what));
        }
        sentence("Promise 19: better: BAD");
        for (WishPlaces x : boards()) {
            refusedOutside("better(#)", x, BAD, 0, 3, g -> x.better(g));
        }
    }

    private static void badOfStanding() {
        sentence("Promise 22: standingMany: BAD");
        for (WishPlaces x : boards()) {
            refusedOutside("standingMany(#)", x, BAD, 0, 1, what -> x.standingMany(what));
        }
    }

    private static void badOfTrade() {
        sentence("Promise 23: turn: BAD: no such ASKER");
        WishPlaces three = half();
        refusedOutside("turn(012, #)", three, BAD, 0, 2, a -> three.turn(0012, a));
        WishPlaces eight = full();
        refusedOutside("turn(01234567, #)", eight, BAD, 0, 7, a -> eight.turn(001234567, a));
        sentence("Promise 24: round: BAD");
        for (WishPlaces x : boards()) {
            refusedOutside("round(#, 0)", x, BAD, 0, 3, g -> x.round(g, 0));
            refusedOutside("round(0, #)", x, BAD, 0, x.count(0) - 1, a -> x.round(0, a));
        }
        sentence("Promise 25: leaving: BAD: also m, h");
        for (WishPlaces x : boards()) {
            for (int what = NONE; what <= 1; what++) {
                int told = what;
                refusedOutside("leaving(#, 0, " + what + ")", x, BAD, 0, 3, m -> x.leaving(m, 0, told));
                refusedOutside("leaving(0, #, " + what + ")", x, BAD, 0, 3, h -> x.leaving(0, h, told));
            }
        }
    }

    private static void badOfLots() {
        sentence("Promise 26: chance: BAD");
        for (WishPlaces x : boards()) {
            refusedOutside("chance(#, 0)", x, BAD, 0, x.count(0) - 1, a -> x.chance(a, 0));
            refusedOutside("chance(0, #)", x, BAD, 0, x.count(1) - 1, q -> x.chance(0, q));
        }
        sentence("Promise 27: share: BAD");
        for (WishPlaces x : boards()) {
            refusedOutside("share(#, 0)", x, BAD, 0, x.count(0) - 1, a -> x.share(a, 0));
            refusedOutside("share(0, #)", x, BAD, 0, x.count(1) - 1, q -> x.share(0, q));
        }
        sentence("Promise 28: envies: BAD");
        for (WishPlaces x : boards()) {
            refusedOutside("envies(#, 0)", x, BAD, 0, x.count(0) - 1, a -> x.envies(a, 0));
            refusedOutside("envies(0, #)", x, BAD, 0, x.count(0) - 1, a -> x.envies(0, a));
        }
        sentence("Promise 29: count: BAD");
        for (WishPlaces x : boards()) {
            refusedOutside("count(#)", x, BAD, 0, 3, what -> x.count(what));
        }
    }

    private static void badOfAnEmptyOne() {
        sentence("Refused: BAD of every ASKER and PLACE, where there are none");
        WishPlaces x = new WishPlaces();
        refusedOutside("seats(#, 1)", x, BAD, 0, NONE, q -> x.seats(q, 1));
        refusedOutside("wish(#, 0, 1)", x, BAD, 0, NONE, a -> x.wish(a, 0, 1));
        refusedOutside("worth(#, NONE)", x, BAD, 0, NONE, a -> x.worth(a, NONE));
        refusedOutside("give(0, #, NONE)", x, BAD, 0, NONE, a -> x.give(0, a, NONE));
        refusedOutside("has(0, #)", x, BAD, 0, NONE, a -> x.has(0, a));
        refusedOutside("beater(0, #)", x, BAD, 0, NONE, a -> x.beater(0, a));
        refusedOutside("turn(0, #)", x, BAD, 0, NONE, a -> x.turn(0, a));
        refusedOutside("round(0, #)", x, BAD, 0, NONE, a -> x.round(0, a));
        refusedOutside("chance(#, 0)", x, BAD, 0, NONE, a -> x.chance(a, 0));
        refusedOutside("share(#, 0)", x, BAD, 0, NONE, a -> x.share(a, 0));
        refusedOutside("envies(#, 1)", x, BAD, 0, NONE, a -> x.envies(a, 1));
        x.asker();
        refusedOutside("wish(0, #, 1)", x, BAD, 0, NONE, q -> x.wish(0, q, 1));
        refusedOutside("worth(0, #)", x, BAD, NONE, NONE, q -> x.worth(0, q));
        refusedOutside("give(0, 0, #)", x, BAD, NONE, NONE, q -> x.give(0, 0, q));
        refusedOutside("chance(0, #)", x, BAD, 0, NONE, q -> x.chance(0, q));
        refusedOutside("share(0, #)", x, BAD, 0, NONE, q -> x.share(0, q));
        refusedOutside("envies(0, #)", x, BAD, 1, NONE, a -> x.envies(0, a));
    }

    // ---- 512 calls

    /** 23 calls of making and 16 times 30 of asking, then 9 more: the last ones are answered as the first ones were. */
    private static void manyCalls() {
        sentence("An object is used for at most 512 calls: the last ones as the first ones");
        WishPlaces x = new WishPlaces();
        for (int q = 0; q < 3; q++) {
            x.place(1);
        }
        for (int a = 0; a < 4; a++) {
            x.asker();
            for (int q = 0; q < 3; q++) {
                x.wish(a, q, q + 1);
            }
        }
        for (int q = 0; q < 4; q++) {
            due("give(0, ..)", x.give(0, q, q == 3 ? NONE : q), 1);
        }
        for (int i = 0; i < 16; i++) {
            due("seats(2, 2)", x.seats(2, 2), 1);
            askWithSeat(x);
            due("seats(2, 1)", x.seats(2, 1), 2);
            askWithoutSeat(x);
        }
        askLast(x);
    }

    private static void askWithSeat(WishPlaces x) {
        due("givings(), 2 seats", x.givings(), 115);
        due("standing(), 2 seats", x.standing(), 0);
        due("margin(0), 2 seats", x.margin(0), 2);
        due("chance(0, 2), 2 seats", x.chance(0, 2), 12);
        due("share(0, 2), 2 seats", x.share(0, 2), 1);
        due("part(1), 2 seats", x.part(1), 2);
        due("become(1, 5), 2 seats", x.become(1, 5), 1);
        due("placeOf(1), 2 seats", x.placeOf(1), 54);
        due("wish(3, 0, 0)", x.wish(3, 0, 0), 1);
        due("chance(3, 1), no first", x.chance(3, 1), 12);
        due("standing(), no first", x.standing(), 3);
        due("wish(3, 0, 1)", x.wish(3, 0, 1), 0);
        due("count(2), 2 seats", x.count(2), 4);
        due("become(1, 2), 2 seats", x.become(1, 2), 1);
    }

    private static void askWithoutSeat(WishPlaces x) {
        due("givings(), 1 seat", x.givings(), 73);
        due("standing(), 1 seat", x.standing(), 0);
        due("margin(0), 1 seat", x.margin(0), 2);
        due("chance(0, 2), 1 seat", x.chance(0, 2), 6);
        due("share(0, 2), 1 seat", x.share(0, 2), 1);
        due("part(1), 1 seat", x.part(1), 4);
        due("factor(0), 1 seat", x.factor(0), 1);
        due("part(0), 1 seat", x.part(0), 3);
        due("turn(0123, 3), 1 seat", x.turn(0123, 3), NONE);
        due("turn(03210, 3), 1 seat", x.turn(03210, 3), 0);
        due("round(0, 2), 1 seat", x.round(0, 2), 3);
        due("leaving(1, 0, NONE), 1 seat", x.leaving(1, 0, NONE), 1);
        due("better(2), 1 seat", x.better(2), 3);
        due("givingAt(72, 3), 1 seat", x.givingAt(72, 3), NONE);
    }

    private static void askLast(WishPlaces x) {
        due("call 504: givings()", x.givings(), 73);
        due("call 505: give(0, 3, 2)", x.give(0, 3, 2), NO);
        due("call 506: wish(2, 2, 0)", x.wish(2, 2, 0), 3);
        due("call 507: give(0, 3, 2)", x.give(0, 3, 2), 1);
        due("call 508: has(0, 2)", x.has(0, 2), NONE);
        due("call 509: asker()", x.asker(), 4);
        due("call 510: place(3)", x.place(3), 3);
        due("call 511: count(2)", x.count(2), 6);
        due("call 512: share(1, 1)", x.share(1, 1), 1);
    }
}
