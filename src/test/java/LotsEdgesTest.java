/**
 * Terms 5 and promises 26 to 30, sentence by sentence: each sentence that names a boundary has a test of its own.
 * What is refused as BAD stands in RefusalsEdgesTest.
 */
public final class LotsEdgesTest extends Boards {
    private LotsEdgesTest() {
    }

    public static void main(String[] args) {
        begin("LotsEdgesTest");
        lotsOfOrders();
        lotsOfTakers();
        chances();
        eatenPlaces();
        eatenTime();
        shares();
        envies();
        counts();
        digests();
        end();
    }

    private static void dueChances(WishPlaces x, int asker, int... row) {
        for (int q = 0; q < row.length; q++) {
            due("chance(" + asker + ", " + q + ")", x.chance(asker, q), row[q]);
        }
    }

    private static void dueShare(WishPlaces x, int asker, int place, long above, long below) {
        due("share(" + asker + ", " + place + ")", x.share(asker, place), 1);
        dueFraction("share(" + asker + ", " + place + ")", x, above, below);
    }

    // ---- LOTS

    private static void lotsOfOrders() {
        allOrders();
        ordersOfThoseWithoutWishes();
        ordersOfMost();
    }

    private static void allOrders() {
        sentence("Terms 5, promise 26: LOTS: all orders of ASKERS are alike likely");
        int orders = 1;
        for (int n = 1; n <= 8; n++) {
            orders *= n;
            WishPlaces x = madeAlike(row(1), n, 6);
            for (int a = 0; a < n; a++) {
                due("chance(" + a + ", 0) of " + n, x.chance(a, 0), orders / n);
            }
        }
    }

    private static void ordersOfThoseWithoutWishes() {
        sentence("Terms 5, promise 26: all orders of ASKERS, those without a WISH too");
        WishPlaces x = made(row(1), row(1), row(0));
        due("chance(0, 0)", x.chance(0, 0), 2);
        due("chance(1, 0)", x.chance(1, 0), 0);
        x.asker();
        due("chance(0, 0), an asker more", x.chance(0, 0), 6);
    }

    private static void ordersOfMost() {
        sentence("Terms 5, promise 26: all orders of 8 ASKERS");
        WishPlaces x = largest(6);
        for (int a = 0; a < 8; a++) {
            dueChances(x, a, 15120, 15120, 10080, 0, 0, 0);
        }
    }

    private static void lotsOfTakers() {
        takesSeatsLeft();
        takesTheSixth();
        takesNoSixthThatWent();
        takesLeastWish();
        takesLeastNumber();
        takesNone();
        takesNoneOfOthers();
    }

    private static void takesSeatsLeft() {
        sentence("Terms 5, promise 26: each in turn takes of PLACES with SEATS left");
        for (int s = 1; s <= 3; s++) {
            WishPlaces x = madeAlike(row(s, 1), 4, 1, 2);
            dueChances(x, 3, 6 * s, 6);
        }
        WishPlaces kept = made(row(1, 1), row(1, 2), row(1, 0));
        dueChances(kept, 0, 1, 1);
        dueChances(kept, 1, 1, 0);
    }

    private static void takesTheSixth() {
        sentence("Terms 5, promise 26: each in turn takes of PLACES: the sixth, too, and then none");
        WishPlaces x = madeAlike(like(1, 6), 8, 1, 2, 3, 4, 5, 6);
        dueChances(x, 0, like(5040, 6));
        dueChances(x, 7, like(5040, 6));
    }

    private static void takesNoSixthThatWent() {
        sentence("Terms 5, promises 26, 27: of PLACES: no WISH that went, of six");
        WishPlaces x = madeAlike(like(1, 6), 7, 1, 2, 3, 4, 5, 0);
        x.wish(0, 5, 6);
        due("chance(0, 5)", x.chance(0, 5), 1440);
        x.wish(0, 5, 0);
        for (int q = 0; q < 5; q++) {
            x.wish(6, q, 0);
        }
        x.wish(6, 5, 1);
        due("chance(0, 5)", x.chance(0, 5), 0);
        due("chance(6, 5), it is left to this one", x.chance(6, 5), 5040);
        dueShare(x, 6, 5, 1, 1);
    }

    private static void takesLeastWish() {
        for (int v = 1; v <= 5; v++) {
            sentence("Terms 5, promise 26: that with the least WISH: " + v + " rather than the next");
            WishPlaces x = made(row(1, 1), row(v + 1, v), row(v, v + 1));
            dueChances(x, 0, 0, 2);
            dueChances(x, 1, 2, 0);
        }
    }

    private static void takesLeastNumber() {
        sentence("Terms 5, promise 26: of like ones the least number");
        WishPlaces x = madeAlike(like(1, 6), 2, like(6, 6));
        dueChances(x, 0, 1, 1, 0, 0, 0, 0);
        // The other one wants place 0 alone: by the least number it is taken, though place 1 would do.
        WishPlaces other = made(row(1, 1), row(3, 3), row(1, 0));
        dueChances(other, 0, 1, 1);
        dueChances(other, 1, 1, 0);
    }

    private static void takesNone() {
        sentence("Terms 5, promise 26: (none, if there is none)");
        WishPlaces x = made(row(1, 1), row(1, 0), row(1, 0), row(1, 0));
        dueChances(x, 0, 2, 0);
        dueChances(x, 1, 2, 0);
        dueChances(x, 2, 2, 0);
        WishPlaces after = made(row(1, 1), row(0, 0), row(1, 2));
        dueChances(after, 0, 0, 0);
        dueChances(after, 1, 2, 0);
    }

    private static void takesNoneOfOthers() {
        sentence("Terms 5, promises 26, 27: ASKERS of whom no WISH was ever told take and eat nothing");
        for (int a = 0; a < 8; a++) {
            WishPlaces x = madeOfAskersAlone();
            x.wish(a, 0, 6);
            x.wish(a, 5, 6);
            due("chance(" + a + ", 0)", x.chance(a, 0), 40320);
            dueShare(x, a, 0, 1, 1);
            due("chance(" + (7 - a) + ", 5)", x.chance(7 - a, 5), 0);
            due("share(" + (7 - a) + ", 5)", x.share(7 - a, 5), 0);
        }
    }

    private static WishPlaces madeOfAskersAlone() {
        WishPlaces x = new WishPlaces();
        for (int a = 0; a < 8; a++) {
            x.asker();
        }
        for (int q = 0; q < 6; q++) {
            x.place(1);
        }
        return x;
    }

    private static void chances() {
        chanceOfNoWish();
        chanceOfAllOrders();
        chanceAnew();
    }

    private static void chanceOfNoWish() {
        sentence("Terms 5, promise 26: THE CHANCE: in how many orders it has it: none without a WISH");
        WishPlaces x = made(row(3, 3), row(1, 0));
        dueChances(x, 0, 1, 0);
    }

    private static void chanceOfAllOrders() {
        sentence("Promise 26: THE CHANCE: of all orders, none and all");
        WishPlaces x = madeAlike(row(3, 3), 3, 1, 2);
        dueChances(x, 2, 6, 0);
        WishPlaces one = made(row(1), row(6));
        dueChances(one, 0, 1);
    }

    private static void chanceAnew() {
        sentence("Promise 26: THE CHANCE, after each change");
        WishPlaces x = madeAlike(row(1), 2, 1);
        dueChances(x, 0, 1);
        x.seats(0, 2);
        dueChances(x, 0, 2);
        x.asker();
        dueChances(x, 0, 6);
        x.wish(2, 0, 1);
        dueChances(x, 0, 4);
        x.place(1);
        x.wish(0, 1, 1);
        dueChances(x, 0, 4, 2);
        x.wish(0, 0, 2);
        dueChances(x, 0, 0, 6);
        x.wish(0, 1, 0);
        dueChances(x, 0, 4, 0);
    }

    // ---- EATEN

    private static void eatenPlaces() {
        eatsSeats();
        eatsWhatIsLeft();
        eatsTheSixth();
        eatsAtOnce();
        eatsAtOnceOfSeats();
        eatsUpTogether();
        eatsLeastWish();
        eatsLeastNumber();
    }

    private static void eatsSeats() {
        sentence("Terms 5, promise 27: EATEN: each PLACE has SEATS to eat");
        dueShare(madeAlike(row(1), 8, 1), 7, 0, 1, 8);
        dueShare(madeAlike(row(2), 8, 1), 7, 0, 1, 4);
        dueShare(madeAlike(row(3), 8, 1), 7, 0, 3, 8);
    }

    private static void eatsWhatIsLeft() {
        sentence("Terms 5, promise 27: each of PLACES that are not eaten up");
        // Place 0 is up at 1/3; then two eat place 1 to 5/6; one of them goes on with place 2.
        WishPlaces x = made(row(1, 1, 1), row(1, 2, 3), row(1, 2, 0), row(1, 0, 0));
        dueShare(x, 0, 0, 1, 3);
        dueShare(x, 2, 0, 1, 3);
        dueShare(x, 0, 1, 1, 2);
        dueShare(x, 1, 1, 1, 2);
        dueShare(x, 0, 2, 1, 6);
        due("share(2, 1), it has no wish for what is left", x.share(2, 1), 0);
        due("share(1, 2)", x.share(1, 2), 0);
        // Who comes later eats of what is left: place 1 has 1/2 at time 1/2, then three eat it.
        WishPlaces late = made(row(1, 1), row(1, 2), row(1, 2), row(0, 1));
        dueShare(late, 2, 1, 2, 3);
        dueShare(late, 0, 1, 1, 6);
    }

    private static void eatsTheSixth() {
        sentence("Terms 5, promise 27: each of PLACES: the sixth, too, and then none");
        WishPlaces six = madeAlike(like(1, 6), 6, 1, 2, 3, 4, 5, 6);
        WishPlaces eight = madeAlike(like(1, 6), 8, 1, 2, 3, 4, 5, 6);
        for (int q = 0; q < 6; q++) {
            dueShare(six, 5, q, 1, 6);
            dueShare(eight, 7, q, 1, 8);
        }
        WishPlaces twice = madeAlike(like(2, 6), 8, 1, 2, 3, 4, 5, 6);
        for (int i = 0; i < 3; i++) {
            dueShare(twice, 7, 3, 1, 4);
            due("share(7, 4), the time is up", twice.share(7, 4), 0);
            dueShare(eight, 7, 5, 1, 8);
        }
    }

    private static void eatsAtOnce() {
        // Of one three eat and of another two: the first is up at 1/3, and one of the three goes on with the other one.
        int[][] pairs = {{0, 1}, {1, 0}, {4, 5}, {5, 4}, {0, 5}, {5, 0}, {2, 3}};
        for (int[] pair : pairs) {
            sentence("Terms 5, promise 27: not eaten up: of two PLACES eaten at once that which is up first, " + pair[0]);
            int three = pair[0];
            int two = pair[1];
            WishPlaces x = madeAlike(like(1, 6), 5, like(0, 6));
            for (int a = 0; a < 5; a++) {
                x.wish(a, a < 2 ? two : three, 1);
            }
            x.wish(0, three, 2);
            x.wish(4, two, 2);
            dueShare(x, 4, three, 1, 3);
            dueShare(x, 4, two, 1, 9);
            dueShare(x, 0, two, 4, 9);
            dueShare(x, 1, two, 4, 9);
            due("share(0, " + three + "), it is eaten up", x.share(0, three), 0);
        }
    }

    private static void eatsAtOnceOfSeats() {
        sentence("Terms 5, promise 27: not eaten up: of PLACES of unlike SEATS that which is up first");
        // Two seats for three (2/3), one for two (1/2), of whom one goes on with the other place.
        for (int big = 0; big < 2; big++) {
            WishPlaces x = new WishPlaces();
            x.place(2 - big);
            x.place(1 + big);
            for (int a = 0; a < 5; a++) {
                x.asker();
                x.wish(a, a < 3 ? big : 1 - big, 1);
            }
            x.wish(3, big, 2);
            dueShare(x, 3, 1 - big, 1, 2);
            dueShare(x, 3, big, 1, 8);
            dueShare(x, 0, big, 5, 8);
        }
    }

    private static void eatsUpTogether() {
        sentence("Terms 5, promise 27: not eaten up: two PLACES that are up at the same time");
        WishPlaces x = made(row(1, 1, 1), row(1, 2, 3), row(1, 2, 3), row(2, 1, 3), row(2, 1, 3));
        dueShare(x, 0, 0, 1, 2);
        due("share(0, 1), it is up, too", x.share(0, 1), 0);
        dueShare(x, 0, 2, 1, 4);
        dueShare(x, 3, 1, 1, 2);
        due("share(3, 0), it is up, too", x.share(3, 0), 0);
        dueShare(x, 3, 2, 1, 4);
    }

    private static void eatsLeastWish() {
        for (int v = 1; v <= 5; v++) {
            sentence("Terms 5, promise 27: that with the least WISH: " + v + " rather than the next");
            WishPlaces x = made(row(1, 1), row(v + 1, v));
            dueShare(x, 0, 1, 1, 1);
            due("share(0, 0)", x.share(0, 0), 0);
        }
    }

    private static void eatsLeastNumber() {
        sentence("Terms 5, promise 27: of like ones the least number");
        WishPlaces x = madeAlike(like(1, 6), 2, like(6, 6));
        dueShare(x, 1, 0, 1, 2);
        dueShare(x, 1, 1, 1, 2);
        due("share(1, 2)", x.share(1, 2), 0);
    }

    private static void eatenTime() {
        eatsToOne();
        eatsUpAtOne();
        eatsAtOnePace();
    }

    private static void eatsToOne() {
        sentence("Terms 5, promise 27: all ASKERS eat at one pace, from time 0 to 1");
        WishPlaces x = made(row(3, 3), row(1, 2));
        dueShare(x, 0, 0, 1, 1);
        due("share(0, 1), the time is up", x.share(0, 1), 0);
        WishPlaces two = madeAlike(row(3, 3), 2, 1, 2);
        dueShare(two, 1, 0, 1, 1);
        due("share(1, 1), the time is up", two.share(1, 1), 0);
    }

    private static void eatsUpAtOne() {
        sentence("Terms 5, promise 27: a PLACE that is eaten up at time 1 leaves no time for another one");
        for (int s = 1; s <= 3; s++) {
            WishPlaces x = madeAlike(row(s, 1), s, 1, 2);
            dueShare(x, s - 1, 0, 1, 1);
            due("share(" + (s - 1) + ", 1)", x.share(s - 1, 1), 0);
            x.asker();
            x.wish(s, 0, 1);
            dueShare(x, 0, 0, s, s + 1);
        }
    }

    private static void eatsAtOnePace() {
        sentence("Terms 5, promise 27: those who have nothing left wait; no other one eats faster");
        WishPlaces x = made(row(1, 3), row(1, 0), row(1, 2), row(0, 1), row(0, 0));
        dueShare(x, 0, 0, 1, 2);
        dueShare(x, 1, 1, 1, 2);
        dueShare(x, 2, 1, 1, 1);
        due("share(3, 0)", x.share(3, 0), 0);
    }

    // ---- THE SHARE, promise 27

    private static void shares() {
        sharesInLowestTerms();
        sharesOfNothing();
        sharesOfMost();
        sharesChangeNothing();
    }

    private static void sharesInLowestTerms() {
        sentence("Terms 5, promise 27: THE SHARE: how much of it it ate, a fraction in lowest terms");
        dueShare(madeAlike(row(2), 4, 1), 0, 0, 1, 2);
        dueShare(madeAlike(row(3), 6, 1), 0, 0, 1, 2);
        dueShare(madeAlike(row(2), 6, 1), 0, 0, 1, 3);
        dueShare(madeAlike(row(3, 3), 8, 1, 2), 0, 1, 3, 8);
        WishPlaces all = madeAlike(row(3, 3, 3), 8, 1, 2, 3);
        dueShare(all, 7, 2, 1, 4);
    }

    private static void sharesOfNothing() {
        sentence("Promise 27: 0: it is 0 (THE FRACTION stays)");
        WishPlaces x = madeAlike(row(1, 1), 3, 1, 0);
        due("share(0, 1), no wish", x.share(0, 1), 0);
        dueFraction("of a new one", x, 0, 1);
        dueShare(x, 0, 0, 1, 3);
        due("share(0, 1), no wish", x.share(0, 1), 0);
        dueFraction("it stays", x, 1, 3);
        x.factor(0);
        due("share(2, 1), no wish", x.share(2, 1), 0);
        dueFraction("it stays", x, 1, 0);
        x.wish(2, 1, 6);
        dueShare(x, 2, 1, 2, 3);
    }

    private static void sharesOfMost() {
        sentence("Terms 5, promise 27: SHARES when every PLACE is eaten up, one after another");
        // All up by 1/8; then those of five, of six, of seven .. eaters, each from where the last one ended.
        WishPlaces x = made(like(1, 6), row(1, 2, 3, 4, 5, 6), row(1, 2, 3, 4, 5, 6), row(1, 2, 3, 4, 5, 0),
                row(1, 2, 3, 4, 0, 0), row(1, 2, 3, 0, 0, 0), row(1, 2, 0, 0, 0, 0), row(1, 0, 0, 0, 0, 0),
                row(1, 0, 0, 0, 0, 0));
        dueShare(x, 0, 0, 1, 8);
        dueShare(x, 0, 1, 1, 6);
        dueShare(x, 0, 2, 1, 5);
        dueShare(x, 0, 3, 1, 4);
        // 1 less 1/8, 1/6, 1/5 and 1/4 leaves 31/120, less than the third that place 4 has for each.
        dueShare(x, 0, 4, 31, 120);
        due("share(0, 5), the time is up", x.share(0, 5), 0);
        dueShare(x, 2, 4, 31, 120);
    }

    private static void sharesChangeNothing() {
        sentence("Promise 27: THE SHARE is THE FRACTION: nothing else changes, and it is found anew");
        WishPlaces x = madeAlike(row(1), 2, 1);
        dueShare(x, 0, 0, 1, 2);
        dueShare(x, 0, 0, 1, 2);
        x.seats(0, 2);
        dueShare(x, 0, 0, 1, 1);
        x.asker();
        x.wish(2, 0, 5);
        dueShare(x, 0, 0, 2, 3);
        x.wish(1, 0, 0);
        dueShare(x, 2, 0, 1, 1);
        due("count(2)", x.count(2), 2);
        dueRow("none told", x, 0, NONE, NONE, NONE);
    }

    // ---- promise 28

    private static void envies() {
        enviesNobody();
        enviesByItsOwnWishes();
        enviesUpToAWish();
        enviesAnew();
        enviesItself();
    }

    /** Nobody ever envies: of PLACES up to any WISH one eats all the time that some is left. */
    private static void enviesNobody() {
        sentence("Promise 28: 1, 0: who eats as much of its own up to each WISH envies nobody");
        WishPlaces x = made(row(1, 1, 1), row(1, 2, 3), row(1, 2, 0), row(1, 0, 0), row(0, 1, 1));
        for (int a = 0; a < 4; a++) {
            for (int o = 0; o < 4; o++) {
                due("envies(" + a + ", " + o + ")", x.envies(a, o), a == o ? BAD : 0);
            }
        }
        WishPlaces alike = largest(1);
        due("envies(0, 7)", alike.envies(0, 7), 0);
        due("envies(7, 0)", alike.envies(7, 0), 0);
    }

    private static void enviesByItsOwnWishes() {
        sentence("Promise 28: of PLACES with its WISHES: what it has no WISH for is nothing to it");
        // 0 has half of place 0 and nothing else; 1 has all of place 1; 2 has the half of place 0 and the rest of 2.
        WishPlaces x = made(row(1, 1, 1), row(1, 0, 0), row(0, 1, 0), row(1, 0, 2));
        due("envies(0, 1)", x.envies(0, 1), 0);
        due("envies(0, 2)", x.envies(0, 2), 0);
        WishPlaces none = made(row(1), row(0), row(1));
        due("envies(0, 1), no wishes", none.envies(0, 1), 0);
        due("envies(1, 0)", none.envies(1, 0), 0);
    }

    private static void enviesUpToAWish() {
        sentence("Promise 28: up to v: all of WISH v and less together, not each PLACE by itself");
        // 0 has all of place 0 and nothing of place 1, which is as good to it and less good, and which 1 has.
        WishPlaces x = made(row(1, 1), row(1, 1), row(0, 1));
        due("envies(0, 1), alike", x.envies(0, 1), 0);
        x.wish(0, 1, 2);
        due("envies(0, 1), the next wish", x.envies(0, 1), 0);
        x.wish(0, 0, 6);
        x.wish(0, 1, 5);
        due("envies(0, 1), half of each", x.envies(0, 1), 0);
        due("envies(1, 0)", x.envies(1, 0), 0);
    }

    private static void enviesAnew() {
        sentence("Promise 28: by SHARES as they are now");
        WishPlaces x = made(row(1, 1), row(1, 0), row(0, 1));
        due("share(1, 1)", x.share(1, 1), 1);
        due("envies(0, 1)", x.envies(0, 1), 0);
        x.wish(0, 0, 0);
        x.wish(0, 1, 1);
        due("envies(0, 1), half of it each", x.envies(0, 1), 0);
        dueShare(x, 0, 1, 1, 2);
    }

    private static void enviesItself() {
        sentence("Promise 28: BAD: alike, too");
        WishPlaces x = largest(2);
        for (int a = 0; a < 8; a++) {
            int one = a;
            refused("envies(" + a + ", " + a + ")", x, BAD, () -> x.envies(one, one));
        }
    }

    // ---- promise 29

    private static void counts() {
        countsOfNothing();
        countsOfMost();
        countsOfEach();
        countsAfterChanges();
    }

    private static void dueCounts(WishPlaces x, int askers, int places, int seats, int wishes) {
        due("count(0)", x.count(0), askers);
        due("count(1)", x.count(1), places);
        due("count(2)", x.count(2), seats);
        due("count(3)", x.count(3), wishes);
    }

    private static void countsOfNothing() {
        sentence("Promise 29: How many, of nothing");
        dueCounts(new WishPlaces(), 0, 0, 0, 0);
        dueCounts(made(row(), row()), 1, 0, 0, 0);
        dueCounts(made(row(3)), 0, 1, 3, 0);
    }

    private static void countsOfMost() {
        sentence("Promise 29: How many, at the most");
        WishPlaces x = largest(6);
        dueCounts(x, 8, 6, 18, 48);
        x.asker();
        x.place(1);
        dueCounts(x, 8, 6, 18, 48);
    }

    private static void countsOfEach() {
        sentence("Promise 29: 0 ASKERS, 1 PLACES, 2 SEATS together, 3 WISHES; else BAD");
        WishPlaces x = made(row(1, 3), row(6, 0), row(1, 2), row(0, 0));
        dueCounts(x, 3, 2, 4, 3);
        due("count(-1)", x.count(-1), BAD);
        due("count(4)", x.count(4), BAD);
    }

    private static void countsAfterChanges() {
        sentence("Promise 29: SEATS together and WISHES, after changes");
        WishPlaces x = made(row(1, 3), row(6, 0), row(1, 2));
        x.seats(0, 3);
        x.wish(0, 0, 1);
        dueCounts(x, 2, 2, 6, 3);
        x.wish(0, 0, 0);
        x.wish(0, 0, 0);
        x.seats(1, 1);
        dueCounts(x, 2, 2, 4, 2);
    }

    // ---- promise 30

    private static void digests() {
        digestOfNew();
        digestInOrder();
        digestOfEachPart();
        digestOfMost();
    }

    private static void digestOfNew() {
        sentence("Promise 30: h = 331; then count(0) to count(3) and THE FRACTION, where there is nothing else");
        due("digest()", new WishPlaces().digest(), fold(0, 0, 0, 0, 0, 1));
        due("digest(), askers alone", made(row(), row()).digest(), fold(1, 0, 0, 0, -1, -1, -1, -1, 0, 1));
        due("digest(), places alone", made(row(3, 1)).digest(), fold(0, 2, 4, 0, 3, 1, 0, 1));
    }

    private static void digestInOrder() {
        sentence("Promise 30: SEATS; WISHES by ASKERS, then PLACES; of told GIVINGS what ASKERS have; THE FRACTION");
        WishPlaces x = made(row(2, 3), row(1, 2), row(3, 0), row(0, 6));
        tell(x, 0, 0, 0, 1);
        tell(x, 1, 1, NONE, NONE);
        tell(x, 3, NONE, 0, 1);
        x.share(0, 0);
        due("digest()", x.digest(), fold(3, 2, 5, 4, 2, 3, 1, 2, 3, 0, 0, 6, 0, 0, 1, 1, -1, -1, -1, -1, -1, -1, 0, 1,
                1, 1));
        x.seats(0, 3);
        x.wish(1, 0, 0);
        x.factor(2);
        due("digest()", x.digest(), fold(3, 2, 6, 3, 3, 3, 1, 2, 0, 0, 0, 6, 0, -1, 1, 1, -1, -1, -1, -1, -1, -1, -1, 1,
                1, 0));
    }

    private static void digestOfEachPart() {
        sentence("Promise 30: THE FRACTION: above, then below");
        WishPlaces x = madeAlike(row(2), 3, 1);
        x.share(0, 0);
        due("digest()", x.digest(), fold(3, 1, 2, 3, 2, 1, 1, 1, -1, -1, -1, -1, -1, -1, -1, -1, -1, -1, -1, -1, 2, 3));
    }

    private static void digestOfMost() {
        sentence("Promise 30: h = 31 h + v, beyond what a long holds: it wraps around");
        WishPlaces x = largest(6);
        tell(x, 3, LARGEST_LAST);
        long[] values = new long[4 + 6 + 48 + 32 + 2];
        int at = 0;
        for (int v : row(8, 6, 18, 48, 3, 3, 3, 3, 3, 3)) {
            values[at++] = v;
        }
        for (int i = 0; i < 48; i++) {
            values[at++] = 6;
        }
        for (int i = 0; i < 32; i++) {
            values[at++] = i < 24 ? NONE : LARGEST_LAST[i - 24];
        }
        values[at] = 0;
        values[at + 1] = 1;
        due("digest()", x.digest(), fold(values));
    }
}
