/**
 * Terms 1 and promises 1 to 13, sentence by sentence: each sentence that names a boundary has a test of its own.
 * What is refused as BAD stands in RefusalsEdgesTest.
 */
public final class GivingsEdgesTest extends Boards {
    private GivingsEdgesTest() {
    }

    public static void main(String[] args) {
        begin("GivingsEdgesTest");
        termsOfAskersAndPlaces();
        termsOfWishes();
        termsOfGivings();
        termsOfTold();
        promises1To3();
        promises4To6();
        promises7And8();
        promise9();
        promise10();
        promises11To13();
        end();
    }

    // ---- Terms 1

    private static void termsOfAskersAndPlaces() {
        askersAsTheyCome();
        placesAsTheyCome();
        seatsFromOneToThree();
    }

    private static void askersAsTheyCome() {
        sentence("Terms 1, promise 2: ASKERS 0 .. 7, as they come");
        WishPlaces x = made(row(1));
        for (int a = 0; a < 8; a++) {
            due("worth(" + a + ", 0) ahead of its coming", x.worth(a, 0), BAD);
            due("asker()", x.asker(), a);
            due("worth(" + a + ", 0)", x.worth(a, 0), 8);
        }
        due("worth(8, 0)", x.worth(8, 0), BAD);
    }

    private static void placesAsTheyCome() {
        sentence("Terms 1, promise 3: PLACES 0 .. 5, as they come");
        WishPlaces x = new WishPlaces();
        x.asker();
        for (int q = 0; q < 6; q++) {
            due("worth(0, " + q + ") ahead of its coming", x.worth(0, q), BAD);
            due("place(1)", x.place(1), q);
            due("worth(0, " + q + ")", x.worth(0, q), 8);
        }
        due("worth(0, 6)", x.worth(0, 6), BAD);
    }

    private static void seatsFromOneToThree() {
        sentence("Terms 1, promises 3 and 4: PLACES .. with SEATS (1 .. 3)");
        for (int s = 1; s <= 3; s++) {
            WishPlaces x = new WishPlaces();
            due("place(" + s + ")", x.place(s), 0);
            due("count(2)", x.count(2), s);
            due("seats(0, " + (4 - s) + ")", x.seats(0, 4 - s), s);
            due("count(2)", x.count(2), 4 - s);
        }
        WishPlaces none = made(row(2));
        due("place(0)", none.place(0), BAD);
        due("place(4)", none.place(4), BAD);
        due("seats(0, 0)", none.seats(0, 0), BAD);
        due("seats(0, 4)", none.seats(0, 4), BAD);
        due("count(1)", none.count(1), 1);
        due("count(2)", none.count(2), 2);
    }

    private static void termsOfWishes() {
        wishesFromOneToSix();
        oneIsBest();
        manyMayBeAlike();
        noWishAtFirst();
        worthOfNone();
        lessIsBetter();
    }

    private static void wishesFromOneToSix() {
        sentence("Terms 1, promise 5: An ASKER has a WISH for a PLACE: 1 .. 6");
        WishPlaces x = made(row(1), row(0));
        for (int v = 1; v <= 6; v++) {
            due("wish(0, 0, " + v + ")", x.wish(0, 0, v), v - 1);
            due("worth(0, 0)", x.worth(0, 0), v);
        }
        due("wish(0, 0, 7)", x.wish(0, 0, 7), BAD);
        due("wish(0, 0, -1)", x.wish(0, 0, -1), BAD);
        due("worth(0, 0)", x.worth(0, 0), 6);
    }

    private static void oneIsBest() {
        sentence("Terms 1, promises 10, 23, 26, 27: 1 is best");
        for (int v = 1; v <= 5; v++) {
            WishPlaces x = made(row(1, 1), row(v + 1, v));
            dueBecome(x, 0, 4, 1);
            dueBecome(x, 1, 6, 1);
            due("turn(0, 0)", x.turn(0, 0), 1);
            due("chance(0, 1)", x.chance(0, 1), 1);
            due("share(0, 1)", x.share(0, 1), 1);
            due("standingAt(0, 0)", x.standingAt(0, 0), 1);
        }
    }

    private static void manyMayBeAlike() {
        sentence("Terms 1, promise 5: many may be alike");
        for (int v = 1; v <= 6; v++) {
            WishPlaces x = madeAlike(like(1, 6), 2, like(v, 6));
            due("worth(1, 0)", x.worth(1, 0), v);
            due("worth(1, 5)", x.worth(1, 5), v);
            tell(x, 0, 0, 1);
            tell(x, 1, 5, 4);
            due("votes(0, 1)", x.votes(0, 1), 0);
            due("margin(1)", x.margin(1), 0);
            due("standing()", x.standing(), 30);
        }
    }

    private static void noWishAtFirst() {
        sentence("Terms 1, promises 2, 3, 5: or none (0, at first)");
        WishPlaces x = new WishPlaces();
        x.place(1);
        x.asker();
        x.place(3);
        x.asker();
        due("count(3)", x.count(3), 0);
        for (int a = 0; a < 2; a++) {
            for (int q = 0; q < 2; q++) {
                due("worth(" + a + ", " + q + ")", x.worth(a, q), 8);
                due("wish(" + a + ", " + q + ", 3)", x.wish(a, q, 3), 0);
            }
        }
        due("place(1)", x.place(1), 2);
        due("worth(1, 2) of a place that came after wishes", x.worth(1, 2), 8);
        due("asker()", x.asker(), 2);
        due("worth(2, 1) of an asker who came after wishes", x.worth(2, 1), 8);
    }

    private static void worthOfNone() {
        sentence("Terms 1, promises 6, 13, 14: WORTH to an ASKER: its WISH, 7 for none");
        WishPlaces x = made(row(1), row(6), row(0));
        due("worth(0, 0)", x.worth(0, 0), 6);
        due("worth(0, NONE)", x.worth(0, NONE), 7);
        due("worth(1, NONE)", x.worth(1, NONE), 7);
        tell(x, 0, 0, NONE);
        due("many(0, 6)", x.many(0, 6), 1);
        due("many(0, 7)", x.many(0, 7), 1);
        due("votes(0, 1), a sixth wish over none", x.votes(0, 1), 1);
    }

    private static void lessIsBetter() {
        sentence("Terms 1, promise 14: the less the better");
        WishPlaces x = made(row(1, 1, 1, 1, 1, 1), row(1, 2, 3, 4, 5, 6));
        for (int q = 0; q < 6; q++) {
            tell(x, 0, q);
            tell(x, 1, q == 5 ? NONE : q + 1);
            due("votes(0, 1)", x.votes(0, 1), 1);
            due("votes(1, 0)", x.votes(1, 0), -1);
        }
    }

    private static void termsOfGivings() {
        givingsNeedWishes();
        givingsKeepToSeats();
        givingsInOrder();
    }

    private static void givingsNeedWishes() {
        sentence("Terms 1, promises 7, 9: A GIVING: each ASKER has a PLACE for which it has a WISH, or none (NONE)");
        WishPlaces x = made(row(3, 3), row(0, 2), row(0, 0));
        due("givings()", x.givings(), 2);
        due("givingAt(0, 0)", x.givingAt(0, 0), NONE);
        due("givingAt(1, 0)", x.givingAt(1, 0), 1);
        due("givingAt(1, 1)", x.givingAt(1, 1), NONE);
        due("give(0, 0, 0)", x.give(0, 0, 0), NO);
        due("give(0, 1, 1)", x.give(0, 1, 1), NO);
        due("give(0, 1, NONE)", x.give(0, 1, NONE), 1);
        due("give(0, 0, 1)", x.give(0, 0, 1), 1);
    }

    private static void givingsKeepToSeats() {
        sentence("Terms 1, promises 7, 9: no PLACE is had by more than its SEATS");
        int[] many = {5, 11, 15};
        for (int s = 1; s <= 3; s++) {
            WishPlaces x = madeAlike(row(s), 4, 1);
            due("givings() of 4 askers, seats " + s, x.givings(), many[s - 1]);
            for (int a = 0; a < 4; a++) {
                due("give(0, " + a + ", 0), seats " + s, x.give(0, a, 0), a < s ? 1 : NO);
            }
            dueBecome(x, 1, 5, s == 1 ? row(NONE, NONE, NONE, 0) : s == 2 ? row(NONE, NONE, 0, 0) : row(NONE, 0, 0, 0));
        }
    }

    private static void givingsInOrder() {
        sentence("Terms 1, promises 8, 12: GIVINGS in order: as rows by ASKERS, NONE ahead of PLACES by numbers");
        WishPlaces x = made(row(1, 1), row(6, 1), row(3, 3));
        int[][] rows = {{-1, -1}, {-1, 0}, {-1, 1}, {0, -1}, {0, 1}, {1, -1}, {1, 0}};
        due("givings()", x.givings(), rows.length);
        for (int i = 0; i < rows.length; i++) {
            due("givingAt(" + i + ", 0)", x.givingAt(i, 0), rows[i][0]);
            due("givingAt(" + i + ", 1)", x.givingAt(i, 1), rows[i][1]);
            tell(x, 2, rows[i]);
            due("placeOf(2)", x.placeOf(2), i);
        }
    }

    private static void termsOfTold() {
        toldAreKept();
        toldAreNoneAtFirst();
        wishesThatGo();
        wishesThatChange();
    }

    private static void toldAreKept() {
        sentence("Terms 1, promise 11: Told GIVINGS 0 .. 3 are kept");
        WishPlaces x = made(row(1, 1, 1), row(1, 2, 3), row(2, 1, 3));
        int[][] rows = {{0, 1}, {1, 0}, {2, NONE}, {NONE, 2}};
        for (int g = 0; g < 4; g++) {
            tell(x, g, rows[g]);
        }
        askAll(x);
        x.asker();
        x.place(1);
        x.wish(2, 0, 1);
        x.seats(1, 3);
        for (int g = 0; g < 4; g++) {
            dueRow("kept", x, g, rows[g][0], rows[g][1], NONE);
        }
        due("has(4, 0)", x.has(4, 0), BAD);
        due("has(-1, 0)", x.has(-1, 0), BAD);
    }

    private static void askAll(WishPlaces x) {
        for (int g = 0; g < 4; g++) {
            x.placeOf(g);
            x.margin(g);
            x.beater(g, 0);
            x.factor(g);
            x.better(g);
            x.round(g, 0);
            x.leaving(g, 3 - g, NONE);
        }
        x.givingAt(3, 1);
        x.standingMany(0);
        x.turn(1, 0);
        x.chance(0, 0);
        x.envies(0, 1);
        x.give(0, 0, 1);
        x.become(4, 1);
    }

    private static void toldAreNoneAtFirst() {
        sentence("Terms 1, promises 1, 11: (all NONE at first)");
        WishPlaces x = largest(1);
        for (int g = 0; g < 4; g++) {
            dueRow("at first", x, g, like(NONE, 8));
            due("placeOf(" + g + ")", x.placeOf(g), 0);
        }
    }

    private static void wishesThatGo() {
        sentence("Terms 1, promise 5: If a WISH goes to 0 told GIVINGS that have it have NONE there");
        WishPlaces x = made(row(2, 2), row(1, 2), row(1, 2));
        int[][] rows = {{0, 0}, {1, 0}, {0, 1}, {0, NONE}};
        for (int g = 0; g < 4; g++) {
            tell(x, g, rows[g]);
        }
        due("wish(0, 0, 0)", x.wish(0, 0, 0), 1);
        dueRow("gone", x, 0, NONE, 0);
        dueRow("another place stays", x, 1, 1, 0);
        dueRow("gone", x, 2, NONE, 1);
        dueRow("gone", x, 3, NONE, NONE);
        due("wish(0, 0, 4) comes back", x.wish(0, 0, 4), 0);
        dueRow("what was gone is not given back", x, 0, NONE, 0);
        due("wish(1, 1, 0)", x.wish(1, 1, 0), 2);
        dueRow("gone, of the last asker and the last place", x, 2, NONE, NONE);
        due("seats(0, 1), the seat is free again", x.seats(0, 1), 2);
    }

    private static void wishesThatChange() {
        sentence("Terms 1, promise 5: told GIVINGS keep what has a WISH still");
        WishPlaces x = made(row(1), row(1));
        tell(x, 0, 0);
        due("wish(0, 0, 6)", x.wish(0, 0, 6), 1);
        due("wish(0, 0, 7)", x.wish(0, 0, 7), BAD);
        due("wish(0, 0, 6), as it is", x.wish(0, 0, 6), 6);
        dueRow("kept", x, 0, 0);
    }

    // ---- Promises 1 to 3

    private static void promises1To3() {
        newHasNoAskers();
        newHasNoPlaces();
        newHasNoFraction();
        newIsEmpty();
        askersWithoutWishes();
        ninthAsker();
        placesByNumber();
        seventhPlace();
    }

    private static void newHasNoAskers() {
        sentence("Promise 1: No ASKERS");
        WishPlaces x = new WishPlaces();
        due("count(0)", x.count(0), 0);
        due("has(0, 0)", x.has(0, 0), BAD);
        due("worth(0, NONE)", x.worth(0, NONE), BAD);
        due("asker()", x.asker(), 0);
    }

    private static void newHasNoPlaces() {
        sentence("Promise 1: no PLACES");
        WishPlaces x = new WishPlaces();
        due("count(1)", x.count(1), 0);
        due("count(2)", x.count(2), 0);
        due("count(3)", x.count(3), 0);
        due("seats(0, 1)", x.seats(0, 1), BAD);
        due("place(2)", x.place(2), 0);
    }

    private static void newHasNoFraction() {
        sentence("Promise 1: THE FRACTION 0 by 1");
        dueFraction("new", new WishPlaces(), 0, 1);
    }

    private static void newIsEmpty() {
        sentence("Promise 1: a new object, beside another one that is not empty");
        WishPlaces full = largest(2);
        tell(full, 0, LARGEST_LAST);
        full.factor(1);
        WishPlaces x = new WishPlaces();
        due("givings()", x.givings(), 1);
        due("standing()", x.standing(), 1);
        due("margin(0)", x.margin(0), 0);
        due("placeOf(0)", x.placeOf(0), 0);
        for (int what = 0; what <= 9; what++) {
            due("become(0, " + what + ")", x.become(0, what), 1);
        }
        dueFraction("new", x, 0, 1);
        due("placeOf(0) of the other one", full.placeOf(0), LARGEST_GIVINGS - 1);
    }

    private static void askersWithoutWishes() {
        sentence("Promise 2: An ASKER without WISHES: its number");
        WishPlaces x = largest(1);
        WishPlaces few = madeAlike(like(1, 6), 2, like(6, 6));
        due("asker()", few.asker(), 2);
        for (int q = 0; q < 6; q++) {
            due("worth(2, " + q + ")", few.worth(2, q), 8);
        }
        due("count(3)", few.count(3), 12);
        due("many(3, 7), it has none in told givings", few.many(3, 7), 3);
        due("count(3) of the largest", x.count(3), 48);
    }

    private static void ninthAsker() {
        sentence("Promise 2: FULL: 8");
        WishPlaces x = new WishPlaces();
        for (int a = 0; a < 8; a++) {
            due("asker()", x.asker(), a);
        }
        refused("asker(), the ninth", x, FULL, x::asker);
        refused("asker(), the tenth", x, FULL, x::asker);
        due("count(0)", x.count(0), 8);
    }

    private static void placesByNumber() {
        sentence("Promise 3: A PLACE: its number");
        WishPlaces x = new WishPlaces();
        for (int q = 0; q < 6; q++) {
            due("place", x.place(1 + q % 3), q);
            due("count(1)", x.count(1), q + 1);
        }
        for (int q = 0; q < 6; q++) {
            due("seats(" + q + ", 2)", x.seats(q, 2), 1 + q % 3);
        }
    }

    private static void seventhPlace() {
        sentence("Promise 3: FULL: 6");
        WishPlaces x = largest(1);
        refused("place(1), the seventh", x, FULL, () -> x.place(1));
        refused("place(3), the seventh", x, FULL, () -> x.place(3));
        due("count(1)", x.count(1), 6);
        due("worth(0, 6)", x.worth(0, 6), BAD);
    }

    // ---- Promises 4 to 6

    private static void promises4To6() {
        seatsWhatTheyWere();
        seatsOfAnyTold();
        seatsAsManyAsHad();
        seatsByOneTold();
        wishWhatItWas();
        worthOfPlaces();
    }

    private static void seatsWhatTheyWere() {
        sentence("Promise 4: SEATS of a PLACE: what they were");
        WishPlaces x = made(row(2, 1));
        due("seats(0, 3)", x.seats(0, 3), 2);
        due("seats(0, 3), as they are", x.seats(0, 3), 3);
        due("seats(0, 1)", x.seats(0, 1), 3);
        due("seats(1, 2), another place", x.seats(1, 2), 1);
        due("seats(0, 2)", x.seats(0, 2), 1);
        due("count(2)", x.count(2), 4);
    }

    private static void seatsOfAnyTold() {
        sentence("Promise 4: NO: a told GIVING has more there");
        for (int g = 0; g < 4; g++) {
            WishPlaces x = madeAlike(row(3, 3), 4, 1, 1);
            tell(x, g, 1, 0, 1, 1);
            refused("seats(1, 2), three in " + g, x, NO, () -> x.seats(1, 2));
            refused("seats(1, 1), three in " + g, x, NO, () -> x.seats(1, 1));
            due("seats(0, 1), one in " + g, x.seats(0, 1), 3);
            due("seats(1, 3)", x.seats(1, 3), 3);
        }
    }

    private static void seatsAsManyAsHad() {
        sentence("Promise 4: as many SEATS as a told GIVING has there are no NO");
        WishPlaces x = madeAlike(row(3), 3, 1);
        tell(x, 3, 0, NONE, 0);
        due("seats(0, 2), two have it", x.seats(0, 2), 3);
        refused("seats(0, 1), two have it", x, NO, () -> x.seats(0, 1));
        due("give(3, 2, NONE)", x.give(3, 2, NONE), 1);
        due("seats(0, 1), one has it", x.seats(0, 1), 2);
        due("give(3, 1, 0), no seat more", x.give(3, 1, 0), NO);
    }

    private static void seatsByOneTold() {
        sentence("Promise 4: each told GIVING counts by itself");
        WishPlaces x = madeAlike(row(3), 4, 1);
        for (int g = 0; g < 4; g++) {
            due("give(" + g + ", " + g + ", 0)", x.give(g, g, 0), 1);
        }
        due("seats(0, 1), one in each of four", x.seats(0, 1), 3);
    }

    private static void wishWhatItWas() {
        sentence("Promise 5: A WISH (0 .. 6): what it was");
        WishPlaces x = made(row(1, 1), row(0, 0), row(0, 0));
        int[] wishes = {6, 1, 0, 0, 3, 3, 0};
        int was = 0;
        for (int v : wishes) {
            due("wish(1, 1, " + v + ")", x.wish(1, 1, v), was);
            was = v;
        }
        due("count(3)", x.count(3), 0);
        due("wish(1, 0, 1), another one", x.wish(1, 0, 1), 0);
    }

    private static void worthOfPlaces() {
        sentence("Promise 6: WORTH to an ASKER of a PLACE (NONE: 7; without a WISH 8)");
        WishPlaces x = made(row(1, 1, 1, 1, 1, 1), row(1, 2, 3, 4, 5, 6), row(6, 0, 0, 0, 0, 1));
        for (int q = 0; q < 6; q++) {
            due("worth(0, " + q + ")", x.worth(0, q), q + 1);
        }
        due("worth(1, 0)", x.worth(1, 0), 6);
        due("worth(1, 1)", x.worth(1, 1), 8);
        due("worth(1, 5)", x.worth(1, 5), 1);
        due("worth(0, NONE)", x.worth(0, NONE), 7);
        x.wish(1, 5, 0);
        due("worth(1, 5), gone", x.worth(1, 5), 8);
    }

    // ---- Promises 7 and 8

    private static void promises7And8() {
        givingsOfFew();
        givingsOfMost();
        givingsAnew();
        firstAndLastGiving();
        givingWithoutPlace();
        noSuchGiving();
        noSuchAskerOfGiving();
    }

    private static void givingsOfFew() {
        sentence("Promise 7: How many GIVINGS there are, of few: the empty one alone at least");
        due("no askers, no places", new WishPlaces().givings(), 1);
        due("no askers", made(row(1, 3)).givings(), 1);
        due("no places", made(row(), row(), row()).givings(), 1);
        due("no wishes", made(row(1), row(0), row(0)).givings(), 1);
        due("one wish", made(row(1), row(6)).givings(), 2);
    }

    private static void givingsOfMost() {
        sentence("Promise 7: How many GIVINGS there are, at the most");
        due("the largest", largest(3).givings(), LARGEST_GIVINGS);
        due("6 places of one seat", madeAlike(like(1, 6), 8, like(1, 6)).givings(), 93289);
        due("6 places for one asker", madeAlike(like(3, 6), 1, like(1, 6)).givings(), 7);
    }

    private static void givingsAnew() {
        sentence("Promise 7: How many GIVINGS there are, after each change");
        WishPlaces x = made(row(1), row(1), row(1));
        due("givings()", x.givings(), 3);
        x.seats(0, 2);
        due("a seat more", x.givings(), 4);
        x.asker();
        due("an asker more", x.givings(), 4);
        x.wish(2, 0, 5);
        due("a wish more", x.givings(), 7);
        x.place(1);
        x.wish(0, 1, 2);
        due("a place more", x.givings(), 11);
        x.wish(0, 0, 0);
        due("a wish less", x.givings(), 8);
        x.seats(0, 1);
        due("a seat less", x.givings(), 6);
        WishPlaces four = madeAlike(row(3), 4, 0);
        int[] many = {2, 4, 8, 15};
        for (int a = 0; a < 4; a++) {
            four.wish(3 - a, 0, 6);
            due("a wish more, of one place with three seats", four.givings(), many[a]);
        }
    }

    private static void firstAndLastGiving() {
        sentence("Promise 8: What an ASKER has in the i-th GIVING, the first and the last");
        WishPlaces x = largest(4);
        for (int a = 0; a < 8; a++) {
            due("givingAt(0, " + a + ")", x.givingAt(0, a), NONE);
            due("givingAt(1, " + a + ")", x.givingAt(1, a), a == 7 ? 0 : NONE);
            due("givingAt(last, " + a + ")", x.givingAt(LARGEST_GIVINGS - 1, a), LARGEST_LAST[a]);
        }
        due("givingAt(0, 0) of the empty one", made(row(), row()).givingAt(0, 0), NONE);
    }

    private static void givingWithoutPlace() {
        sentence("Promise 8: NONE: none");
        WishPlaces x = made(row(1), row(1), row(0));
        due("givingAt(0, 0)", x.givingAt(0, 0), NONE);
        due("givingAt(1, 1)", x.givingAt(1, 1), NONE);
    }

    private static void noSuchGiving() {
        sentence("Promise 8: BAD: no such GIVING");
        WishPlaces x = made(row(1), row(1));
        long[] wrong = {-1, 2, 3, -2, 1L << 31, 1L << 32, (1L << 32) + 1, -1L << 32, 1L << 63, Long.MAX_VALUE,
            Integer.MAX_VALUE, Integer.MIN_VALUE};
        for (long i : wrong) {
            refused("givingAt(" + i + ", 0)", x, BAD, () -> x.givingAt(i, 0));
        }
        WishPlaces most = largest(1);
        refused("givingAt(as many as there are, 0)", most, BAD, () -> most.givingAt(LARGEST_GIVINGS, 0));
    }

    private static void noSuchAskerOfGiving() {
        sentence("Promise 8: BAD: no such ASKER");
        WishPlaces none = made(row(1));
        refused("givingAt(0, 0), no askers", none, BAD, () -> none.givingAt(0, 0));
        WishPlaces x = made(row(1), row(1), row(1));
        refusedOutside("givingAt(0, #)", x, BAD, 0, 1, a -> x.givingAt(0, a));
        WishPlaces most = largest(1);
        refusedOutside("givingAt(0, #)", most, BAD, 0, 7, a -> most.givingAt(0, a));
    }

    // ---- Promise 9

    private static void promise9() {
        giveAndTakeBack();
        giveWithoutWish();
        giveWhatIsHad();
        giveItsOwn();
        giveMoves();
        giveByItself();
    }

    private static void giveAndTakeBack() {
        sentence("Promise 9: A told GIVING has a PLACE (NONE: none) for an ASKER: 1");
        WishPlaces x = largest(6);
        for (int g = 0; g < 4; g++) {
            due("give(" + g + ", 7, 5)", x.give(g, 7, 5), 1);
            due("has(" + g + ", 7)", x.has(g, 7), 5);
            due("give(" + g + ", 7, NONE)", x.give(g, 7, NONE), 1);
            due("has(" + g + ", 7)", x.has(g, 7), NONE);
            due("give(" + g + ", 7, NONE), it had none", x.give(g, 7, NONE), 1);
        }
    }

    private static void giveWithoutWish() {
        sentence("Promise 9: NO: without a WISH");
        WishPlaces x = made(row(3, 3), row(0, 6));
        tell(x, 0, 1);
        refused("give(0, 0, 0)", x, NO, () -> x.give(0, 0, 0));
        refused("give(1, 0, 0)", x, NO, () -> x.give(1, 0, 0));
        dueRow("it keeps what it had", x, 0, 1);
    }

    private static void giveWhatIsHad() {
        sentence("Promise 9: NO: its SEATS are had");
        for (int s = 1; s <= 3; s++) {
            WishPlaces x = madeAlike(row(s, 1), 4, 1, 2);
            due("give(2, 3, 1)", x.give(2, 3, 1), 1);
            for (int a = 0; a < s; a++) {
                due("give(2, " + a + ", 0)", x.give(2, a, 0), 1);
            }
            refused("give(2, 3, 0), seats " + s, x, NO, () -> x.give(2, 3, 0));
            due("has(2, 3), it keeps what it had", x.has(2, 3), 1);
            due("give(2, 0, NONE)", x.give(2, 0, NONE), 1);
            due("give(2, 3, 0), a seat is free", x.give(2, 3, 0), 1);
        }
    }

    private static void giveItsOwn() {
        sentence("Promise 9: its SEATS are had by others: the PLACE that it has it may have again");
        WishPlaces x = madeAlike(row(1, 2), 3, 1, 2);
        tell(x, 0, 0, 1, 1);
        due("give(0, 0, 0), its own", x.give(0, 0, 0), 1);
        due("give(0, 2, 1), its own", x.give(0, 2, 1), 1);
        dueRow("as it was", x, 0, 0, 1, 1);
    }

    private static void giveMoves() {
        sentence("Promise 9: has a PLACE: one, the one given last");
        WishPlaces x = madeAlike(row(1, 1), 2, 1, 2);
        tell(x, 0, 0, NONE);
        due("give(0, 0, 1)", x.give(0, 0, 1), 1);
        due("give(0, 1, 0), its seat is free", x.give(0, 1, 0), 1);
        dueRow("moved", x, 0, 1, 0);
    }

    private static void giveByItself() {
        sentence("Promise 9: SEATS had in another told GIVING don't count");
        WishPlaces x = madeAlike(row(1), 4, 1);
        for (int g = 0; g < 4; g++) {
            due("give(" + g + ", " + (3 - g) + ", 0)", x.give(g, 3 - g, 0), 1);
        }
        for (int g = 0; g < 4; g++) {
            for (int a = 0; a < 4; a++) {
                due("has(" + g + ", " + a + ")", x.has(g, a), a == 3 - g ? 0 : NONE);
            }
        }
    }

    // ---- Promise 10

    private static void promise10() {
        becomeTold();
        becomeItself();
        becomeACopy();
        becomeEachAim();
        becomeOfNobody();
    }

    private static void becomeTold() {
        sentence("Promise 10: A told GIVING becomes what another one is (0 .. 3)");
        WishPlaces x = made(row(1, 1, 1), row(1, 2, 3), row(1, 2, 3));
        int[][] rows = {{0, 1}, {1, NONE}, {2, 0}, {NONE, 2}};
        for (int to = 0; to < 4; to++) {
            for (int from = 0; from < 4; from++) {
                for (int g = 0; g < 4; g++) {
                    tell(x, g, rows[g]);
                }
                dueBecome(x, to, from, rows[from]);
                dueRow("the other one stays", x, from, rows[from]);
            }
        }
    }

    private static void becomeItself() {
        sentence("Promise 10: what it is itself, too");
        WishPlaces x = madeAlike(row(1, 1), 2, 1, 2);
        for (int g = 0; g < 4; g++) {
            tell(x, g, 1, 0);
            dueBecome(x, g, g, 1, 0);
        }
    }

    private static void becomeACopy() {
        sentence("Promise 10: what another one is, not what it will be");
        WishPlaces x = madeAlike(row(1, 1), 2, 1, 2);
        tell(x, 3, 1, 0);
        dueBecome(x, 0, 3, 1, 0);
        tell(x, 3, 0, NONE);
        dueRow("the copy stays", x, 0, 1, 0);
        due("give(0, 0, NONE)", x.give(0, 0, NONE), 1);
        dueRow("the other one stays", x, 3, 0, NONE);
    }

    private static void becomeEachAim() {
        sentence("Promise 10: 4 FIRSTS, 5 FAIREST, 6 MOST, 7 the BEATER of it, 8 BETTER than it, 9 what TRADE gives");
        // A first and a sixth (the sum is 7), or two fourths.
        WishPlaces x = made(row(1, 1), row(1, 4), row(4, 6));
        dueBecome(x, 0, 4, 0, 1);
        dueBecome(x, 1, 5, 1, 0);
        dueBecome(x, 2, 6, 0, 1);
        WishPlaces out = made(row(1, 1), row(1, 2), row(2, 0));
        dueBecome(out, 0, 4, 0, NONE);
        dueBecome(out, 1, 5, 1, 0);
        dueBecome(out, 2, 6, 1, 0);
        WishPlaces votes = madeAlike(row(1, 1, 1), 3, 1, 2, 3);
        tell(votes, 0, 0, 1, 2);
        dueBecome(votes, 0, 7, NONE, 0, 1);
        dueBecome(votes, 0, 8, 2, 0, 1);
        WishPlaces trade = made(row(1, 1), row(2, 1), row(1, 2));
        tell(trade, 3, 0, 1);
        dueBecome(trade, 3, 9, 1, 0);
    }

    private static void becomeOfNobody() {
        sentence("Promise 10: each, where there is nobody, no place or no wish");
        for (int what = 0; what <= 9; what++) {
            due("no askers: become(3, " + what + ")", made(row(2)).become(3, what), 1);
            dueBecome(made(row(), row()), 3, what, NONE);
            dueBecome(made(row(1), row(0), row(0)), 0, what, NONE, NONE);
        }
    }

    // ---- Promises 11 to 13

    private static void promises11To13() {
        hasFirstAndLast();
        hasNone();
        placeOfFirstAndLast();
        manyOfEachWorth();
        manyOfAll();
    }

    private static void hasFirstAndLast() {
        sentence("Promise 11: What an ASKER has in a told GIVING, the first and the last of each");
        WishPlaces x = largest(1);
        due("give(0, 0, 0)", x.give(0, 0, 0), 1);
        due("give(3, 7, 5)", x.give(3, 7, 5), 1);
        due("has(0, 0)", x.has(0, 0), 0);
        due("has(3, 7)", x.has(3, 7), 5);
        due("has(0, 7)", x.has(0, 7), NONE);
        due("has(3, 0)", x.has(3, 0), NONE);
    }

    private static void hasNone() {
        sentence("Promise 11: NONE");
        WishPlaces x = made(row(1), row(1), row(1));
        tell(x, 1, NONE, 0);
        due("has(1, 0)", x.has(1, 0), NONE);
        due("has(0, 1)", x.has(0, 1), NONE);
    }

    private static void placeOfFirstAndLast() {
        sentence("Promise 12: The place of a told GIVING in the order of all, the first and the last");
        WishPlaces x = largest(5);
        due("placeOf(3)", x.placeOf(3), 0);
        due("give(3, 7, 0)", x.give(3, 7, 0), 1);
        due("placeOf(3)", x.placeOf(3), 1);
        tell(x, 3, LARGEST_LAST);
        due("placeOf(3)", x.placeOf(3), LARGEST_GIVINGS - 1);
        due("placeOf(0)", new WishPlaces().placeOf(0), 0);
    }

    private static void manyOfEachWorth() {
        sentence("Promise 13: How many have WORTH v (1 .. 7) in a told GIVING");
        WishPlaces x = made(row(1, 1, 1, 1, 1, 1), row(1, 0, 0, 0, 0, 0), row(0, 2, 0, 0, 0, 0),
                row(0, 0, 3, 0, 0, 0), row(0, 0, 0, 4, 0, 0), row(0, 0, 0, 0, 5, 0), row(0, 0, 0, 0, 0, 6), like(0, 6),
                like(1, 6));
        tell(x, 2, 0, 1, 2, 3, 4, 5, NONE, NONE);
        for (int v = 1; v <= 6; v++) {
            due("many(2, " + v + ")", x.many(2, v), 1);
        }
        due("many(2, 7)", x.many(2, 7), 2);
        due("many(2, 0)", x.many(2, 0), BAD);
        due("many(2, 8)", x.many(2, 8), BAD);
    }

    private static void manyOfAll() {
        sentence("Promise 13: How many have WORTH v, none and all");
        due("many(0, 7), no askers", new WishPlaces().many(0, 7), 0);
        WishPlaces x = largest(6);
        due("many(1, 7)", x.many(1, 7), 8);
        due("many(1, 6)", x.many(1, 6), 0);
        tell(x, 1, LARGEST_LAST);
        due("many(1, 7)", x.many(1, 7), 0);
        due("many(1, 6)", x.many(1, 6), 8);
    }
}
