import java.math.BigInteger;
import java.util.List;
import java.util.Random;

/** Random runs of calls on small boards, each answer beside that of the model. */
public final class RandomRunsTest {
    private static final Checks CHECKS = new Checks("RandomRunsTest");
    private static final int GIVINGS = 2500;

    private final Random random;
    private final int run;
    private final Model model = new Model();
    private final WishPlaces x = new WishPlaces();
    private final int mostWish;
    private List<int[]> all;
    private List<int[]> standing;

    private RandomRunsTest(int run) {
        this.run = run;
        random = new Random(run);
        mostWish = 1 + random.nextInt(6);
    }

    public static void main(String[] args) {
        int runs = args.length > 0 ? Integer.parseInt(args[0]) : 1500;
        for (int run = 0; run < runs; run++) {
            new RandomRunsTest(run).go();
        }
        CHECKS.end();
    }

    private void go() {
        int askers = random.nextInt(9);
        int places = random.nextInt(7);
        for (int i = 0; i < places; i++) {
            addPlace(1 + random.nextInt(random.nextInt(3) + 1));
        }
        for (int i = 0; i < askers; i++) {
            addAsker();
        }
        int wishes = random.nextInt(askers * places + 1);
        for (int i = 0; i < wishes; i++) {
            setWish(random.nextInt(askers), random.nextInt(places), 1 + random.nextInt(mostWish));
        }
        for (int i = 0; i < 60; i++) {
            switch (random.nextInt(12)) {
                case 0:
                    change();
                    break;
                case 1:
                case 2:
                    tell();
                    break;
                default:
                    ask();
            }
            due("digest()", x.digest(), model.digest());
        }
    }

    private void due(String call, long got, long want) {
        CHECKS.due("run " + run + ": " + call, got, want);
    }

    private List<int[]> all() {
        if (all == null) {
            all = model.givings();
        }
        return all;
    }

    private boolean isSmall() {
        return all().size() <= GIVINGS;
    }

    private void addPlace(int seats) {
        due("place", x.place(seats), model.places == 6 ? -4 : model.places);
        if (model.places < 6) {
            model.seats[model.places++] = seats;
        }
        all = standing = null;
    }

    private void addAsker() {
        due("asker", x.asker(), model.askers == 8 ? -4 : model.askers);
        if (model.askers < 8) {
            model.askers++;
        }
        all = standing = null;
    }

    private void setWish(int a, int q, int v) {
        int old = model.wishes[a][q];
        model.wishes[a][q] = v;
        List<int[]> had = all;
        all = null;
        if (model.givings().size() > GIVINGS) {
            model.wishes[a][q] = old;
            all = had;
            return;
        }
        due("wish(" + a + ", " + q + ", " + v + ")", x.wish(a, q, v), old);
        standing = null;
        for (int[] g : model.told) {
            if (v == 0 && g[a] == q) {
                g[a] = -1;
            }
        }
    }

    private void setSeats(int q, int seats) {
        int had = 0;
        for (int[] g : model.told) {
            int here = 0;
            for (int a = 0; a < model.askers; a++) {
                here += g[a] == q ? 1 : 0;
            }
            had = Math.max(had, here);
        }
        int old = model.seats[q];
        model.seats[q] = seats;
        all = null;
        if (had > seats || !isSmall()) {
            model.seats[q] = old;
            all = null;
        }
        if (had > seats) {
            due("seats(" + q + ", " + seats + ")", x.seats(q, seats), -3);
        } else if (model.seats[q] == seats) {
            due("seats(" + q + ", " + seats + ")", x.seats(q, seats), old);
        }
        standing = null;
    }

    private void change() {
        int kind = random.nextInt(10);
        if (kind == 0) {
            addAsker();
        } else if (kind == 1) {
            addPlace(1 + random.nextInt(3));
        } else if (model.places > 0 && kind < 4) {
            setSeats(random.nextInt(model.places), 1 + random.nextInt(3));
        } else if (model.places > 0 && model.askers > 0) {
            setWish(random.nextInt(model.askers), random.nextInt(model.places), random.nextInt(mostWish + 1));
        }
    }

    private void tell() {
        int g = random.nextInt(4);
        if (random.nextInt(3) > 0 && model.askers > 0) {
            give(g, random.nextInt(model.askers), random.nextInt(model.places + 1) - 1);
            return;
        }
        if (random.nextBoolean()) {
            int[] row = all().get(random.nextInt(all().size()));
            for (int a = 0; a < model.askers; a++) {
                give(g, a, -1);
            }
            for (int a = 0; a < model.askers; a++) {
                give(g, a, row[a]);
            }
            return;
        }
        become(g, random.nextInt(10));
    }

    private void give(int g, int a, int q) {
        int had = 0;
        for (int b = 0; b < model.askers; b++) {
            had += b != a && model.told[g][b] == q ? 1 : 0;
        }
        boolean no = q != -1 && (model.wishes[a][q] == 0 || had >= model.seats[q]);
        due("give(" + g + ", " + a + ", " + q + ")", x.give(g, a, q), no ? -3 : 1);
        if (!no) {
            model.told[g][a] = q;
        }
    }

    private void become(int g, int what) {
        int[] now = model.toldRow(g);
        int[][] rows = {model.toldRow(0), model.toldRow(1), model.toldRow(2), model.toldRow(3), null, null, null,
            null, null, null};
        int[] row = rows[what];
        if (what == 4) {
            row = model.firsts(all());
        } else if (what == 5) {
            row = model.fairest(all());
        } else if (what == 6) {
            row = model.most(all());
        } else if (what == 7) {
            row = model.beater(all(), now);
        } else if (what == 8) {
            row = model.better(all(), now);
        } else if (what == 9) {
            row = model.trade(now)[0];
        }
        due("become(" + g + ", " + what + ")", x.become(g, what), 1);
        for (int a = 0; a < model.askers; a++) {
            model.told[g][a] = row[a];
            due("has(" + g + ", " + a + ") after become(.., " + what + ")", x.has(g, a), row[a]);
        }
    }

    private void ask() {
        if (random.nextBoolean()) {
            askOfGivings();
        } else if (random.nextBoolean()) {
            askOfVotes();
        } else if (model.askers > 0) {
            askOfTrade();
            askOfLots();
        }
    }

    private void askOfGivings() {
        due("givings()", x.givings(), all().size());
        if (model.askers == 0) {
            return;
        }
        int a = random.nextInt(model.askers);
        int i = random.nextInt(all().size());
        due("givingAt(" + i + ", " + a + ")", x.givingAt(i, a), all().get(i)[a]);
        due("givingAt(end)", x.givingAt(all().size(), a), -2);
        int g = random.nextInt(4);
        int at = 0;
        while (!java.util.Arrays.equals(all().get(at), model.toldRow(g))) {
            at++;
        }
        due("placeOf(" + g + ")", x.placeOf(g), at);
        int v = 1 + random.nextInt(7);
        due("many(" + g + ", " + v + ")", x.many(g, v), model.howMany(model.toldRow(g), v));
        int q = random.nextInt(model.places + 1) - 1;
        due("worth(" + a + ", " + q + ")", x.worth(a, q), model.worth(a, q));
        int[] order = new int[model.askers];
        int told = 0;
        for (int k = 0; k < order.length; k++) {
            int j = random.nextInt(k + 1);
            order[k] = order[j];
            order[j] = k;
        }
        for (int k : order) {
            told = told * 8 + k;
        }
        due("turn(" + told + ", " + a + ")", x.turn(told, a), model.turns(all(), order)[a]);
        for (int what = 0; what < 4; what++) {
            due("count(" + what + ")", x.count(what), model.count(what));
        }
    }

    private void askOfVotes() {
        int n = random.nextInt(4);
        int m = random.nextInt(4);
        int[] rowN = model.toldRow(n);
        int[] rowM = model.toldRow(m);
        due("votes(" + n + ", " + m + ")", x.votes(n, m), model.votes(rowN, rowM));
        int[] beater = model.beater(all(), rowM);
        due("margin(" + m + ")", x.margin(m), model.votes(beater, rowM));
        for (int a = 0; a < model.askers; a++) {
            due("beater(" + m + ", " + a + ")", x.beater(m, a), beater[a]);
        }
        long[] factor = model.factor(all(), rowM);
        due("factor(" + m + ")", x.factor(m), 1);
        model.above = factor[0];
        model.below = factor[1];
        due("part(0)", x.part(0), factor[0]);
        due("part(1)", x.part(1), factor[1]);
        due("better(" + m + ")", x.better(m), model.prefer(model.better(all(), rowM), rowM));
        askOfStanding();
    }

    private void askOfStanding() {
        if (standing == null) {
            standing = model.standing(all());
        }
        due("standing()", x.standing(), standing.size());
        int most = -1;
        int fewest = -1;
        for (int[] g : standing) {
            int placed = model.askers - model.howMany(g, 7);
            most = Math.max(most, placed);
            fewest = fewest == -1 ? placed : Math.min(fewest, placed);
        }
        due("standingMany(0)", x.standingMany(0), most);
        due("standingMany(1)", x.standingMany(1), fewest);
        for (int a = 0; a < model.askers; a++) {
            due("standingAt(end, " + a + ")", x.standingAt(standing.size(), a), -2);
            for (int k = 0; k < 3 && k < standing.size(); k++) {
                int i = k == 0 ? 0 : random.nextInt(standing.size());
                due("standingAt(" + i + ", " + a + ")", x.standingAt(i, a), standing.get(i)[a]);
            }
        }
    }

    private void askOfTrade() {
        int h = random.nextInt(4);
        int m = random.nextInt(4);
        int[] round = model.trade(model.toldRow(h))[1];
        int[] ring = model.leaving(model.toldRow(m), model.toldRow(h));
        due("leaving(" + m + ", " + h + ", NONE)", x.leaving(m, h, -1), ring.length);
        for (int a = 0; a < model.askers; a++) {
            due("round(" + h + ", " + a + ")", x.round(h, a), round[a]);
            due("leaving(" + m + ", " + h + ", " + a + ")", x.leaving(m, h, a), a < ring.length ? ring[a] : -1);
        }
    }

    private void askOfLots() {
        if (model.places == 0) {
            return;
        }
        int a = random.nextInt(model.askers);
        int b = random.nextInt(model.askers);
        int q = random.nextInt(model.places);
        if (model.askers < 7 || random.nextInt(8) == 0) {
            due("chance(" + a + ", " + q + ")", x.chance(a, q), model.chance(a, q));
        }
        BigInteger[] share = model.shares()[a][q];
        boolean none = share[0].signum() == 0;
        due("share(" + a + ", " + q + ")", x.share(a, q), none ? 0 : 1);
        if (!none) {
            model.above = share[0].longValueExact();
            model.below = share[1].longValueExact();
        }
        due("part(0) of share", x.part(0), model.above);
        due("part(1) of share", x.part(1), model.below);
        due("envies(" + a + ", " + b + ")", x.envies(a, b), a == b ? -2 : model.envies(a, b) ? 1 : 0);
    }
}
