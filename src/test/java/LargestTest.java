import java.lang.management.ManagementFactory;
import java.util.Random;

/** The largest boards: 8 askers, 6 places of 3 seats, every wish given. They must answer, and make next to nothing. */
public final class LargestTest {
    private static final Checks CHECKS = new Checks("LargestTest");
    private static final int CALLS = 512;

    private final int[][] wishes = new int[8][6];
    private final int[] seats = new int[6];
    private final WishPlaces x = new WishPlaces();
    private final String name;

    // What a look at all givings finds.
    private long seen;
    private int margin;
    private int rise;
    private int[] beater;
    private int[] better;
    private long bestUp;
    private long bestDown;

    private LargestTest(String name, int mostWish, int mostSeats, int seed) {
        this.name = name;
        Random random = new Random(seed);
        for (int q = 0; q < 6; q++) {
            seats[q] = mostSeats == 3 ? 3 : 1 + random.nextInt(mostSeats);
            x.place(seats[q]);
        }
        for (int a = 0; a < 8; a++) {
            x.asker();
            for (int q = 0; q < 6; q++) {
                wishes[a][q] = 1 + random.nextInt(mostWish);
                x.wish(a, q, wishes[a][q]);
            }
        }
    }

    public static void main(String[] args) {
        for (int mostWish = 1; mostWish <= 6; mostWish += 5) {
            LargestTest test = new LargestTest("wishes to " + mostWish, mostWish, 3, mostWish);
            test.besideAll(5142613);
            test.standing(20);
            test.lots();
        }
        new LargestTest("few seats", 6, 1, 11).besideAll(-1);
        new LargestTest("two seats", 6, 2, 12).besideAll(-1);
        for (int seed = 0; seed < 200; seed++) {
            new LargestTest("board " + seed, 1 + seed % 6, 1 + seed % 3, seed).standing(5);
        }
        for (int seed = 0; seed < 6; seed++) {
            new LargestTest("lots " + seed, 1 + seed % 6, 1 + seed % 3, seed).lots();
        }
        allTold();
        room();
        CHECKS.end();
    }

    private void due(String call, long got, long want) {
        CHECKS.due(name + ": " + call, got, want);
    }

    private int worth(int a, int q) {
        return q < 0 ? 7 : wishes[a][q];
    }

    // ---- beside a look at all givings

    private void besideAll(long many) {
        if (many >= 0) {
            due("givings()", x.givings(), many);
        }
        int[][] told = {told(0), told(1), told(2)};
        x.become(0, 4);
        x.become(1, 6);
        x.become(2, 7);
        for (int g = 0; g < 3; g++) {
            for (int a = 0; a < 8; a++) {
                told[g][a] = x.has(g, a);
            }
            look(told[g]);
            due("givings()", x.givings(), seen);
            due("margin(" + g + ")", x.margin(g), margin);
            due("better(" + g + ")", x.better(g), rise);
            for (int a = 0; a < 8; a++) {
                due("beater(" + g + ", " + a + ")", x.beater(g, a), beater[a]);
            }
            due("factor(" + g + ")", x.factor(g), 1);
            due("part(0) * below", x.part(0) * bestDown, x.part(1) * bestUp);
            due("become(3, " + g + ")", x.become(3, g), 1);
            due("become(3, 8)", x.become(3, 8), 1);
            for (int a = 0; a < 8; a++) {
                due("BETTER than " + g + ", " + a, x.has(3, a), better[a]);
            }
        }
        Random random = new Random(3);
        for (int i = 0; i < 20; i++) {
            long at = (long) (random.nextDouble() * seen);
            int[] row = new int[8];
            for (int a = 0; a < 8; a++) {
                row[a] = x.givingAt(at, a);
            }
            tell(3, row);
            due("placeOf the giving at " + at, x.placeOf(3), at);
        }
        due("givingAt(end)", x.givingAt(seen, 0), -2);
        due("givingAt(end - 1)", x.givingAt(seen - 1, 0), 5);
    }

    private int[] told(int g) {
        int[] row = new int[8];
        for (int a = 0; a < 8; a++) {
            row[a] = x.has(g, a);
        }
        return row;
    }

    private void tell(int g, int[] row) {
        for (int a = 0; a < 8; a++) {
            x.give(g, a, -1);
        }
        for (int a = 0; a < 8; a++) {
            due("give", x.give(g, a, row[a]), 1);
        }
    }

    private void look(int[] m) {
        seen = 0;
        margin = Integer.MIN_VALUE;
        rise = -1;
        bestUp = 0;
        bestDown = 1;
        look(m, new int[8], seats.clone(), 0, 0, 0);
    }

    private void look(int[] m, int[] row, int[] left, int a, int up, int down) {
        if (a == 8) {
            seen++;
            weigh(row, up, down);
            return;
        }
        for (int q = -1; q < 6; q++) {
            if (q >= 0 && left[q] == 0) {
                continue;
            }
            if (q >= 0) {
                left[q]--;
            }
            row[a] = q;
            int then = worth(a, q);
            int now = worth(a, m[a]);
            look(m, row, left, a + 1, up + (then < now ? 1 : 0), down + (then > now ? 1 : 0));
            if (q >= 0) {
                left[q]++;
            }
        }
    }

    private void weigh(int[] row, int up, int down) {
        if (up - down > margin) {
            margin = up - down;
            beater = row.clone();
        }
        if (down == 0 && up > rise) {
            rise = up;
            better = row.clone();
        }
        if (up > 0 && (bestUp == 0 || up * bestDown > bestUp * down)) {
            bestUp = up;
            bestDown = down;
        }
    }

    // ---- standing

    /** Each that stands has no margin, they come in order, and any other one that is met has one. */
    private void standing(int some) {
        long many = x.standing();
        Random random = new Random(many);
        long before = -1;
        for (int i = 0; i < some && i < many; i++) {
            long at = many <= some ? i : many * i / some;
            int[] row = new int[8];
            for (int a = 0; a < 8; a++) {
                row[a] = x.standingAt(at, a);
            }
            tell(3, row);
            due("margin of the standing one at " + at, x.margin(3), 0);
            CHECKS.holds(name + ": in order at " + at, x.placeOf(3) > before);
            before = x.placeOf(3);
        }
        x.become(3, random.nextInt(3) + 4);
        for (int i = 0; i < some; i++) {
            if (x.margin(3) == 0) {
                CHECKS.holds(name + ": it stands", stands(x.placeOf(3), many));
            }
            CHECKS.holds(name + ": none stands, none has no margin", many > 0 || x.margin(3) > 0);
            x.become(3, 7);
        }
        due("standingAt(end)", x.standingAt(many, 0), -2);
    }

    private boolean stands(long place, long many) {
        long low = 0;
        long high = many - 1;
        int[] had = told(3);
        boolean found = false;
        while (low <= high && !found) {
            long mid = (low + high) / 2;
            int[] row = new int[8];
            for (int a = 0; a < 8; a++) {
                row[a] = x.standingAt(mid, a);
            }
            tell(2, row);
            long at = x.placeOf(2);
            found = at == place;
            low = at < place ? mid + 1 : low;
            high = at > place ? mid - 1 : high;
        }
        tell(3, had);
        return found;
    }

    // ---- lots

    private void lots() {
        int[][] want = new int[8][6];
        orders(new int[8], 0, 0, want);
        for (int a = 0; a < 8; a++) {
            for (int q = 0; q < 6; q++) {
                due("chance(" + a + ", " + q + ")", x.chance(a, q), want[a][q]);
            }
        }
    }

    private void orders(int[] order, int had, int used, int[][] want) {
        if (had == 8) {
            int[] left = seats.clone();
            for (int a : order) {
                int best = -1;
                for (int q = 0; q < 6; q++) {
                    if (left[q] > 0 && (best < 0 || wishes[a][q] < wishes[a][best])) {
                        best = q;
                    }
                }
                if (best >= 0) {
                    left[best]--;
                    want[a][best]++;
                }
            }
            return;
        }
        for (int a = 0; a < 8; a++) {
            if ((used >> a & 1) == 0) {
                order[had] = a;
                orders(order, had + 1, used | 1 << a, want);
            }
        }
    }

    // ---- all mixes of seats: the search must have room for each

    private static void allTold() {
        for (int mix = 0; mix < 729; mix++) {
            WishPlaces x = new WishPlaces();
            int[] seats = new int[6];
            int rest = mix;
            for (int q = 0; q < 6; q++) {
                seats[q] = 1 + rest % 3;
                rest /= 3;
                x.place(seats[q]);
            }
            for (int a = 0; a < 8; a++) {
                x.asker();
                for (int q = 0; q < 6; q++) {
                    x.wish(a, q, 1);
                }
            }
            CHECKS.due("givings() of the mix " + mix, x.givings(), counted(seats));
        }
    }

    /** Place by place: how many askers have none yet, and who of them have this one. */
    private static long counted(int[] seats) {
        long[] ways = new long[9];
        ways[8] = 1;
        for (int s : seats) {
            long[] next = new long[9];
            for (int left = 0; left <= 8; left++) {
                long choose = 1;
                for (int k = 0; k <= s && k <= left; k++) {
                    next[left - k] += ways[left] * choose;
                    choose = choose * (left - k) / (k + 1);
                }
            }
            ways = next;
        }
        long sum = 0;
        for (long w : ways) {
            sum += w;
        }
        return sum;
    }

    // ---- room

    private static void room() {
        com.sun.management.ThreadMXBean bean =
                (com.sun.management.ThreadMXBean) ManagementFactory.getThreadMXBean();
        long id = Thread.currentThread().getId();
        LargestTest warm = new LargestTest("room", 6, 3, 77);
        warm.mix(bean, id);
        LargestTest test = new LargestTest("room", 6, 3, 78);
        long made = bean.getThreadAllocatedBytes(id);
        new WishPlaces();
        made = bean.getThreadAllocatedBytes(id) - made;
        CHECKS.holds("a new object takes " + made + " bytes", made > 0 && made < 400000);
        long more = test.mix(bean, id);
        CHECKS.holds("512 calls take " + more + " bytes more", more < 10000);
    }

    private long mix(com.sun.management.ThreadMXBean bean, long id) {
        long before = bean.getThreadAllocatedBytes(id);
        long sum = 0;
        for (int i = 0; i < CALLS; i++) {
            int a = i & 7;
            switch (i % 21) {
                case 0: sum += x.wish(a, i % 6, 1 + i % 5); break;
                case 1: sum += x.givings(); break;
                case 2: sum += x.givingAt(i * 1000L, a); break;
                case 3: sum += x.become(i & 3, 4 + i % 6); break;
                case 4: sum += x.margin(i & 3); break;
                case 5: sum += x.beater(i & 3, a); break;
                case 6: sum += x.factor(i & 3); break;
                case 7: sum += x.better(i & 3); break;
                case 8: sum += x.standing(); break;
                case 9: sum += x.standingAt(0, a); break;
                case 10: sum += x.standingMany(i & 1); break;
                case 11: sum += x.turn(342391, a); break;
                case 12: sum += x.round(i & 3, a); break;
                case 13: sum += x.leaving(i & 3, i + 1 & 3, 0); break;
                case 14: sum += x.chance(a, i % 6); break;
                case 15: sum += x.share(a, i % 6); break;
                case 16: sum += x.envies(a, a ^ 1); break;
                case 17: sum += x.digest(); break;
                case 18: sum += x.placeOf(i & 3); break;
                case 19: sum += x.seats(i % 6, 3); break;
                default: sum += x.many(i & 3, 1 + i % 7);
            }
        }
        long made = bean.getThreadAllocatedBytes(id) - before;
        CHECKS.holds("the calls answer", sum != 0);
        return made;
    }
}
