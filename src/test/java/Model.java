import java.math.BigInteger;
import java.util.ArrayList;
import java.util.List;

/** The document in its plainest form, by looking at all givings, orders and rings: slow, for small boards alone. */
final class Model {
    static final int NONE = -1;
    static final int[] ZERO = {0, 1};

    int askers = 0;
    int places = 0;
    int[] seats = new int[6];
    int[][] wishes = new int[8][6];
    int[][] told = new int[4][8];
    long above = 0;
    long below = 1;

    Model() {
        for (int[] g : told) {
            java.util.Arrays.fill(g, NONE);
        }
    }

    int worth(int a, int q) {
        return q == NONE ? 7 : wishes[a][q] == 0 ? 8 : wishes[a][q];
    }

    // ---- givings

    List<int[]> givings() {
        List<int[]> all = new ArrayList<>();
        addGivings(all, new int[askers], 0);
        return all;
    }

    private void addGivings(List<int[]> all, int[] g, int a) {
        if (a == askers) {
            all.add(g.clone());
            return;
        }
        for (int q = NONE; q < places; q++) {
            if (worth(a, q) > 7) {
                continue;
            }
            int had = 0;
            for (int b = 0; b < a; b++) {
                if (g[b] == q) {
                    had++;
                }
            }
            if (q == NONE || had < seats[q]) {
                g[a] = q;
                addGivings(all, g, a + 1);
            }
        }
    }

    int[] toldRow(int g) {
        return java.util.Arrays.copyOf(told[g], askers);
    }

    int howMany(int[] g, int v) {
        int many = 0;
        for (int a = 0; a < askers; a++) {
            if (worth(a, g[a]) == v) {
                many++;
            }
        }
        return many;
    }

    int prefer(int[] n, int[] m) {
        int many = 0;
        for (int a = 0; a < askers; a++) {
            if (worth(a, n[a]) < worth(a, m[a])) {
                many++;
            }
        }
        return many;
    }

    int votes(int[] n, int[] m) {
        return prefer(n, m) - prefer(m, n);
    }

    int[] beater(List<int[]> all, int[] m) {
        int[] best = null;
        for (int[] n : all) {
            if (best == null || votes(n, m) > votes(best, m)) {
                best = n;
            }
        }
        return best;
    }

    int[] better(List<int[]> all, int[] m) {
        int[] best = null;
        for (int[] n : all) {
            if (prefer(m, n) == 0 && (best == null || prefer(n, m) > prefer(best, m))) {
                best = n;
            }
        }
        return best;
    }

    /** Above and below. */
    long[] factor(List<int[]> all, int[] m) {
        long up = 0;
        long down = 1;
        boolean some = false;
        for (int[] n : all) {
            long p = prefer(n, m);
            long q = prefer(m, n);
            if (p == 0) {
                continue;
            }
            if (!some || p * down > up * q) {
                up = p;
                down = q;
            }
            some = true;
        }
        if (!some) {
            return new long[] {0, 1};
        }
        if (down == 0) {
            return new long[] {1, 0};
        }
        long d = BigInteger.valueOf(up).gcd(BigInteger.valueOf(down)).longValue();
        return new long[] {up / d, down / d};
    }

    List<int[]> standing(List<int[]> all) {
        List<int[]> some = new ArrayList<>();
        for (int[] m : all) {
            boolean wins = false;
            for (int[] n : all) {
                if (votes(n, m) > 0) {
                    wins = true;
                    break;
                }
            }
            if (!wins) {
                some.add(m);
            }
        }
        return some;
    }

    /** The first of those with the least row of marks. */
    interface Marks {
        int[] of(int[] giving);
    }

    int[] least(List<int[]> all, Marks marks) {
        int[] best = null;
        for (int[] g : all) {
            if (best == null || java.util.Arrays.compare(marks.of(g), marks.of(best)) < 0) {
                best = g;
            }
        }
        return best;
    }

    int[] firsts(List<int[]> all) {
        return least(all, g -> new int[] {-howMany(g, 1), -howMany(g, 2), -howMany(g, 3),
            -howMany(g, 4), -howMany(g, 5), -howMany(g, 6)});
    }

    int[] fairest(List<int[]> all) {
        return least(all, g -> new int[] {howMany(g, 7), howMany(g, 6), howMany(g, 5),
            howMany(g, 4), howMany(g, 3), howMany(g, 2), howMany(g, 1)});
    }

    int[] most(List<int[]> all) {
        return least(all, g -> {
            int sum = 0;
            for (int a = 0; a < askers; a++) {
                sum += g[a] == NONE ? 0 : worth(a, g[a]);
            }
            return new int[] {howMany(g, 7), sum};
        });
    }

    int[] turns(List<int[]> all, int[] order) {
        return least(all, g -> {
            int[] marks = new int[order.length];
            for (int i = 0; i < order.length; i++) {
                marks[i] = worth(order[i], g[order[i]]);
            }
            return marks;
        });
    }

    // ---- trade

    /** What each has by trade, then the round of each. */
    int[][] trade(int[] h) {
        int[] gets = new int[askers];
        int[] round = new int[askers];
        java.util.Arrays.fill(gets, NONE);
        for (int r = 1; r <= 9; r++) {
            int[] to = new int[askers];
            for (int a = 0; a < askers; a++) {
                to[a] = h[a] == NONE || round[a] != 0 ? NONE : pointed(h, round, a);
            }
            for (int a = 0; a < askers; a++) {
                int at = to[a];
                for (int i = 0; i < 20 && at != NONE && at != a; i++) {
                    at = to[at];
                }
                if (at == a) {
                    gets[a] = h[to[a]];
                    round[a] = -r;
                }
            }
            for (int a = 0; a < askers; a++) {
                round[a] = Math.abs(round[a]);
            }
        }
        return new int[][] {gets, round};
    }

    private int pointed(int[] h, int[] round, int a) {
        int best = NONE;
        for (int o = 0; o < askers; o++) {
            if (h[o] == NONE || round[o] != 0 || wishes[a][h[o]] == 0) {
                continue;
            }
            if (best == NONE || rankOfPlace(h, a, h[o]) < rankOfPlace(h, a, h[best])
                    || h[o] == h[best] && o == a) {
                best = o;
            }
        }
        return best;
    }

    private int rankOfPlace(int[] h, int a, int q) {
        return wishes[a][q] * 100 + (q == h[a] ? 0 : 1 + q);
    }

    int[] leaving(int[] m, int[] h) {
        for (int size = 1; size <= askers; size++) {
            int[] row = ringOf(m, h, new int[size], 0);
            if (row != null) {
                return row;
            }
        }
        return new int[0];
    }

    private int[] ringOf(int[] m, int[] h, int[] row, int had) {
        if (had == row.length) {
            for (int i = 0; i < had; i++) {
                int next = h[row[(i + 1) % had]];
                if (h[row[i]] == NONE || next == NONE || worth(row[i], next) >= worth(row[i], m[row[i]])) {
                    return null;
                }
            }
            return row.clone();
        }
        for (int a = 0; a < askers; a++) {
            boolean used = h[a] == NONE || had > 0 && a < row[0];
            for (int i = 0; i < had; i++) {
                used |= row[i] == a;
            }
            if (!used) {
                row[had] = a;
                int[] found = ringOf(m, h, row, had + 1);
                if (found != null) {
                    return found;
                }
            }
        }
        return null;
    }

    // ---- lots and shares

    int chance(int asker, int place) {
        return orders(new int[askers], 0, asker, place);
    }

    private int orders(int[] order, int had, int asker, int place) {
        if (had == askers) {
            int[] left = seats.clone();
            int got = NONE;
            for (int a : order) {
                int q = bestOf(a, left);
                if (q != NONE) {
                    left[q]--;
                }
                if (a == asker) {
                    got = q;
                }
            }
            return got == place ? 1 : 0;
        }
        int sum = 0;
        for (int a = 0; a < askers; a++) {
            boolean used = false;
            for (int i = 0; i < had; i++) {
                used |= order[i] == a;
            }
            if (!used) {
                order[had] = a;
                sum += orders(order, had + 1, asker, place);
            }
        }
        return sum;
    }

    private int bestOf(int a, int[] left) {
        int best = NONE;
        for (int q = places - 1; q >= 0; q--) {
            if (wishes[a][q] > 0 && left[q] > 0 && (best == NONE || wishes[a][q] <= wishes[a][best])) {
                best = q;
            }
        }
        return best;
    }

    /** By askers and places, what was eaten as BigInteger above and below. */
    BigInteger[][][] shares() {
        BigInteger[][][] ate = new BigInteger[askers][places][];
        BigInteger[][] rest = new BigInteger[places][];
        for (int q = 0; q < places; q++) {
            rest[q] = fraction(seats[q], 1);
        }
        for (int a = 0; a < askers; a++) {
            for (int q = 0; q < places; q++) {
                ate[a][q] = fraction(0, 1);
            }
        }
        BigInteger[] time = fraction(0, 1);
        while (compare(time, fraction(1, 1)) < 0) {
            int[] at = new int[askers];
            int[] eaters = new int[places];
            int[] left = new int[places];
            for (int q = 0; q < places; q++) {
                left[q] = rest[q][0].signum();
            }
            for (int a = 0; a < askers; a++) {
                at[a] = bestOf(a, left);
                if (at[a] != NONE) {
                    eaters[at[a]]++;
                }
            }
            BigInteger[] step = minus(fraction(1, 1), time);
            for (int q = 0; q < places; q++) {
                if (eaters[q] > 0) {
                    BigInteger[] until = lowest(rest[q][0], rest[q][1].multiply(BigInteger.valueOf(eaters[q])));
                    if (compare(until, step) < 0) {
                        step = until;
                    }
                }
            }
            for (int a = 0; a < askers; a++) {
                if (at[a] != NONE) {
                    ate[a][at[a]] = plus(ate[a][at[a]], step);
                    rest[at[a]] = minus(rest[at[a]], step);
                }
            }
            time = plus(time, step);
        }
        return ate;
    }

    boolean envies(int asker, int other) {
        BigInteger[][][] ate = shares();
        for (int v = 1; v <= 6; v++) {
            BigInteger[] mine = fraction(0, 1);
            BigInteger[] theirs = fraction(0, 1);
            for (int q = 0; q < places; q++) {
                if (wishes[asker][q] >= 1 && wishes[asker][q] <= v) {
                    mine = plus(mine, ate[asker][q]);
                    theirs = plus(theirs, ate[other][q]);
                }
            }
            if (compare(mine, theirs) < 0) {
                return true;
            }
        }
        return false;
    }

    private static BigInteger[] fraction(long up, long down) {
        return lowest(BigInteger.valueOf(up), BigInteger.valueOf(down));
    }

    private static BigInteger[] lowest(BigInteger up, BigInteger down) {
        BigInteger d = up.gcd(down);
        return new BigInteger[] {up.divide(d), down.divide(d)};
    }

    private static BigInteger[] plus(BigInteger[] a, BigInteger[] b) {
        return lowest(a[0].multiply(b[1]).add(b[0].multiply(a[1])), a[1].multiply(b[1]));
    }

    private static BigInteger[] minus(BigInteger[] a, BigInteger[] b) {
        return lowest(a[0].multiply(b[1]).subtract(b[0].multiply(a[1])), a[1].multiply(b[1]));
    }

    private static int compare(BigInteger[] a, BigInteger[] b) {
        return a[0].multiply(b[1]).compareTo(b[0].multiply(a[1]));
    }

    // ---- counts

    int count(int what) {
        int sum = 0;
        for (int q = 0; q < places; q++) {
            sum += what == 2 ? seats[q] : 0;
            for (int a = 0; a < askers; a++) {
                sum += what == 3 && wishes[a][q] > 0 ? 1 : 0;
            }
        }
        return what == 0 ? askers : what == 1 ? places : sum;
    }

    long digest() {
        List<Long> all = new ArrayList<>();
        for (int what = 0; what < 4; what++) {
            all.add((long) count(what));
        }
        for (int q = 0; q < places; q++) {
            all.add((long) seats[q]);
        }
        for (int a = 0; a < askers; a++) {
            for (int q = 0; q < places; q++) {
                all.add((long) wishes[a][q]);
            }
        }
        for (int[] g : told) {
            for (int a = 0; a < askers; a++) {
                all.add((long) g[a]);
            }
        }
        all.add(above);
        all.add(below);
        long h = 331;
        for (long v : all) {
            h = 31 * h + v;
        }
        return h;
    }
}
