import java.util.Random;

/** Runs of calls with any arguments, in any state: none throws, and what is refused or only asks changes nothing. */
public final class WildCallsTest {
    private static final Checks CHECKS = new Checks("WildCallsTest");
    private static final int KINDS = 29;
    // asker, place, seats, wish, give, become, factor, share
    private static final int CHANGERS = 8;

    private final Random random;
    private final WishPlaces x = new WishPlaces();

    private WildCallsTest(int seed) {
        random = new Random(seed);
    }

    public static void main(String[] args) {
        for (int seed = 0; seed < 400; seed++) {
            new WildCallsTest(seed).go(seed);
        }
        CHECKS.end();
    }

    private void go(int seed) {
        for (int i = 0; i < 512; i++) {
            int kind = i < 40 ? random.nextInt(4) : random.nextInt(KINDS);
            long before = x.digest();
            long answer = call(kind);
            boolean mayChange = kind < CHANGERS && answer >= 0;
            CHECKS.holds("seed " + seed + ", call " + i + " of kind " + kind + " changes nothing",
                    mayChange || x.digest() == before);
        }
    }

    private int number() {
        switch (random.nextInt(16)) {
            case 0:
                return random.nextInt();
            case 1:
                return Integer.MAX_VALUE - random.nextInt(2);
            case 2:
                return Integer.MIN_VALUE + random.nextInt(2);
            case 3:
                return -random.nextInt(4);
            case 4:
                return 1 << random.nextInt(32);
            default:
                return random.nextInt(random.nextInt(9) + 1);
        }
    }

    private long call(int kind) {
        int a = number();
        int b = number();
        int c = number();
        long i = random.nextBoolean() ? b : (long) b << random.nextInt(33);
        switch (kind) {
            case 0: return x.asker();
            case 1: return x.place(a);
            case 2: return x.seats(a, b);
            case 3: return x.wish(a, b, c);
            case 4: return x.give(a, b, c);
            case 5: return x.become(a, b);
            case 6: return x.factor(a);
            case 7: return x.share(a, b);
            case 8: return x.worth(a, b);
            case 9: return x.givings();
            case 10: return x.givingAt(i, a);
            case 11: return x.has(a, b);
            case 12: return x.placeOf(a);
            case 13: return x.many(a, b);
            case 14: return x.votes(a, b);
            case 15: return x.margin(a);
            case 16: return x.beater(a, b);
            case 17: return x.part(a);
            case 18: return x.better(a);
            case 19: return x.standing();
            case 20: return x.standingAt(i, a);
            case 21: return x.standingMany(a);
            case 22: return x.turn(a, b);
            case 23: return x.round(a, b);
            case 24: return x.leaving(a, b, c);
            case 25: return x.chance(a, b);
            case 26: return x.envies(a, b);
            case 27: return x.count(a);
            default: return x.digest();
        }
    }
}
