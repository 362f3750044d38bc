/** What the tests share: it counts the answers that are not as due, and prints them. */
final class Checks {
    private final String name;
    private int asked = 0;
    private int wrong = 0;
    private int printed = 0;

    Checks(String name) {
        this.name = name;
    }

    void due(String call, long got, long want) {
        asked++;
        if (got != want) {
            wrong++;
            printed++;
            if (printed <= 20) {
                System.out.println(name + ": " + call + " answered " + got + ", due is " + want);
            }
        }
    }

    /** What follows is printed though much was printed already. */
    void part() {
        printed = 0;
    }

    void holds(String what, boolean is) {
        due(what, is ? 1 : 0, 1);
    }

    void end() {
        System.out.println(name + ": " + (asked - wrong) + " answers as due, " + wrong + " not");
        if (wrong != 0 || asked == 0) {
            System.exit(1);
        }
    }
}
