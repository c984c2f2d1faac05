/**
 * What the tests share: the numbers of refusals, houses to begin with, and the count of what is not as due.
 * They extend it, as there are no packages to import it from.
 */
abstract class Bench {
    static final int NONE = -1;
    static final int BAD = -2;
    static final int OTHER = -3;
    static final int NOTHING = -4;
    static final int STUCK = -5;
    static final int FULL = -6;
    static final int MEETING = 10;
    static final int LOW = Integer.MIN_VALUE;
    static final int HIGH = Integer.MAX_VALUE;

    private static int wrong = 0;
    private static int looked = 0;
    private static String words = "";

    interface Call {
        long on(UnderNurseToTheTemper x);
    }

    /** The sentence of the document that the answers behind it are about. */
    static void sentence(String told) {
        words = told;
    }

    static void due(String call, long got, long want) {
        looked++;
        if (got != want) {
            wrong++;
            System.out.println("'" + words + "': " + call + " answered " + got + ", due is " + want);
        }
    }

    static void due(String call, String got, String want) {
        looked++;
        if (!got.equals(want)) {
            wrong++;
            System.out.println("'" + words + "': " + call + " has " + got + ", due is " + want);
        }
    }

    static void finish(String what) {
        System.out.println(wrong == 0 ? what + ": " + looked + " answers are as due" : wrong + " answers are not as due");
        if (wrong != 0) {
            System.exit(1);
        }
    }

    static UnderNurseToTheTemper fresh() {
        return new UnderNurseToTheTemper();
    }

    /** One KEEPER alone. */
    static UnderNurseToTheTemper one(int kind, int a, int nerve) {
        UnderNurseToTheTemper x = fresh();
        x.keeper(kind, a, nerve);
        return x;
    }

    /** One KEEPER, and what the house has: RAGE, CALM, GROWTH, BAR, HOUR. */
    static UnderNurseToTheTemper house(int kind, int a, int nerve, int... has) {
        UnderNurseToTheTemper x = one(kind, a, nerve);
        put(x, has[0], has[1], has[2], has[3], has[4]);
        return x;
    }

    /** One KEEPER of each KIND by its number; FRIGHT is 16; 2, 3, 4 and 5 STAY. */
    static UnderNurseToTheTemper six() {
        UnderNurseToTheTemper x = fresh();
        x.keeper(0, 5, 12);
        x.keeper(1, 4, 10);
        x.keeper(2, 3, 20);
        x.keeper(3, 2, 0);
        x.keeper(4, 6, 9);
        x.keeper(5, 7, 30);
        put(x, 44, 70, 2, 50, 8);
        return x;
    }

    static void put(UnderNurseToTheTemper x, int rage, int calm, int growth, int bar, int hour) {
        x.tell(0, rage);
        x.tell(1, calm);
        x.tell(2, growth);
        x.tell(3, bar);
        x.tell(4, hour);
    }

    static void lay(UnderNurseToTheTemper x, int s, int sort, long... elements) {
        x.row(s, sort, elements.length);
        for (int i = 0; i < elements.length; i++) {
            x.set(s, i, elements[i]);
        }
    }

    static void feedAll(UnderNurseToTheTemper x, String text) {
        for (int i = 0; i < text.length(); i++) {
            x.feed(text.charAt(i));
        }
    }

    static int read(UnderNurseToTheTemper x, String text) {
        x.wipe();
        feedAll(x, text);
        return x.house();
    }

    /** RAGE, CALM, GROWTH, BAR and HOUR. */
    static String measures(UnderNurseToTheTemper x) {
        return x.status(1) + " " + x.status(2) + " " + x.status(3) + " " + x.status(4) + " " + x.status(5);
    }

    static void dueMeasures(String when, UnderNurseToTheTemper x, String want) {
        due(when, measures(x), want);
    }

    /** How many refusals of each number, BAD to FULL. */
    static String refusals(UnderNurseToTheTemper x) {
        return x.status(12) + " " + x.status(13) + " " + x.status(14) + " " + x.status(15) + " " + x.status(16);
    }

    static void dueRefusals(String when, UnderNurseToTheTemper x, String want) {
        due(when, refusals(x), want);
    }

    static String elements(UnderNurseToTheTemper x, int s, int n) {
        StringBuilder all = new StringBuilder();
        for (int i = 0; i < n; i++) {
            all.append(i == 0 ? "" : " ").append(x.element(s, i));
        }
        return all.toString();
    }
}
