/** The boundaries of SHELVES and ROWS, of what is kept, and of what status tells: promises 2 to 8 and 54 to 56. */
public final class ShelfEdgesTest extends Bench {
    private static final int[] OUTSIDE = {-1, 8, LOW, HIGH};

    // ---- ROWS ----

    private static void rows() {
        sentence("SHELVES 0 to 7");
        UnderNurseToTheTemper x = fresh();
        for (int s = 0; s < 8; s++) {
            due("row(" + s + ", 0, 1)", x.row(s, 0, 1), 1);
            due("SHELVES that hold something", x.status(9), s + 1);
        }
        for (int s : OUTSIDE) {
            due("row(" + s + ", 0, 1)", x.row(s, 0, 1), BAD);
        }
        dueRefusals("four", x, "4 0 0 0 0");
        sentence("A ROW has a SORT (0 bytes, 1 shorts, 2 ints, 3 longs, 4 booleans)");
        for (int sort = 0; sort <= 4; sort++) {
            due("SORT " + sort, x.row(3, sort, 1), 1);
            due("holds", x.holds(3), sort);
        }
        for (int sort : new int[] {-1, 5, LOW, HIGH}) {
            due("SORT " + sort, x.row(3, sort, 1), BAD);
            due("holds as it was", x.holds(3), 4);
        }
        dueRefusals("four more", x, "8 0 0 0 0");
        sentence("0 to 40 elements (0, or not so, at first)");
        for (int n : new int[] {0, 1, 39, 40}) {
            due("n " + n, x.row(2, 3, n), 1);
            due("one more than the last", x.set(2, n, 5), BAD);
            due("the last", n == 0 ? 1 : x.set(2, n - 1, 5), 1);
            due("the last", x.element(2, n - 1), n == 0 ? 0 : 5);
            due("all at first", x.row(2, 3, n) * 0 + x.element(2, n - 1), 0);
        }
        for (int n : new int[] {-1, 41, LOW, HIGH}) {
            due("n " + n, x.row(2, 3, n), BAD);
        }
        due("the ROW as it was", x.set(2, 39, 1), 1);
        dueRefusals("eight more", x, "16 0 0 0 0");
    }

    private static void newRow() {
        sentence("SHELF s holds a new ROW");
        UnderNurseToTheTemper x = one(0, 0, 0);
        for (int sort = 0; sort <= 4; sort++) {
            lay(x, 0, 3, 1, 2, 3, 4);
            x.row(0, sort, 4);
            due("all at first in SORT " + sort, elements(x, 0, 4), "0 0 0 0");
        }
        lay(x, 0, 0, 1, 2, 3, 4);
        x.row(0, 0, 2);
        x.row(0, 0, 4);
        due("not what was behind a shorter one", elements(x, 0, 4), "0 0 0 0");
        x.show(0, 0);
        due("instead of a KEEPER", x.row(0, 2, 0), 1);
        due("holds", x.holds(0), 2);
        due("one SHELF", x.status(9), 1);
    }

    private static void cut(int sort, long put, long want) {
        UnderNurseToTheTemper x = fresh();
        x.row(0, sort, 3);
        due("set " + put + " in SORT " + sort, x.set(0, 1, put), 1);
        due(put + " in SORT " + sort, elements(x, 0, 3), "0 " + want + " 0");
    }

    private static void lowestBits() {
        sentence("what is put in keeps its lowest bits");
        long[][] bytes = {{127, 127}, {128, -128}, {255, -1}, {256, 0}, {-128, -128}, {-129, 127}, {1L << 40, 0}};
        for (long[] row : bytes) {
            cut(0, row[0], row[1]);
        }
        long[][] shorts = {{32767, 32767}, {32768, -32768}, {65535, -1}, {65536, 0}, {-32768, -32768}, {-32769, 32767}};
        for (long[] row : shorts) {
            cut(1, row[0], row[1]);
        }
        long[][] ints = {{HIGH, HIGH}, {1L << 31, LOW}, {(1L << 32) - 1, -1}, {1L << 32, 0}, {LOW, LOW}, {LOW - 1L, HIGH}};
        for (long[] row : ints) {
            cut(2, row[0], row[1]);
        }
        for (long v : new long[] {Long.MAX_VALUE, Long.MIN_VALUE, -1, 0, 1L << 32}) {
            cut(3, v, v);
        }
        sentence("of booleans: whether it is not 0; told they are numbers (1, 0)");
        long[][] booleans = {{0, 0}, {1, 1}, {2, 1}, {-1, 1}, {256, 1}, {1L << 32, 1}, {Long.MIN_VALUE, 1}};
        for (long[] row : booleans) {
            cut(4, row[0], row[1]);
        }
    }

    private static void set() {
        sentence("Element i of the ROW in SHELF s becomes v: 1. BAD SHELF; OTHER; NOTHING; BAD i");
        UnderNurseToTheTemper x = one(0, 0, 0);
        lay(x, 0, 0, 5, 6);
        x.show(1, 0);
        for (int s : OUTSIDE) {
            due("SHELF " + s, x.set(s, 0, 1), BAD);
            due("SHELF " + s + ", i 9", x.set(s, 9, 1), BAD);
        }
        for (int i : new int[] {-1, 2, 40, LOW, HIGH}) {
            due("i " + i, x.set(0, i, 1), BAD);
            due("i " + i + " of a KEEPER", x.set(1, i, 1), OTHER);
            due("i " + i + " of NOTHING", x.set(2, i, 1), NOTHING);
        }
        due("i 0 of a KEEPER", x.set(1, 0, 1), OTHER);
        due("i 0 of NOTHING", x.set(2, 0, 1), NOTHING);
        dueRefusals("all", x, "13 6 6 0 0");
        due("as it was", elements(x, 0, 2), "5 6");
        due("i 0", x.set(0, 0, 7), 1);
        due("i 1", x.set(0, 1, 8), 1);
        due("both", elements(x, 0, 2), "7 8");
    }

    private static void element() {
        sentence("Element i of the ROW; 0: none, no ROW (nothing is refused)");
        UnderNurseToTheTemper x = one(0, 0, 0);
        lay(x, 0, 3, -2, -6);
        x.show(1, 0);
        due("i 0", x.element(0, 0), -2);
        due("i 1", x.element(0, 1), -6);
        for (int i : new int[] {-1, 2, 40, LOW, HIGH}) {
            due("i " + i, x.element(0, i), 0);
            due("i " + i + " of a KEEPER", x.element(1, i), 0);
            due("i " + i + " of NOTHING", x.element(2, i), 0);
        }
        for (int s : OUTSIDE) {
            due("SHELF " + s, x.element(s, 0), 0);
        }
        dueRefusals("none", x, "0 0 0 0 0");
    }

    // ---- copy ----

    private static UnderNurseToTheTemper twoRows() {
        UnderNurseToTheTemper x = one(0, 0, 0);
        lay(x, 0, 1, 1, 2, 3, 4);
        lay(x, 1, 1, 7, 8, 9);
        return x;
    }

    private static void copied(int i, int j, int n, String want) {
        UnderNurseToTheTemper x = twoRows();
        due("copy(0, 1, " + i + ", " + j + ", " + n + ")", x.copy(0, 1, i, j, n), n);
        due("0 as it was", elements(x, 0, 4), "1 2 3 4");
        due("1 has", elements(x, 1, 3), want);
    }

    private static void notCopied(int i, int j, int n) {
        UnderNurseToTheTemper x = twoRows();
        due("copy(0, 1, " + i + ", " + j + ", " + n + ")", x.copy(0, 1, i, j, n), BAD);
        due("0 as it was", elements(x, 0, 4), "1 2 3 4");
        due("1 as it was", elements(x, 1, 3), "7 8 9");
        dueRefusals("one", x, "1 0 0 0 0");
    }

    private static void copy() {
        sentence("n elements of the ROW in SHELF p from place i on come to places j on of that in q: n");
        copied(0, 0, 3, "1 2 3");
        copied(1, 0, 3, "2 3 4");
        copied(3, 2, 1, "7 8 4");
        copied(2, 1, 2, "7 3 4");
        copied(0, 0, 0, "7 8 9");
        copied(4, 3, 0, "7 8 9");
        sentence("copy: BAD the others");
        int[][] bad = {{0, 0, 4}, {2, 0, 3}, {0, 1, 3}, {4, 0, 1}, {0, 3, 1}, {-1, 0, 1}, {0, -1, 1}, {0, 0, -1}, {5, 0, 0},
            {0, 4, 0}, {-1, 0, 0}, {0, -1, 0}, {0, 0, HIGH}, {HIGH, 0, 1}, {0, HIGH, 1}, {HIGH, HIGH, HIGH}, {1, 1, HIGH},
            {LOW, 0, 1}, {0, LOW, 1}, {0, 0, LOW}, {LOW, LOW, LOW}, {4, 3, -1}};
        for (int[] row : bad) {
            notCopied(row[0], row[1], row[2]);
        }
        sentence("(as they were)");
        UnderNurseToTheTemper x = twoRows();
        due("upward", x.copy(0, 0, 0, 1, 3), 3);
        due("as they were", elements(x, 0, 4), "1 1 2 3");
        due("downward", x.copy(0, 0, 1, 0, 3), 3);
        due("as they were", elements(x, 0, 4), "1 2 3 3");
        due("onto itself", x.copy(0, 0, 0, 0, 4), 4);
        due("as they were", elements(x, 0, 4), "1 2 3 3");
        x.row(2, 4, 40);
        x.row(3, 4, 40);
        x.set(2, 39, 1);
        due("forty", x.copy(2, 3, 0, 0, 40), 40);
        due("the last", x.element(3, 39), 1);
    }

    private static void copyRefused() {
        sentence("BAD SHELVES; OTHER (also ROWS of two SORTS, if both hold something); NOTHING; BAD the others");
        UnderNurseToTheTemper x = twoRows();
        x.show(2, 0);
        lay(x, 3, 2, 1, 2, 3);
        for (int s : OUTSIDE) {
            due("p " + s, x.copy(s, 1, 0, 0, 1), BAD);
            due("q " + s, x.copy(0, s, 0, 0, 1), BAD);
            due("p " + s + ", a KEEPER in q", x.copy(s, 2, 0, 0, 1), BAD);
            due("NOTHING in p, q " + s, x.copy(4, s, 0, 0, 1), BAD);
        }
        dueRefusals("sixteen", x, "16 0 0 0 0");
        int[][] other = {{2, 0}, {0, 2}, {2, 2}, {2, 4}, {4, 2}, {0, 3}, {3, 0}};
        for (int[] row : other) {
            due("from " + row[0] + " to " + row[1], x.copy(row[0], row[1], 0, 0, 1), OTHER);
            due("from " + row[0] + " to " + row[1] + ", n 99", x.copy(row[0], row[1], 0, 0, 99), OTHER);
        }
        dueRefusals("fourteen", x, "16 14 0 0 0");
        int[][] nothing = {{0, 4}, {4, 0}, {4, 4}, {4, 5}};
        for (int[] row : nothing) {
            due("from " + row[0] + " to " + row[1], x.copy(row[0], row[1], 0, 0, 1), NOTHING);
            due("from " + row[0] + " to " + row[1] + ", n -1", x.copy(row[0], row[1], 0, 0, -1), NOTHING);
        }
        dueRefusals("eight", x, "16 14 8 0 0");
        x.row(5, 3, 0);
        due("none from a ROW without elements, of another SORT", x.copy(5, 0, 0, 0, 0), OTHER);
        x.row(5, 1, 0);
        due("none from a ROW without elements", x.copy(5, 0, 0, 0, 0), 0);
        due("one from it", x.copy(5, 0, 0, 0, 1), BAD);
        due("rows as they were", elements(x, 0, 4) + " " + elements(x, 3, 3), "1 2 3 4 1 2 3");
    }

    // ---- holds, show, says ----

    private static void holds() {
        sentence("What SHELF s holds: NONE NOTHING, no SHELF; 0 to 4 a ROW by its SORT; 10 and the number of a KEEPER");
        UnderNurseToTheTemper x = fresh();
        for (int k = 0; k < 8; k++) {
            x.keeper(0, 0, 0);
            due("NOTHING", x.holds(k), NONE);
            due("show", x.show(k, k), 1);
            due("KEEPER " + k, x.holds(k), 10 + k);
        }
        for (int s : OUTSIDE) {
            due("SHELF " + s, x.holds(s), NONE);
        }
        dueRefusals("none", x, "0 0 0 0 0");
        sentence("SHELF s holds a KEEPER, or NOTHING (keeper NONE): 1. BAD");
        for (int s : OUTSIDE) {
            due("SHELF " + s, x.show(s, 0), BAD);
            due("NOTHING in SHELF " + s, x.show(s, NONE), BAD);
        }
        for (int k : new int[] {-2, 8, 10, LOW, HIGH}) {
            due("KEEPER " + k, x.show(0, k), BAD);
        }
        due("as it was", x.holds(0), 10);
        dueRefusals("thirteen", x, "13 0 0 0 0");
        due("NOTHING", x.show(0, NONE), 1);
        due("holds", x.holds(0), NONE);
        due("NOTHING again", x.show(0, NONE), 1);
        due("seven hold something", x.status(9), 7);
        due("one in two SHELVES", x.show(0, 7), 1);
        due("holds", x.holds(0) + x.holds(7), 34);
        x.row(1, 0, 3);
        due("instead of a ROW", x.show(1, 2), 1);
        due("no element any more", x.element(1, 0) + x.holds(1), 12);
        due("NOTHING instead of a ROW", x.row(1, 0, 3) + x.show(1, NONE), 2);
        due("holds", x.holds(1), NONE);
        due("without KEEPERS", fresh().show(0, 0), BAD);
    }

    private static void says() {
        sentence("OTHER (also if he is of no such KIND nor of one under it)");
        boolean[][] fits = {
            {true, false, false, false, false, false},
            {true, true, false, false, false, false},
            {true, false, true, false, false, false},
            {true, true, false, true, false, false},
            {true, false, true, false, true, false},
            {true, false, false, false, false, true}};
        for (int k = 0; k < 6; k++) {
            UnderNurseToTheTemper x = six();
            x.show(0, k);
            int others = 0;
            for (int kind = 0; kind < 6; kind++) {
                int answer = x.says(0, kind);
                due("KIND " + k + " taken for " + kind, answer < 0 ? answer : 0, fits[k][kind] ? 0 : OTHER);
                others += fits[k][kind] ? 0 : 1;
            }
            dueRefusals("KIND " + k, x, "0 " + others + " 0 0 0");
        }
        sentence("BAD SHELF, KIND; OTHER; NOTHING");
        UnderNurseToTheTemper x = six();
        x.show(0, 0);
        x.row(1, 0, 1);
        for (int s : OUTSIDE) {
            due("SHELF " + s, x.says(s, 0), BAD);
        }
        for (int kind : new int[] {-1, 6, LOW, HIGH}) {
            due("KIND " + kind, x.says(0, kind), BAD);
            due("KIND " + kind + " of a ROW", x.says(1, kind), BAD);
            due("KIND " + kind + " of NOTHING", x.says(2, kind), BAD);
        }
        due("a ROW", x.says(1, 0), OTHER);
        due("a ROW taken for a coward", x.says(1, 5), OTHER);
        due("NOTHING", x.says(2, 0), NOTHING);
        due("NOTHING taken for a coward", x.says(2, 5), NOTHING);
        dueRefusals("all", x, "16 2 2 0 0");
        sentence("KEEPER his NERVE");
        due("12", x.says(0, 0), 12);
        x.nerve(0, 40);
        due("as it is now", x.says(0, 0), 40);
    }

    // ---- image, back, status ----

    private static void back() {
        sentence("STUCK: nothing was");
        UnderNurseToTheTemper x = one(0, 1, 2);
        due("back()", x.back(), STUCK);
        due("back()", x.back(), STUCK);
        due("KEEPERS", x.status(0), 1);
        dueRefusals("two", x, "0 0 0 2 0");
        due("image()", x.image(), 1);
        due("back()", x.back(), 1);
        due("again", x.back(), 1);
        dueRefusals("no more", x, "0 0 0 2 0");
        sentence("SHELVES with KEEPERS hold those of the same numbers, or NOTHING");
        UnderNurseToTheTemper y = one(0, 1, 2);
        y.keeper(0, 3, 4);
        y.image();
        y.keeper(0, 5, 6);
        y.keeper(0, 7, 8);
        for (int k = 0; k < 4; k++) {
            y.show(k, k);
        }
        lay(y, 4, 0, 9, 9);
        y.nerve(1, 40);
        y.back();
        due("SHELVES", y.holds(0) + " " + y.holds(1) + " " + y.holds(2) + " " + y.holds(3), "10 11 -1 -1");
        due("three hold something", y.status(9), 3);
        due("the last who is there, as he was", y.says(1, 0), 4);
        due("a ROW goes on", elements(y, 4, 2), "9 9");
        y.keeper(3, 0, 0);
        due("one of that number comes, the SHELF holds NOTHING", y.holds(2), NONE);
        due("he is made anew", y.keeperOf(2, 0) * 10 + y.keeperOf(2, 2), 30);
        due("none of the next number", y.keeperOf(3, 0), BAD);
    }

    private static void kept() {
        sentence("All is kept, but THE TAPE, SHELVES and REFUSALS");
        UnderNurseToTheTemper x = one(0, 1, 0);
        put(x, 11, 22, 3, 44, 55);
        x.seed(66);
        x.order(0);
        x.feed('a');
        x.row(0, 0, 1);
        x.stays(9);
        x.image();
        put(x, 1, 2, 4, 5, 6);
        x.nerve(0, 7);
        x.order(NONE);
        x.keeper(0, 0, 0);
        x.nerve(0, 0);
        x.order(0);
        x.drawn(3);
        x.feed('b');
        x.row(1, 0, 1);
        x.stays(9);
        x.back();
        dueMeasures("as kept", x, "17 22 3 44 56");
        due("KEEPERS", x.status(0), 1);
        due("NERVE", x.keeperOf(0, 2), 0);
        due("FLED", x.keeperOf(0, 3) + x.status(6), 2);
        due("SEED", x.status(8), 66);
        due("THE TAPE goes on", x.status(7), 2);
        due("SHELVES go on", x.status(9), 2);
        dueRefusals("go on", x, "2 0 0 0 0");
        due("THE TAPE as it is", x.house(), -20);
        UnderNurseToTheTemper y = fresh();
        y.image();
        y.keeper(0, 0, 0);
        y.show(0, 0);
        y.show(7, 0);
        y.back();
        due("without KEEPERS, SHELVES hold NOTHING", y.holds(0) + " " + y.holds(7) + " " + y.status(9), "-1 -1 0");
        due("without KEEPERS", y.of(0), STUCK);
    }

    private static void status() {
        sentence("12 to 16: REFUSALS -2 to -6. NONE another what");
        UnderNurseToTheTemper x = fresh();
        for (int what : new int[] {-1, -2, 10, 11, 17, 18, 28, LOW, LOW + 12, HIGH, HIGH - 1}) {
            due("status(" + what + ")", x.status(what), NONE);
        }
        for (int what : new int[] {0, 9, 12, 16}) {
            due("status(" + what + ")", x.status(what), 0);
        }
        x.row(8, 0, 0);
        x.row(0, 0, 0);
        x.says(0, 0);
        x.says(0, 0);
        for (int i = 0; i < 3; i++) {
            x.says(1, 0);
        }
        for (int i = 0; i < 4; i++) {
            x.back();
        }
        for (int i = 0; i < 8; i++) {
            x.keeper(0, 0, 0);
        }
        for (int i = 0; i < 5; i++) {
            x.keeper(0, 0, 0);
        }
        dueRefusals("BAD, OTHER, NOTHING, STUCK, FULL", x, "1 2 3 4 5");
        sentence("all FLED together (6)");
        due("none", x.status(6), 0);
        x.order(0);
        x.order(7);
        x.order(7);
        due("three", x.status(6), 3);
        sentence("SEED (8)");
        due("1 at first", x.seed(-2), 1);
        due("any int, and it is no refusal", x.status(8), -2);
        due("any int, and it is no refusal", x.seed(LOW), -2);
        due("any int, and it is no refusal", x.seed(HIGH), LOW);
        due("any int, and it is no refusal", x.seed(0), HIGH);
        dueRefusals("as they were", x, "1 2 3 4 5");
    }

    private static void manyCalls() {
        sentence("An object is used for at most 512 calls after it has been made");
        UnderNurseToTheTemper x = one(0, 0, 0);
        for (int call = 2; call <= 510; call++) {
            x.order(0);
        }
        due("the 511th", x.keeperOf(0, 3), 509);
        due("the 512th", x.status(6), 509);
    }

    public static void main(String[] args) {
        rows();
        newRow();
        lowestBits();
        set();
        element();
        copy();
        copyRefused();
        holds();
        says();
        back();
        kept();
        status();
        manyCalls();
        finish("edges of SHELVES");
    }
}
