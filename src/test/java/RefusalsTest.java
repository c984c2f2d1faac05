import java.util.ArrayList;
import java.util.List;

/**
 * "The call answers the number; nothing changes but how many there were": each refusal that a promise names,
 * on a house whose twin is not asked; and each call that only tells, which changes nothing at all.
 */
public final class RefusalsTest extends Bench {
    private interface Maker {
        UnderNurseToTheTemper make();
    }

    /**
     * Six KEEPERS, a kept image that is otherwise, ROWS of all SORTS in SHELVES 0 to 4 (0 a ROSTER, 1 WRONG at 2,
     * 2 twos, 3 with a two that may not be), KEEPERS in 5 and 6, NOTHING in 7, a HOUSE on THE TAPE, all REFUSALS
     * but FULL told already.
     */
    private static UnderNurseToTheTemper furnished() {
        UnderNurseToTheTemper x = six();
        x.order(0);
        x.image();
        x.order(1);
        x.nerve(2, 21);
        x.seed(-5);
        put(x, 41, 71, 3, 52, 17);
        lay(x, 0, 0, 5, 0, MEETING, NONE, 3);
        lay(x, 1, 1, 5, 0, 6, NONE);
        lay(x, 2, 2, 5, 1, 0, 0, 3, 1);
        lay(x, 3, 3, 5, 1, 1L << 32, 1);
        lay(x, 4, 4, 1, 0, 1);
        x.show(5, 0);
        x.show(6, 5);
        feedAll(x, "calm 3;nerve 0 9");
        x.stays(99);
        x.says(0, 0);
        x.says(7, 0);
        x.matters(0, 0);
        return x;
    }

    /** Eight KEEPERS and a full TAPE. */
    private static UnderNurseToTheTemper crowded() {
        UnderNurseToTheTemper x = furnished();
        x.keeper(0, 1, 2);
        x.keeper(3, 4, 5);
        feedAll(x, " ".repeat(250 - x.status(7)));
        return x;
    }

    /** No KEEPERS, and nothing was kept. */
    private static UnderNurseToTheTemper bare() {
        UnderNurseToTheTemper x = fresh();
        x.seed(4);
        feedAll(x, "calm 3;hour 2");
        lay(x, 0, 0, NONE, MEETING);
        lay(x, 1, 0, 0, 1);
        return x;
    }

    private static void lookAtHouse(UnderNurseToTheTemper x, List<Long> seen) {
        for (int what = 0; what < 10; what++) {
            seen.add((long) x.status(what));
        }
        for (int k = 0; k < x.status(0); k++) {
            for (int what = 0; what < 4; what++) {
                seen.add((long) x.keeperOf(k, what));
            }
        }
        for (int s = 0; s < 8; s++) {
            seen.add((long) x.holds(s));
        }
    }

    /** All that can be seen of one, what stands on THE TAPE and what was kept as well; it is used up by this. */
    private static List<Long> lookAtAll(UnderNurseToTheTemper x) {
        List<Long> seen = new ArrayList<>();
        for (int what = 12; what <= 16; what++) {
            seen.add((long) x.status(what));
        }
        lookAtHouse(x, seen);
        for (int s = 0; s < 5; s++) {
            for (int i = 0; i < 6; i++) {
                seen.add(x.element(s, i));
            }
        }
        seen.add((long) x.house());
        seen.add((long) x.status(2));
        seen.add((long) x.drawn(1));
        seen.add((long) x.back());
        lookAtHouse(x, seen);
        return seen;
    }

    private static void refused(String name, Maker maker, int number, Call call) {
        UnderNurseToTheTemper asked = maker.make();
        due(name, call.on(asked), number);
        List<Long> want = lookAtAll(maker.make());
        want.set(BAD - number, want.get(BAD - number) + 1);
        due(name + ", all else", lookAtAll(asked).toString(), want.toString());
    }

    private static void refused(String name, int number, Call call) {
        refused(name, RefusalsTest::furnished, number, call);
    }

    private static void toldOnly(String name, Maker maker, long answer, Call call) {
        UnderNurseToTheTemper asked = maker.make();
        due(name, call.on(asked), answer);
        due(name + ", nothing changes", lookAtAll(asked).toString(), lookAtAll(maker.make()).toString());
    }

    // ---- promises 2 to 15 ----

    private static void shelves() {
        sentence("promise 2: BAD");
        refused("row(8, 0, 0)", BAD, x -> x.row(8, 0, 0));
        refused("row(0, 5, 0)", BAD, x -> x.row(0, 5, 0));
        refused("row(0, 0, 41)", BAD, x -> x.row(0, 0, 41));
        sentence("promise 3: BAD SHELF; OTHER; NOTHING; BAD i");
        refused("set(8, 0, 1)", BAD, x -> x.set(8, 0, 1));
        refused("set(5, 99, 1)", OTHER, x -> x.set(5, 99, 1));
        refused("set(7, 99, 1)", NOTHING, x -> x.set(7, 99, 1));
        refused("set(0, 5, 1)", BAD, x -> x.set(0, 5, 1));
        sentence("promise 4: BAD SHELVES; OTHER; NOTHING; BAD the others");
        refused("copy(8, 5, 0, 0, 1)", BAD, x -> x.copy(8, 5, 0, 0, 1));
        refused("copy(7, 8, 0, 0, 1)", BAD, x -> x.copy(7, 8, 0, 0, 1));
        refused("copy(7, 5, 0, 0, 1)", OTHER, x -> x.copy(7, 5, 0, 0, 1));
        refused("copy(0, 1, 99, 0, 1)", OTHER, x -> x.copy(0, 1, 99, 0, 1));
        refused("copy(0, 7, 99, 0, 1)", NOTHING, x -> x.copy(0, 7, 99, 0, 1));
        refused("copy(0, 0, 4, 0, 2)", BAD, x -> x.copy(0, 0, 4, 0, 2));
        refused("copy(0, 0, 0, 4, 2)", BAD, x -> x.copy(0, 0, 0, 4, 2));
        refused("copy(0, 0, 0, 0, -1)", BAD, x -> x.copy(0, 0, 0, 0, -1));
        sentence("promise 5: nothing is refused");
        toldOnly("element(8, 0)", RefusalsTest::furnished, 0, x -> x.element(8, 0));
        toldOnly("element(0, 5)", RefusalsTest::furnished, 0, x -> x.element(0, 5));
        toldOnly("element(5, 0)", RefusalsTest::furnished, 0, x -> x.element(5, 0));
        sentence("promise 6: NONE");
        toldOnly("holds(8)", RefusalsTest::furnished, NONE, x -> x.holds(8));
        toldOnly("holds(7)", RefusalsTest::furnished, NONE, x -> x.holds(7));
        sentence("promise 7: BAD");
        refused("show(8, 0)", BAD, x -> x.show(8, 0));
        refused("show(0, 6)", BAD, x -> x.show(0, 6));
        refused("show(5, -2)", BAD, x -> x.show(5, -2));
        sentence("promise 8: BAD SHELF, KIND; OTHER; NOTHING");
        refused("says(8, 0)", BAD, x -> x.says(8, 0));
        refused("says(7, 6)", BAD, x -> x.says(7, 6));
        refused("says(0, 0)", OTHER, x -> x.says(0, 0));
        refused("says(5, 1)", OTHER, x -> x.says(5, 1));
        refused("says(7, 0)", NOTHING, x -> x.says(7, 0));
    }

    private static void house() {
        sentence("promise 9: BAD; FULL");
        refused("keeper(6, 0, 0)", BAD, x -> x.keeper(6, 0, 0));
        refused("keeper(0, 10, 0)", BAD, x -> x.keeper(0, 10, 0));
        refused("keeper(0, 0, 41)", BAD, x -> x.keeper(0, 0, 41));
        refused("keeper(0, 0, 41)", RefusalsTest::crowded, BAD, x -> x.keeper(0, 0, 41));
        refused("keeper(0, 0, 40)", RefusalsTest::crowded, FULL, x -> x.keeper(0, 0, 40));
        sentence("promise 10: BAD");
        refused("nerve(6, 0)", BAD, x -> x.nerve(6, 0));
        refused("nerve(0, 41)", BAD, x -> x.nerve(0, 41));
        sentence("promise 11: BAD");
        refused("tell(5, 1)", BAD, x -> x.tell(5, 1));
        refused("tell(0, 100)", BAD, x -> x.tell(0, 100));
        refused("tell(4, 10000)", BAD, x -> x.tell(4, 10000));
        sentence("promise 12: BAD; FULL");
        refused("feed(256)", BAD, x -> x.feed(256));
        refused("feed(256)", RefusalsTest::crowded, BAD, x -> x.feed(256));
        refused("feed(255)", RefusalsTest::crowded, FULL, x -> x.feed(255));
        sentence("promise 14: -20 less the FAULT (that is refused, too: BAD). THE TAPE is empty then");
        UnderNurseToTheTemper faulty = furnished();
        faulty.feed('0');
        faulty.feed(';');
        due("house()", faulty.house(), -20 - "calm 3;nerve 0 90".length() + 2);
        UnderNurseToTheTemper wiped = furnished();
        wiped.wipe();
        List<Long> want = lookAtAll(wiped);
        want.set(0, want.get(0) + 1);
        due("all else", lookAtAll(faulty).toString(), want.toString());
        sentence("promise 15: BAD");
        refused("keeperOf(6, 0)", BAD, x -> x.keeperOf(6, 0));
        refused("keeperOf(0, 4)", BAD, x -> x.keeperOf(0, 4));
    }

    // ---- promises 16 to 20, 28 to 40 and 44 to 49 ----

    private static void hours() {
        sentence("promise 17: BAD");
        refused("stays(6)", BAD, x -> x.stays(6));
        sentence("promise 19: BAD");
        refused("after(6, 0)", BAD, x -> x.after(6, 0));
        refused("after(0, 4)", BAD, x -> x.after(0, 4));
        sentence("promise 20: BAD");
        refused("bestNow(3)", BAD, x -> x.bestNow(3));
        sentence("promise 24: BAD (also i below -2, or n or more)");
        refused("best(0, -1)", BAD, x -> x.best(0, -1));
        refused("best(5, 0)", BAD, x -> x.best(5, 0));
        refused("best(2, -3)", BAD, x -> x.best(2, -3));
        refused("best(2, 2)", BAD, x -> x.best(2, 2));
        sentence("promise 28: BAD");
        refused("settles(6)", BAD, x -> x.settles(6));
        sentence("promise 29: BAD");
        refused("over(6, 0)", BAD, x -> x.over(6, 0));
        refused("over(0, 5)", BAD, x -> x.over(0, 5));
        sentence("promise 31: BAD; STUCK: no KEEPERS");
        refused("odds(4, 0)", BAD, x -> x.odds(4, 0));
        refused("odds(0, 2)", RefusalsTest::bare, BAD, x -> x.odds(0, 2));
        refused("odds(3, 0)", RefusalsTest::bare, STUCK, x -> x.odds(3, 0));
        sentence("promises 32 to 38: BAD");
        refused("flees(6)", BAD, x -> x.flees(6));
        refused("needs(6)", BAD, x -> x.needs(6));
        refused("until(6, 0)", BAD, x -> x.until(6, 0));
        refused("until(0, 100)", BAD, x -> x.until(0, 100));
        refused("first(6, 0)", BAD, x -> x.first(6, 0));
        refused("first(0, 6)", BAD, x -> x.first(0, 6));
        refused("byTurns(6, 0)", BAD, x -> x.byTurns(6, 0));
        refused("byTurns(0, 49)", BAD, x -> x.byTurns(0, 49));
        refused("harms(6, 0)", BAD, x -> x.harms(6, 0));
        refused("harms(0, 49)", BAD, x -> x.harms(0, 49));
        sentence("promise 39: STUCK: no KEEPERS");
        refused("starts()", RefusalsTest::bare, STUCK, x -> x.starts());
        sentence("promise 40: BAD; STUCK: no KEEPERS");
        refused("of(3)", RefusalsTest::bare, BAD, x -> x.of(3));
        refused("of(0)", RefusalsTest::bare, STUCK, x -> x.of(0));
        sentence("promises 44 to 49: BAD");
        refused("better(6, 0)", BAD, x -> x.better(6, 0));
        refused("better(0, 6)", BAD, x -> x.better(0, 6));
        refused("still(6)", BAD, x -> x.still(6));
        refused("calmFor(100)", BAD, x -> x.calmFor(100));
        refused("grown(6)", BAD, x -> x.grown(6));
        refused("brave(100)", BAD, x -> x.brave(100));
        refused("ofKind(6)", BAD, x -> x.ofKind(6));
    }

    // ---- promises 21 to 23, 25 to 27, 41 to 43, 50 to 52 and 55 ----

    private interface OnRow {
        int on(UnderNurseToTheTemper x, int s, int n);
    }

    private static void rosterOf(String name, boolean isJudge, OnRow call) {
        refused(name + ", SHELF 8", BAD, x -> call.on(x, 8, 1));
        refused(name + ", n 41 of a KEEPER's", BAD, x -> call.on(x, 5, 41));
        refused(name + ", n -1 of NOTHING", BAD, x -> call.on(x, 7, -1));
        refused(name + ", a KEEPER's", OTHER, x -> call.on(x, 5, 1));
        refused(name + ", NOTHING", NOTHING, x -> call.on(x, 7, 1));
        refused(name + ", fewer elements, WRONG as well", BAD, x -> call.on(x, 1, 5));
        if (isJudge) {
            toldOnly(name + ", WRONG", RefusalsTest::furnished, 2, x -> call.on(x, 1, 4));
        } else {
            refused(name + ", WRONG", STUCK, x -> call.on(x, 1, 4));
        }
    }

    private static void twosOf(String name, OnRow call) {
        refused(name + ", SHELF 8", BAD, x -> call.on(x, 8, 1));
        refused(name + ", n 21 of a KEEPER's", BAD, x -> call.on(x, 5, 21));
        refused(name + ", n -1 of NOTHING", BAD, x -> call.on(x, 7, -1));
        refused(name + ", a KEEPER's", OTHER, x -> call.on(x, 5, 1));
        refused(name + ", NOTHING", NOTHING, x -> call.on(x, 7, 1));
        refused(name + ", fewer elements, a bad two as well", BAD, x -> call.on(x, 3, 3));
        refused(name + ", a two that may not be", STUCK, x -> call.on(x, 3, 2));
    }

    private static void rosters() {
        sentence("BAD SHELF, n, what; OTHER; NOTHING; BAD: fewer elements; STUCK: it is WRONG");
        rosterOf("behind", false, (x, s, n) -> x.behind(s, n, 0));
        refused("behind, what 5 of a KEEPER's", BAD, x -> x.behind(5, 1, 5));
        rosterOf("unkept", false, (x, s, n) -> x.unkept(s, n));
        rosterOf("judge", true, (x, s, n) -> x.judge(s, n));
        rosterOf("way", false, (x, s, n) -> x.way(s, n, 0));
        refused("way, what 3 of a KEEPER's", BAD, x -> x.way(5, 1, 3));
        rosterOf("matters", false, (x, s, n) -> x.matters(s, n));
        refused("matters, n 0", STUCK, x -> x.matters(0, 0));
        rosterOf("instead", false, (x, s, n) -> x.instead(s, n, 0));
        refused("instead, place 1 of 1 of a KEEPER's", BAD, x -> x.instead(5, 1, 1));
        refused("instead, place -1 of NOTHING", BAD, x -> x.instead(7, 1, -1));
        rosterOf("done", false, (x, s, n) -> x.done(s, n));
        sentence("BAD SHELF, n, keeper, what; OTHER; NOTHING; BAD: fewer elements; STUCK: a two that may not be");
        twosOf("rages", (x, s, n) -> x.rages(s, n, 0));
        refused("rages, what 3 of a KEEPER's", BAD, x -> x.rages(5, 1, 3));
        twosOf("nerves", (x, s, n) -> x.nerves(s, n, 0, 0));
        refused("nerves, keeper 6 of NOTHING", BAD, x -> x.nerves(7, 1, 6, 0));
        refused("nerves, what 3 of a KEEPER's", BAD, x -> x.nerves(5, 1, 0, 3));
        twosOf("send", (x, s, n) -> x.send(s, n));
        sentence("promise 50: BAD");
        refused("order(6)", BAD, x -> x.order(6));
        refused("order(-2)", BAD, x -> x.order(-2));
        sentence("promise 52: BAD");
        refused("drawn(0)", BAD, x -> x.drawn(0));
        refused("drawn(61)", BAD, x -> x.drawn(61));
        sentence("promise 55: STUCK: nothing was");
        refused("back()", RefusalsTest::bare, STUCK, x -> x.back());
        sentence("promise 56: NONE another what");
        toldOnly("status(17)", RefusalsTest::furnished, NONE, x -> x.status(17));
    }

    // ---- (NONE isn't refused), and nothing is changed ----

    private static void notRefused() {
        sentence("(NONE isn't refused.)");
        toldOnly("unkept", RefusalsTest::furnished, NONE, x -> x.unkept(0, 1));
        toldOnly("judge", RefusalsTest::furnished, NONE, x -> x.judge(0, 5));
        toldOnly("best", RefusalsTest::bare, NONE, x -> x.best(4, 0));
        toldOnly("rages, the least", RefusalsTest::furnished, NONE, x -> byFledNurse(x, y -> y.rages(2, 1, 1)));
        toldOnly("rages, the greatest", RefusalsTest::furnished, NONE, x -> byFledNurse(x, y -> y.rages(2, 1, 2)));
        toldOnly("nerves, the least", RefusalsTest::furnished, NONE, x -> byFledNurse(x, y -> y.nerves(2, 1, 3, 1)));
        toldOnly("nerves, the greatest", RefusalsTest::furnished, NONE, x -> byFledNurse(x, y -> y.nerves(2, 1, 0, 2)));
        toldOnly("send of none", RefusalsTest::furnished, NONE, x -> byFledNurse(x, y -> y.send(2, 1)));
        toldOnly("send without KEEPERS", RefusalsTest::bare, NONE, x -> x.send(0, 0));
        toldOnly("flees of a nurse", RefusalsTest::furnished, NONE, x -> x.flees(3));
        toldOnly("until", RefusalsTest::furnished, NONE, x -> x.until(NONE, 40));
        toldOnly("calmFor", RefusalsTest::furnished, NONE, x -> x.calmFor(30));
        toldOnly("grown", RefusalsTest::furnished, NONE, x -> x.grown(MEETING));
        toldOnly("bestNow", RefusalsTest::furnished, NONE, x -> x.bestNow(2));
        toldOnly("safest", RefusalsTest::bare, MEETING, x -> x.safest());
        toldOnly("meetings", RefusalsTest::furnished, 0, x -> x.meetings());
        UnderNurseToTheTemper y = one(5, 0, 0);
        put(y, 60, 20, 9, 50, 1);
        due("needs", y.needs(0), NONE);
        due("meetings", y.meetings(), NONE);
        lay(y, 0, 0, NONE);
        due("instead", y.instead(0, 1, 0), MEETING);
        put(y, 10, 90, 1, 50, 1);
        due("instead", y.instead(0, 1, 0), NONE);
        dueRefusals("none", y, "0 0 0 0 0");
    }

    /** Asked while SHELF 2 tells of a nurse who FLED, by which nothing fits; the ROW is then as it was. */
    private static long byFledNurse(UnderNurseToTheTemper x, Call call) {
        x.set(2, 0, 3);
        x.set(2, 1, 0);
        long answer = call.on(x);
        x.set(2, 0, 5);
        x.set(2, 1, 1);
        return answer;
    }

    private static void onlyTold() {
        sentence("WHAT COMES OF IT (nothing is changed)");
        toldOnly("fright", RefusalsTest::furnished, 16, x -> x.fright());
        toldOnly("stays", RefusalsTest::furnished, 0, x -> x.stays(0));
        toldOnly("staying", RefusalsTest::furnished, 60, x -> x.staying());
        toldOnly("after", RefusalsTest::furnished, 47, x -> x.after(0, 0));
        toldOnly("bestNow", RefusalsTest::furnished, 4, x -> x.bestNow(0));
        toldOnly("behind", RefusalsTest::furnished, 1, x -> x.behind(0, 2, 4));
        toldOnly("unkept", RefusalsTest::furnished, 1, x -> x.unkept(0, 2));
        toldOnly("best", RefusalsTest::furnished, 0, x -> x.best(4, -2));
        toldOnly("rages", RefusalsTest::furnished, 52, x -> x.rages(2, 1, 0));
        toldOnly("nerves", RefusalsTest::furnished, 41, x -> x.nerves(2, 1, 0, 0));
        toldOnly("send", RefusalsTest::furnished, 0, x -> x.send(2, 1));
        // 31, 24, 18, 14 (HOUR 20), 11, 9, 7, 6 (24), 5, 4, 3, 3 (28, where GROWTH goes on), 3.
        toldOnly("settles", RefusalsTest::furnished, 13, x -> x.settles(2));
        toldOnly("over", RefusalsTest::furnished, 41, x -> x.over(0, 0));
        toldOnly("odds", RefusalsTest::furnished, 0, x -> x.odds(1, 0));
        toldOnly("flees", RefusalsTest::furnished, 30, x -> x.flees(0));
        toldOnly("needs", RefusalsTest::furnished, 16, x -> x.needs(0));
        toldOnly("until", RefusalsTest::furnished, 1, x -> x.until(4, 40));
        toldOnly("first", RefusalsTest::furnished, 2, x -> x.first(0, 1));
        toldOnly("byTurns", RefusalsTest::furnished, 47, x -> x.byTurns(0, 1));
        toldOnly("harms", RefusalsTest::furnished, 1, x -> x.harms(0, 2));
        toldOnly("of", RefusalsTest::furnished, 0, x -> x.of(2));
        toldOnly("way", RefusalsTest::furnished, 54, x -> x.way(0, 2, 0));
        toldOnly("matters", RefusalsTest::furnished, 0, x -> x.matters(0, 1));
        toldOnly("instead", RefusalsTest::furnished, 4, x -> x.instead(0, 2, 0));
        toldOnly("better", RefusalsTest::furnished, 100, x -> x.better(3, NONE));
        toldOnly("still", RefusalsTest::furnished, 99, x -> x.still(NONE));
        toldOnly("brave", RefusalsTest::furnished, 63, x -> x.brave(0));
        toldOnly("ofKind", RefusalsTest::furnished, 1, x -> x.ofKind(5));
        toldOnly("keeperOf", RefusalsTest::furnished, 21, x -> x.keeperOf(2, 2));
        toldOnly("holds", RefusalsTest::furnished, 15, x -> x.holds(6));
        toldOnly("says", RefusalsTest::furnished, 48, x -> x.says(6, 5));
        toldOnly("element", RefusalsTest::furnished, 1L << 32, x -> x.element(3, 2));
        toldOnly("status", RefusalsTest::furnished, -5, x -> x.status(8));
    }

    public static void main(String[] args) {
        shelves();
        house();
        hours();
        rosters();
        notRefused();
        onlyTold();
        finish("refusals");
    }
}
