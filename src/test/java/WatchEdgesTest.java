/** The boundaries of ORDERS over and over, ODDS, turns, and of what would be otherwise: promises 28 to 40, 44 to 49, 52, 53. */
public final class WatchEdgesTest extends Bench {
    private interface ByOrder {
        int by(UnderNurseToTheTemper x, int order);
    }

    private interface ByNumber {
        int by(UnderNurseToTheTemper x, int number);
    }

    /** COWARDS who STAY below BAR and add each his own to RAGE. */
    private static UnderNurseToTheTemper cowards(int rage, int bar, int... adding) {
        UnderNurseToTheTemper x = fresh();
        for (int a : adding) {
            x.keeper(5, a, 40);
        }
        put(x, rage, 60, 1, bar, 1);
        return x;
    }

    /** What may be an ORDER, and what may not, by none, one and eight KEEPERS. */
    private static void orders(String name, ByOrder call) {
        for (int count : new int[] {0, 1, 8}) {
            UnderNurseToTheTemper x = fresh();
            for (int k = 0; k < count; k++) {
                x.keeper(3, 1, 0);
            }
            int refused = 0;
            for (int order = -3; order <= 12; order++) {
                boolean may = order == NONE || order == MEETING || order >= 0 && order < count;
                int answer = call.by(x, order);
                due(name + " by " + order + " of " + count, answer >= NONE ? NONE : answer, may ? NONE : BAD);
                refused += may ? 0 : 1;
            }
            due(name + " by the lowest int", call.by(x, LOW), BAD);
            due(name + " by the highest int", call.by(x, HIGH), BAD);
            dueRefusals(name, x, (refused + 2) + " 0 0 0 0");
            dueMeasures(name + " changed nothing", x, "20 60 1 50 0");
        }
    }

    /** A number from a least to a most; what is answered for these is NONE or more. */
    private static void numbers(String name, int least, int most, ByNumber call) {
        UnderNurseToTheTemper x = six();
        int refused = 0;
        for (int number : new int[] {LOW, least - 2, least - 1, least, least + 1, most - 1, most, most + 1, most + 2, HIGH}) {
            boolean may = number >= least && number <= most;
            int answer = call.by(x, number);
            due(name + " by " + number, answer >= NONE ? NONE : answer, may ? NONE : BAD);
            refused += may ? 0 : 1;
        }
        dueRefusals(name, x, refused + " 0 0 0 0");
        dueMeasures(name + " changed nothing", x, "44 70 2 50 8");
    }

    private static void arguments() {
        sentence("with an ORDER: BAD");
        orders("settles", (x, order) -> x.settles(order));
        orders("over", (x, order) -> x.over(order, 0));
        orders("until", (x, order) -> x.until(order, 99));
        orders("first, one", (x, order) -> x.first(order, NONE));
        orders("first, other", (x, order) -> x.first(NONE, order));
        orders("better, one", (x, order) -> x.better(order, NONE));
        orders("better, other", (x, order) -> x.better(NONE, order));
        orders("still", (x, order) -> x.still(order));
        orders("grown", (x, order) -> x.grown(order));
        sentence("a KEEPER: BAD");
        numbers("flees", 0, 5, (x, k) -> x.flees(k));
        numbers("needs", 0, 5, (x, k) -> x.needs(k));
        numbers("byTurns", 0, 5, (x, k) -> x.byTurns(k, 1));
        numbers("harms", 0, 5, (x, k) -> x.harms(k, 1));
        sentence("what: BAD");
        numbers("over", 0, 4, (x, what) -> x.over(0, what));
        numbers("odds", 0, 1, (x, what) -> x.odds(1, what));
        numbers("of", 0, 2, (x, what) -> x.of(what));
        sentence("ODDS for t HOURS (0 to 3)");
        numbers("odds", 0, 3, (x, t) -> x.odds(t, 0));
        sentence("RAGE is first v (0 to 99) or less");
        numbers("until", 0, 99, (x, v) -> x.until(3, v));
        sentence("n HOURS (0 to 48)");
        numbers("byTurns", 0, 48, (x, n) -> x.byTurns(0, n));
        numbers("harms", 0, 48, (x, n) -> x.harms(0, n));
        sentence("a MEETING now leaves RAGE v (0 to 99) at most");
        numbers("calmFor", 0, 99, (x, v) -> x.calmFor(v));
        sentence("if RAGE were so much (0 to 99)");
        numbers("brave", 0, 99, (x, rage) -> x.brave(rage));
        sentence("How many KEEPERS are of just a KIND. BAD");
        numbers("ofKind", 0, 5, (x, kind) -> x.ofKind(kind));
    }

    // ---- one ORDER over and over ----

    private static void settles() {
        sentence("SETTLES: behind how many HOURS (1 on) they are for the first time as they were an HOUR ahead");
        due("RAGE 0 at once", house(0, 1, 40, 0, 60, 1, 50, 1).settles(0), 1);
        due("RAGE 1", house(0, 1, 40, 1, 60, 1, 50, 1).settles(0), 2);
        due("RAGE 99", house(0, 1, 40, 99, 0, 1, 50, 1).settles(0), 100);
        due("RAGE alone stands, CALM 1", house(0, 0, 40, 50, 1, 1, 50, 1).settles(0), 2);
        due("RAGE alone stands, CALM 0", house(0, 0, 40, 50, 0, 1, 50, 1).settles(0), 1);
        due("RAGE alone stands, CALM 99", house(0, 0, 40, 50, 99, 1, 50, 1).settles(0), 100);
        due("GROWTH goes on alone", house(2, 0, 40, 0, 60, 8, 50, 4).settles(0), 2);
        due("GROWTH can't go on", house(2, 0, 40, 0, 60, 9, 50, 4).settles(0), 1);
        due("GROWTH alone, by nobody", house(0, 0, 0, 99, 0, 8, 50, 12).settles(NONE), 2);
        // RAGE is 99 behind 99 HOURS, CALM 0 behind 197.
        due("very long", house(5, 1, 40, 0, 99, 1, 99, 0).settles(0), 198);
        UnderNurseToTheTemper x = house(5, 1, 40, 0, 98, 1, 99, 0);
        due("one HOUR less", x.settles(0), 197);
        dueMeasures("nothing is changed", x, "0 98 1 99 0");
        due("nobody FLED", x.status(6), 0);
    }

    private static void over() {
        sentence("LOWEST: the least RAGE behind 0 to 48 HOURS");
        due("0 behind 48", house(0, 1, 40, 48, 60, 1, 99, 1).over(0, 0), 0);
        due("1 behind 48", house(0, 1, 40, 49, 60, 1, 99, 1).over(0, 0), 1);
        due("2 behind 48", house(0, 1, 40, 50, 60, 1, 99, 1).over(0, 0), 2);
        due("it is now", cowards(7, 99, 1).over(0, 0), 7);
        sentence("SAFE: how many HOURS (0 to 48) pass ahead of the first HARM (48: none)");
        due("a HARM in the first", cowards(50, 51, 1).over(0, 1), 0);
        due("a HARM in the second", cowards(49, 51, 1).over(0, 1), 1);
        due("a HARM in the 47th", cowards(52, 99, 1).over(0, 1), 46);
        due("a HARM in the 48th", cowards(51, 99, 1).over(0, 1), 47);
        due("a HARM in the 49th", cowards(50, 99, 1).over(0, 1), 48);
        due("none for long", cowards(0, 99, 1).over(0, 1), 48);
        due("a HARM now is none behind an HOUR", house(0, 1, 40, 50, 60, 1, 50, 1).over(0, 1), 48);
        sentence("RAGE (2), CALM (3), GROWTH (4) behind 48 HOURS");
        due("RAGE", cowards(50, 99, 1).over(0, 2), 98);
        due("RAGE, 99", cowards(51, 99, 1).over(0, 2), 99);
        due("CALM without a HARM", cowards(50, 99, 1).over(0, 3), 60);
        due("CALM with one HARM", cowards(51, 99, 1).over(0, 3), 59);
        due("CALM with a HARM each", house(0, 0, 40, 50, 60, 1, 50, 1).over(0, 3), 12);
        due("CALM with a HARM each, 0 at least", house(0, 0, 40, 50, 47, 1, 50, 1).over(0, 3), 0);
        due("GROWTH, HOURS 0 to 47", fresh().over(NONE, 4), 5);
        due("GROWTH, HOURS 1 to 48", house(0, 0, 0, 20, 60, 1, 50, 1).over(NONE, 4), 5);
        due("GROWTH, HOURS 13 to 60", house(0, 0, 0, 20, 60, 1, 50, 13).over(NONE, 4), 5);
        due("GROWTH, HOUR 9996 and no more", house(0, 0, 0, 20, 60, 1, 50, 9990).over(NONE, 4), 2);
        sentence("The ORDER by which it is SAFE longest, of several the first (NONE, KEEPERS by numbers, 10)");
        due("none is SAFE", house(0, 0, 40, 99, 99, 1, 50, 1).safest(), NONE);
        due("all are SAFE", house(0, 0, 40, 0, 0, 1, 99, 1).safest(), 0);
        due("a MEETING for 48, and 47 at most by the others", cowards(51, 99, 2, 1).safest(), MEETING);
        UnderNurseToTheTemper x = cowards(50, 99, 9, 1, 0);
        x.tell(1, 99);
        due("of three the second and the third, and a MEETING", x.safest(), 1);
        UnderNurseToTheTemper y = cowards(51, 99, 1, 0);
        due("47, and 48 by the next", y.safest(), 1);
        due("nobody there", fresh().safest(), MEETING);
        UnderNurseToTheTemper z = house(0, 0, 40, 0, 99, 1, 99, 9999);
        due("nobody, 2 each HOUR, is SAFE for 48", z.over(NONE, 1), 48);
        due("of all the first", z.safest(), NONE);
    }

    private static void until() {
        sentence("Behind how many HOURS (0 to 200) RAGE is first v (0 to 99) or less; NONE");
        UnderNurseToTheTemper x = house(0, 1, 40, 99, 60, 1, 99, 1);
        due("99 or less is now", x.until(0, 99), 0);
        due("98", x.until(0, 98), 1);
        due("1", x.until(0, 1), 98);
        due("0", x.until(0, 0), 99);
        due("as it is now", house(0, 1, 40, 30, 60, 1, 99, 1).until(0, 30), 0);
        due("less than v is enough", house(0, 9, 40, 30, 60, 1, 99, 1).until(0, 22), 1);
        due("one less", house(0, 9, 40, 30, 60, 1, 99, 1).until(0, 20), 2);
        UnderNurseToTheTemper y = fresh();
        put(y, 99, 99, 1, 1, 0);
        // RAGE and CALM together are 198, and one less each HOUR: they are 3 and 0 behind 195.
        due("MEETINGS go on long", y.until(MEETING, 3), 195);
        due("and no further", y.until(MEETING, 2), NONE);
        due("nobody", y.until(NONE, 98), NONE);
        dueRefusals("NONE isn't refused", y, "0 0 0 0 0");
        sentence("Behind how many HOURS (0 to 200), with an ORDER over and over, GROWTH is 9; NONE");
        due("now", house(0, 0, 0, 20, 60, 9, 50, 1).grown(MEETING), 0);
        due("GROWTH 8, HOUR 12", house(0, 0, 0, 20, 60, 8, 50, 12).grown(NONE), 1);
        due("GROWTH 8, HOUR 13", house(0, 0, 0, 20, 60, 8, 50, 13).grown(NONE), 12);
        due("GROWTH 8, HOUR 11", house(0, 0, 0, 20, 60, 8, 50, 11).grown(NONE), 2);
        due("never by a MEETING", house(0, 0, 0, 20, 60, 8, 50, 0).grown(MEETING), NONE);
        due("never by one who STAYS", house(0, 0, 40, 20, 60, 8, 50, 0).grown(0), NONE);
        due("a feeder", house(2, 0, 40, 20, 60, 8, 50, 1).grown(0), 4);
        due("HOUR 9996 is the last", house(0, 0, 0, 20, 60, 8, 50, 9996).grown(NONE), 1);
        due("HOUR 9997 is too late", house(0, 0, 0, 20, 60, 8, 50, 9997).grown(NONE), NONE);
        // He STAYS for 99 HOURS and FLEES from HOUR 109 on; the eighth multiple of 12 is HOUR 204.
        UnderNurseToTheTemper z = house(5, 1, 40, 0, 60, 1, 99, 10);
        due("very long", z.grown(0), 195);
        z.tell(2, 2);
        due("one multiple fewer", z.grown(0), 183);
        dueMeasures("nothing is changed", z, "0 60 2 99 10");
    }

    private static void meetings() {
        sentence("How many MEETINGS (0 to 200) till RAGE is no more than CALM; NONE");
        int[][] want = {{59, 60, 0}, {60, 60, 0}, {61, 60, NONE}, {63, 60, NONE}, {64, 60, NONE}, {0, 0, 0}, {1, 0, NONE},
            {99, 99, 0}, {99, 98, NONE}, {99, 0, NONE}, {0, 99, 0}};
        UnderNurseToTheTemper x = fresh();
        for (int[] row : want) {
            put(x, row[0], row[1], 1, 99, 1);
            due("RAGE " + row[0] + ", CALM " + row[1], x.meetings(), row[2]);
        }
        dueRefusals("NONE isn't refused", x, "0 0 0 0 0");
    }

    // ---- ODDS ----

    private static void odds() {
        sentence("of 1,000,000 (cut), how likely there is a HARM; 1000 times the mean of RAGE behind them (cut)");
        UnderNurseToTheTemper x = cowards(20, 22, 2, 0, 0);
        due("t 0", x.odds(0, 0) + " " + x.odds(0, 1), "0 20000");
        due("a third, 20 2/3", x.odds(1, 0) + " " + x.odds(1, 1), "333333 20666");
        UnderNurseToTheTemper y = cowards(20, 22, 0, 2, 2);
        due("two thirds, 21 1/3", y.odds(1, 0) + " " + y.odds(1, 1), "666666 21333");
        due("t 0 at BAR is no HARM", cowards(22, 22, 0).odds(0, 0), 0);
        UnderNurseToTheTemper z = cowards(20, 30, 5, 0, 0, 0, 0, 0, 0, 0);
        due("two of eight twice", z.odds(2, 0), 1000000 / 64);
        // The first two HOURS, the last two, the first and the last, or all: 7 and 7 and 7 and 1 of 512.
        due("two of three", z.odds(3, 0), 42968);
        z.tell(3, 35);
        due("all three, one of 512", z.odds(3, 0), 1953);
        due("all three, mean", z.odds(3, 1), 21875);
        z.tell(3, 36);
        due("never", z.odds(3, 0), 0);
        z.tell(3, 20);
        due("for sure", z.odds(3, 0), 1000000);
        dueRefusals("none", z, "0 0 0 0 0");
        UnderNurseToTheTemper alone = cowards(20, 26, 5);
        alone.over(NONE, 0);
        // 25, 30, where he flees: 32.
        String[] one = {"0 20000", "0 25000", "1000000 30000", "1000000 32000"};
        for (int t = 0; t <= 3; t++) {
            due("one KEEPER, t " + t, alone.odds(t, 0) + " " + alone.odds(t, 1), one[t]);
        }
        sentence("how likely there is a HARM: one behind any HOUR");
        UnderNurseToTheTemper w = cowards(20, 25, 5);
        w.keeper(0, 9, 40);
        // 25 is a HARM in the first HOUR, though RAGE may be 16 behind the next; 11 and 16 are none.
        due("half", w.odds(2, 0), 500000);
        sentence("BAD; STUCK: no KEEPERS");
        UnderNurseToTheTemper none = fresh();
        for (int t = -1; t <= 4; t++) {
            boolean may = t >= 0 && t <= 3;
            due("t " + t, none.odds(t, 0), may ? STUCK : BAD);
            due("t " + t + ", what 2", none.odds(t, 2), BAD);
        }
        dueRefusals("BAD comes first", none, "8 0 0 4 0");
    }

    // ---- least RAGES and NERVES ----

    private static void flees() {
        sentence("The least RAGE (0 to 99), all else as it is, by which a KEEPER doesn't STAY; NONE");
        int[][] want = {{0, 0, 0}, {0, 1, 3}, {0, 2, 6}, {0, 33, 99}, {0, 34, NONE}, {4, 0, 0}, {4, 16, 96}, {4, 17, NONE},
            {3, 0, NONE}, {5, 40, 50}, {5, 17, 50}, {5, 16, 48}, {5, 0, 0}};
        for (int[] row : want) {
            UnderNurseToTheTemper x = one(row[0], 0, row[1]);
            x.tell(0, 77);
            due("KIND " + row[0] + ", NERVE " + row[1], x.flees(0), row[2]);
            due("RAGE as it was", x.status(1), 77);
            dueRefusals("NONE isn't refused", x, "0 0 0 0 0");
        }
        UnderNurseToTheTemper y = one(5, 0, 40);
        y.tell(3, 99);
        due("BAR 99", y.flees(0), 99);
        y.tell(3, 1);
        due("BAR 1", y.flees(0), 1);
        sentence("The least NERVE (0 to 40), all else as it is, by which a KEEPER STAYS; NONE");
        int[][] least = {{0, 0, 1, 1}, {0, 99, 7, 40}, {0, 99, 8, NONE}, {4, 99, 9, 21}, {4, 3, 1, 1}, {4, 0, 1, 1},
            {3, 99, 9, 0}, {5, 49, 1, 17}, {5, 50, 1, NONE}, {2, 99, 7, 40}};
        for (int[] row : least) {
            UnderNurseToTheTemper x = house(row[0], 0, 5, row[1], 60, row[2], 50, 1);
            due("KIND " + row[0] + ", RAGE " + row[1] + ", GROWTH " + row[2], x.needs(0), row[3]);
            due("NERVE as it was", x.keeperOf(0, 2), 5);
            dueRefusals("NONE isn't refused", x, "0 0 0 0 0");
        }
        due("a singer whose a is enough", house(1, 9, 5, 24, 60, 1, 50, 1).needs(0), 0);
        due("a singer whose a isn't", house(1, 9, 5, 27, 60, 1, 50, 1).needs(0), 1);
    }

    private static void still() {
        sentence("The least RAGE (0 to 99), all else as it is, that is the same behind the next HOUR by an ORDER; NONE");
        due("0", house(0, 9, 40, 77, 60, 1, 50, 1).still(0), 0);
        due("0 by a singer, too", house(1, 0, 40, 77, 60, 1, 50, 1).still(0), 0);
        due("99 by nobody", house(0, 0, 0, 77, 60, 1, 50, 1).still(NONE), 99);
        due("99 by a coward", house(5, 9, 40, 77, 60, 1, 50, 1).still(0), 99);
        due("a MEETING, 3 below CALM", house(0, 0, 0, 77, 60, 1, 50, 1).still(MEETING), 57);
        due("a MEETING by CALM 3", house(0, 0, 0, 77, 3, 1, 50, 1).still(MEETING), 0);
        due("a MEETING by CALM 4", house(0, 0, 0, 77, 4, 1, 50, 1).still(MEETING), 1);
        due("a MEETING by CALM 99", house(0, 0, 0, 77, 99, 1, 50, 1).still(MEETING), 96);
        UnderNurseToTheTemper x = house(5, 9, 40, 77, 60, 1, 50, 1);
        due("RAGE as it was", x.still(0) * 0 + x.status(1), 77);
        sentence("By how many RAGES (0 to 99), all else as it is, one ORDER leaves less RAGE than another");
        UnderNurseToTheTemper y = house(3, 9, 0, 77, 60, 1, 50, 1);
        due("all", y.better(0, NONE), 100);
        due("none", y.better(NONE, 0), 0);
        due("the same", y.better(0, 0), 0);
        y.keeper(0, 0, 40);
        due("all but 0, where both leave 0", y.better(0, 1), 99);
        y.keeper(0, 0, 33);
        due("99 alone, where the other flees, leaves 99 as well", y.better(1, 2), 0);
        y.nerve(2, 32);
        due("96, 97 and 98, where the other flees", y.better(1, 2), 3);
    }

    private static void calmFor() {
        sentence("The least CALM (0 to 99), all else as it is, by which a MEETING now leaves RAGE v (0 to 99) at most; NONE");
        int[][] want = {{99, 75, 0}, {99, 74, NONE}, {99, 99, 0}, {0, 0, 0}, {3, 3, 0}, {3, 2, NONE}, {4, 3, 0}, {4, 2, NONE}};
        for (int[] row : want) {
            UnderNurseToTheTemper x = fresh();
            x.tell(0, row[0]);
            due("RAGE " + row[0] + ", v " + row[1], x.calmFor(row[1]), row[2]);
            dueMeasures("nothing is changed", x, row[0] + " 60 1 50 0");
            dueRefusals("NONE isn't refused", x, "0 0 0 0 0");
        }
        sentence("KEEPERS (bits) who would STAY, if RAGE were so much (0 to 99), all else as it is");
        UnderNurseToTheTemper x = one(0, 0, 33);
        x.keeper(0, 0, 1);
        x.keeper(5, 0, 40);
        int[][] bits = {{0, 7}, {2, 7}, {3, 5}, {49, 5}, {50, 1}, {98, 1}, {99, 0}};
        for (int[] row : bits) {
            due("RAGE " + row[0], x.brave(row[0]), row[1]);
        }
        due("RAGE as it was", x.status(1), 20);
        due("without KEEPERS", fresh().brave(0), 0);
    }

    // ---- first, turns, who ----

    private static void firstOfTwo() {
        sentence("first: 0 (one, then other), 1 (other, then one), 2: alike");
        UnderNurseToTheTemper x = one(1, 0, 40);
        x.keeper(0, 1, 40);
        put(x, 60, 60, 1, 99, 1);
        // The singer by 60: 57, then 56; the keeper first: 59, and the singer by odd RAGE nothing.
        due("less by one, then other", x.first(0, 1), 0);
        due("less by other, then one", x.first(1, 0), 1);
        due("alike by the same", x.first(0, 0), 2);
        due("alike by NONE", x.first(NONE, NONE), 2);
        x.tell(0, 0);
        due("alike, as both leave 0", x.first(0, 1), 2);
    }

    private static void turns() {
        sentence("RAGE behind n HOURS (0 to 48) in which all KEEPERS come by turns, by numbers, from a KEEPER on");
        UnderNurseToTheTemper x = cowards(10, 99, 1, 2, 4);
        int[][] want = {{0, 0, 10}, {0, 1, 11}, {0, 2, 13}, {0, 3, 17}, {0, 4, 18}, {1, 1, 12}, {1, 2, 16}, {1, 3, 17}, {2, 1, 14},
            {2, 2, 15}, {2, 3, 17}, {2, 4, 21}};
        for (int[] row : want) {
            due("from " + row[0] + ", n " + row[1], x.byTurns(row[0], row[1]), row[2]);
        }
        due("n 48 alone", cowards(10, 99, 1).byTurns(0, 48), 58);
        due("n 47 alone", cowards(10, 99, 1).byTurns(0, 47), 57);
        sentence("HARMS in n HOURS (0 to 48) likewise");
        due("n 0", cowards(50, 50, 0).harms(0, 0), 0);
        due("n 48, in the last alone", cowards(10, 58, 1).harms(0, 48), 1);
        due("n 47, none", cowards(10, 58, 1).harms(0, 47), 0);
        due("n 48, in each", house(0, 0, 40, 50, 60, 1, 50, 1).harms(0, 48), 48);
        due("from 0: 11, 13, 17", cowards(10, 13, 1, 2, 4).harms(0, 2), 1);
        due("from 1: 12, 16", cowards(10, 13, 1, 2, 4).harms(1, 1), 0);
        due("without KEEPERS", fresh().byTurns(0, 0), BAD);
        due("without KEEPERS", fresh().harms(0, 0), BAD);
    }

    private static void starts() {
        sentence("from whom on, by turns of 24 HOURS, there are fewest HARMS, of several the first. STUCK: no KEEPERS");
        // From 0 RAGE is 10 more behind 24 HOURS, from 1 it is 9; behind 23 it is 9 by both.
        due("a HARM in the 24th", cowards(10, 20, 1, 0, 0, 1, 0).starts(), 1);
        // By turns of two RAGE is 36 more behind 24 HOURS; behind 25 it is 38 or 37.
        due("a HARM in the 25th", cowards(10, 48, 2, 1).starts(), 0);
        due("a HARM in the 23rd", cowards(10, 45, 2, 1).starts(), 1);
        due("one", cowards(10, 11, 1).starts(), 0);
        due("nobody first would be better, but is no KEEPER", cowards(10, 19, 9, 9).starts(), 0);
        due("alike", cowards(10, 11, 1, 1, 1).starts(), 0);
        UnderNurseToTheTemper x = fresh();
        due("none", x.starts(), STUCK);
        dueRefusals("one", x, "0 0 0 1 0");
    }

    private static void of() {
        sentence("Who has the greatest NERVE (what 0), the least (1), FLED most often (2), of several the first");
        UnderNurseToTheTemper x = one(0, 0, 5);
        for (int what = 0; what < 3; what++) {
            due("of one, what " + what, x.of(what), 0);
        }
        x.keeper(0, 0, 5);
        x.keeper(0, 0, 5);
        for (int what = 0; what < 3; what++) {
            due("alike, what " + what, x.of(what), 0);
        }
        x.nerve(1, 6);
        x.nerve(2, 6);
        due("greatest by two", x.of(0), 1);
        due("least by one", x.of(1), 0);
        x.nerve(1, 4);
        x.nerve(2, 4);
        due("greatest by one", x.of(0), 0);
        due("least by two", x.of(1), 1);
        x.order(2);
        due("FLED once", x.of(2), 2);
        x.order(1);
        due("both once", x.of(2), 1);
        x.order(2);
        due("twice", x.of(2), 2);
        sentence("of: BAD; STUCK: no KEEPERS");
        UnderNurseToTheTemper none = fresh();
        due("what -1", none.of(-1), BAD);
        due("what 0", none.of(0), STUCK);
        due("what 2", none.of(2), STUCK);
        due("what 3", none.of(3), BAD);
        dueRefusals("four", none, "2 0 0 2 0");
        sentence("How many KEEPERS are of just a KIND");
        UnderNurseToTheTemper y = one(3, 0, 0);
        y.keeper(4, 0, 0);
        due("a NURSE is just a NURSE", y.ofKind(0) + y.ofKind(1) + y.ofKind(2) + y.ofKind(5), 0);
        due("NURSES and BRAVES", y.ofKind(3) * 10 + y.ofKind(4), 11);
        UnderNurseToTheTemper eight = fresh();
        for (int k = 0; k < 8; k++) {
            eight.keeper(5, 0, 0);
        }
        due("eight", eight.ofKind(5), 8);
    }

    // ---- draws ----

    private static void drawn() {
        sentence("HOURS by draws (n 1 to 60): HARMS. BAD");
        UnderNurseToTheTemper x = fresh();
        for (int n : new int[] {0, -1, 61, LOW, HIGH}) {
            due("n " + n, x.drawn(n), BAD);
        }
        dueRefusals("five", x, "5 0 0 0 0");
        due("no HOUR has passed", x.status(5), 0);
        due("nothing was drawn", x.status(8), 1);
        due("n 1", x.drawn(1), 0);
        due("one HOUR", x.status(5), 1);
        put(x, 99, 0, 9, 1, 0);
        due("n 60, a HARM in each", x.drawn(60), 60);
        due("60 HOURS", x.status(5), 60);
        sentence("a DRAW below how many KEEPERS there are and 2: a KEEPER's number, or, the next, NONE, the last, 10");
        // SEED 1 becomes 1103527590, whose upper bits are 16838: modulo 2 it is 0, NONE.
        UnderNurseToTheTemper none = fresh();
        none.drawn(1);
        dueMeasures("of 2 the first, NONE", none, "22 60 2 50 1");
        // Modulo 3: 16838 is 2, a MEETING.
        UnderNurseToTheTemper one = one(0, 0, 0);
        one.drawn(1);
        dueMeasures("of 3 the last, a MEETING", one, "30 50 1 50 1");
        // Modulo 10: 8, NONE by eight KEEPERS; modulo 9: 8, a MEETING by seven; modulo 7: 3, a KEEPER of five.
        UnderNurseToTheTemper five = fresh();
        for (int k = 0; k < 8; k++) {
            if (k == 5) {
                five.image();
                five.drawn(1);
                due("of 7 the fourth, a KEEPER who flees", five.keeperOf(3, 3), 1);
                five.back();
            }
            five.keeper(0, 0, 0);
            if (k == 6) {
                five.image();
                five.drawn(1);
                dueMeasures("of 9 the last, a MEETING", five, "30 50 1 50 1");
                five.back();
            }
        }
        five.drawn(1);
        dueMeasures("of 10 the ninth, NONE", five, "22 60 2 50 1");
        due("nobody FLED", five.status(6), 0);
        sentence("SEED becomes SEED times 1103515245, and 12345 (an int, wrapping); its upper 16 bits, no sign, modulo n");
        int[][] seeds = {{1, 1103527590}, {0, 12345}, {-1, -1103502900}, {HIGH, 1043980748}, {LOW, -2147471303}};
        for (int[] row : seeds) {
            UnderNurseToTheTemper y = fresh();
            due("at first", y.seed(row[0]), 1);
            y.drawn(1);
            due("behind a DRAW from " + row[0], y.seed(0), row[1]);
        }
        // SEED -1 becomes -1103502900: the upper bits are 48697, odd, so the last of two: a MEETING.
        UnderNurseToTheTemper z = fresh();
        z.seed(-1);
        z.drawn(1);
        dueMeasures("no sign", z, "30 50 1 50 1");
    }

    public static void main(String[] args) {
        arguments();
        settles();
        over();
        until();
        meetings();
        odds();
        flees();
        still();
        calmFor();
        firstOfTwo();
        turns();
        starts();
        of();
        drawn();
        finish("edges of WHAT COMES OF IT");
    }
}
