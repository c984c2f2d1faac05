/** The boundaries that the section AN HOUR names, and those of promises 16 to 20 and 50. */
public final class HourEdgesTest extends Bench {
    private static final int KEEPER = 0;
    private static final int SINGER = 1;
    private static final int FEEDER = 2;
    private static final int NURSE = 3;
    private static final int BRAVE = 4;
    private static final int COWARD = 5;

    /**
     * One HOUR as each call that can tell of it tells it: RAGE, CALM, GROWTH, HARM, FLED; in truth then the
     * HOUR has gone on as well.
     */
    private static void hour(String when, UnderNurseToTheTemper x, int order, String want) {
        String ahead = measures(x);
        int next = Math.min(9999, x.status(5) + 1);
        lay(x, 7, 3, order);
        StringBuilder after = new StringBuilder();
        StringBuilder behind = new StringBuilder();
        for (int what = 0; what < 4; what++) {
            after.append(x.after(order, what)).append(' ');
            behind.append(x.behind(7, 1, what)).append(' ');
        }
        int fled = x.behind(7, 1, 4);
        due(when + ", after", after.toString() + fled, want);
        due(when + ", behind", behind.toString() + fled, want);
        due(when + ", nothing is changed", measures(x) + " " + x.status(6), ahead + " 0");
        x.image();
        int rage = x.order(order);
        String truth = rage + " " + x.status(2) + " " + x.status(3);
        due(when + ", HOUR", x.status(5), next);
        due(when + ", all FLED", x.status(6), fled);
        x.back();
        int harms = x.done(7, 1);
        due(when + ", in truth", truth + " " + harms + " " + x.status(6), want);
        due(when + ", by a ROSTER", x.status(1) + " " + x.status(2) + " " + x.status(3), truth);
    }

    // ---- FRIGHT and who STAYS ----

    private static void fright() {
        sentence("FRIGHT: a third of RAGE (cut), and GROWTH");
        UnderNurseToTheTemper x = fresh();
        int[][] want = {{0, 1, 1}, {2, 1, 1}, {3, 1, 2}, {5, 1, 2}, {6, 1, 3}, {98, 1, 33}, {99, 1, 34}, {0, 9, 9},
            {99, 9, 42}, {98, 9, 41}};
        for (int[] row : want) {
            x.tell(0, row[0]);
            x.tell(2, row[1]);
            due("RAGE " + row[0] + ", GROWTH " + row[1], x.fright(), row[2]);
        }
    }

    private static void stay(String when, UnderNurseToTheTemper x, int want) {
        due(when, x.stays(0), want);
        due(when + ", bits", x.staying(), want);
        due(when + ", if RAGE were so", x.brave(x.status(1)), want);
        due(when + ", ordered", x.order(0) * 0 + x.keeperOf(0, 3), 1 - want);
    }

    /** RAGE 44 and GROWTH 2: FRIGHT is 16. */
    private static UnderNurseToTheTemper by16(int kind, int a, int nerve) {
        return house(kind, a, nerve, 44, 60, 2, 50, 1);
    }

    private static void staying() {
        sentence("KEEPER, FEEDER: if NERVE is FRIGHT or more");
        for (int kind : new int[] {KEEPER, FEEDER}) {
            stay("NERVE 15 of KIND " + kind, by16(kind, 9, 15), 0);
            stay("NERVE 16 of KIND " + kind, by16(kind, 9, 16), 1);
            stay("NERVE 17 of KIND " + kind, by16(kind, 0, 17), 1);
        }
        sentence("SINGER: if NERVE and a are");
        stay("15 and 0", by16(SINGER, 0, 15), 0);
        stay("16 and 0", by16(SINGER, 0, 16), 1);
        stay("6 and 9", by16(SINGER, 9, 6), 0);
        stay("7 and 9", by16(SINGER, 9, 7), 1);
        stay("8 and 9", by16(SINGER, 9, 8), 1);
        sentence("NURSE: always");
        stay("NERVE 0", by16(NURSE, 0, 0), 1);
        stay("the greatest FRIGHT", house(NURSE, 0, 0, 99, 60, 9, 1, 1), 1);
        sentence("BRAVE: if twice NERVE is");
        stay("14", by16(BRAVE, 9, 7), 0);
        stay("16", by16(BRAVE, 0, 8), 1);
        stay("16 for 17", house(BRAVE, 9, 8, 45, 60, 2, 50, 1), 0);
        stay("18 for 17", house(BRAVE, 0, 9, 45, 60, 2, 50, 1), 1);
        stay("40 for 42", house(BRAVE, 9, 20, 99, 60, 9, 50, 1), 0);
        stay("42 for 42", house(BRAVE, 0, 21, 99, 60, 9, 50, 1), 1);
        sentence("COWARD: as a KEEPER, and only if RAGE is below BAR");
        stay("NERVE 15", by16(COWARD, 9, 15), 0);
        stay("NERVE 16", by16(COWARD, 9, 16), 1);
        stay("one below BAR", house(COWARD, 0, 40, 49, 60, 1, 50, 1), 1);
        stay("at BAR", house(COWARD, 0, 40, 50, 60, 1, 50, 1), 0);
        stay("above BAR", house(COWARD, 0, 40, 51, 60, 1, 50, 1), 0);
        stay("below BAR, but NERVE is too little", house(COWARD, 0, 16, 49, 60, 1, 50, 1), 0);
        stay("BAR 1 and RAGE 0", house(COWARD, 0, 40, 0, 60, 1, 1, 1), 1);
        stay("BAR 1 and RAGE 1", house(COWARD, 0, 40, 1, 60, 1, 1, 1), 0);
        sentence("Whether a KEEPER STAYS now: 1, 0. BAD");
        UnderNurseToTheTemper x = six();
        for (int bad : new int[] {-1, 6, 7, 10, LOW, HIGH}) {
            due("stays(" + bad + ")", x.stays(bad), BAD);
        }
        dueRefusals("six", x, "6 0 0 0 0");
    }

    // ---- what one SOOTHES ----

    private static void soothing() {
        sentence("KEEPER a");
        hour("a 0", house(KEEPER, 0, 40, 30, 60, 1, 50, 1), 0, "30 60 1 0 0");
        hour("a 9", house(KEEPER, 9, 40, 30, 60, 1, 50, 1), 0, "21 60 1 0 0");
        sentence("SINGER a, and 3 more, if RAGE is even");
        hour("even", house(SINGER, 9, 40, 30, 60, 1, 50, 1), 0, "18 60 1 0 0");
        hour("odd", house(SINGER, 9, 40, 31, 60, 1, 50, 1), 0, "22 60 1 0 0");
        hour("a 0, even", house(SINGER, 0, 40, 30, 60, 1, 50, 1), 0, "27 60 1 0 0");
        hour("a 0, odd", house(SINGER, 0, 40, 31, 60, 1, 50, 1), 0, "31 60 1 0 0");
        sentence("NURSE what a SINGER does, and GROWTH");
        hour("even", house(NURSE, 2, 0, 30, 60, 9, 50, 1), 0, "16 60 9 0 0");
        hour("odd", house(NURSE, 2, 0, 31, 60, 9, 50, 1), 0, "20 60 9 0 0");
        sentence("FEEDER a quarter of RAGE (cut)");
        int[][] quarters = {{0, 0}, {3, 3}, {4, 3}, {7, 6}, {8, 6}, {11, 9}, {12, 9}, {98, 74}, {99, 75}};
        for (int[] row : quarters) {
            String left = row[1] + (row[1] >= 50 ? " 59 1 1 0" : " 60 1 0 0");
            hour("RAGE " + row[0], house(FEEDER, 9, 40, row[0], 60, 1, 50, 1), 0, left);
        }
        sentence("BRAVE what a FEEDER does, and a");
        hour("a 0", house(BRAVE, 0, 40, 43, 60, 1, 50, 1), 0, "33 60 1 0 0");
        hour("a 9", house(BRAVE, 9, 40, 43, 60, 1, 50, 1), 0, "24 60 1 0 0");
        sentence("COWARD: RAGE becomes a more instead");
        hour("a 0", house(COWARD, 0, 40, 30, 60, 1, 50, 1), 0, "30 60 1 0 0");
        hour("a 9", house(COWARD, 9, 40, 30, 60, 1, 50, 1), 0, "39 60 1 0 0");
    }

    private static void leastAndMost() {
        sentence("RAGE is less by what he SOOTHES (0 at least, 99 at most)");
        hour("one more than he SOOTHES", house(KEEPER, 9, 40, 10, 60, 1, 50, 1), 0, "1 60 1 0 0");
        hour("what he SOOTHES", house(KEEPER, 9, 40, 9, 60, 1, 50, 1), 0, "0 60 1 0 0");
        hour("one less", house(KEEPER, 9, 40, 8, 60, 1, 50, 1), 0, "0 60 1 0 0");
        hour("none", house(KEEPER, 9, 40, 0, 60, 1, 50, 1), 0, "0 60 1 0 0");
        hour("a singer by RAGE 0, which is even", house(SINGER, 0, 40, 0, 60, 1, 50, 1), 0, "0 60 1 0 0");
        hour("a singer by RAGE 2", house(SINGER, 0, 40, 2, 60, 1, 50, 1), 0, "0 60 1 0 0");
        hour("a singer by RAGE 4", house(SINGER, 0, 40, 4, 60, 1, 50, 1), 0, "1 60 1 0 0");
        hour("a nurse by RAGE 12", house(NURSE, 0, 0, 12, 60, 9, 50, 1), 0, "0 60 9 0 0");
        hour("a nurse by RAGE 14", house(NURSE, 0, 0, 14, 60, 9, 50, 1), 0, "2 60 9 0 0");
        hour("a brave one by RAGE 4", house(BRAVE, 3, 40, 4, 60, 1, 50, 1), 0, "0 60 1 0 0");
        hour("a brave one by RAGE 3", house(BRAVE, 4, 40, 3, 60, 1, 50, 1), 0, "0 60 1 0 0");
        hour("a brave one by RAGE 5", house(BRAVE, 3, 40, 5, 60, 1, 50, 1), 0, "1 60 1 0 0");
        hour("a coward to 98", house(COWARD, 9, 40, 89, 60, 1, 99, 1), 0, "98 60 1 0 0");
        hour("a coward to 99", house(COWARD, 9, 40, 90, 60, 1, 99, 1), 0, "99 59 1 1 0");
        hour("a coward beyond it", house(COWARD, 9, 40, 91, 60, 1, 99, 1), 0, "99 59 1 1 0");
        hour("a coward from 98", house(COWARD, 9, 40, 98, 60, 1, 99, 1), 0, "99 59 1 1 0");
        sentence("says: RAGE behind an HOUR with him, if he STAYED, by his own KIND (0 to 99)");
        spoken("down to 0", house(KEEPER, 9, 0, 8, 60, 1, 50, 1), 0, 0);
        spoken("a singer below 0", house(SINGER, 9, 0, 8, 60, 9, 50, 1), 1, 0);
        spoken("a coward beyond 99, who would flee", house(COWARD, 9, 0, 91, 60, 1, 50, 1), 5, 99);
        spoken("a coward to 99", house(COWARD, 9, 0, 90, 60, 1, 50, 1), 5, 99);
        spoken("a coward to 98", house(COWARD, 9, 0, 89, 60, 1, 50, 1), 5, 98);
    }

    /** What he says for a KEEPER is his NERVE, 0 in all these houses. */
    private static void spoken(String when, UnderNurseToTheTemper x, int kind, int want) {
        x.show(0, 0);
        due(when, x.says(0, kind), want);
        due(when + ", NERVE", x.says(0, KEEPER), 0);
        due(when + ", nobody FLED", x.status(6), 0);
    }

    // ---- GROWTH ----

    private static void fed() {
        sentence("a FEEDER (or under it): GROWTH is 1 more, if HOUR is a multiple of 4 (9 at most)");
        for (int hour : new int[] {0, 4, 8, 9996}) {
            hour("a feeder, HOUR " + hour, house(FEEDER, 0, 40, 8, 60, 1, 50, hour), 0, "6 60 2 0 0");
            hour("a brave one, HOUR " + hour, house(BRAVE, 0, 40, 8, 60, 1, 50, hour), 0, "6 60 2 0 0");
        }
        for (int hour : new int[] {1, 2, 3, 5, 6, 7, 9995, 9997, 9998, 9999}) {
            hour("a feeder, HOUR " + hour, house(FEEDER, 0, 40, 8, 60, 1, 50, hour), 0, "6 60 1 0 0");
            hour("a brave one, HOUR " + hour, house(BRAVE, 0, 40, 8, 60, 1, 50, hour), 0, "6 60 1 0 0");
        }
        hour("once, by HOUR 12", house(FEEDER, 0, 40, 8, 60, 1, 50, 12), 0, "6 60 2 0 0");
        hour("GROWTH 7", house(FEEDER, 0, 40, 8, 60, 7, 50, 4), 0, "6 60 8 0 0");
        hour("GROWTH 8", house(FEEDER, 0, 40, 8, 60, 8, 50, 4), 0, "6 60 9 0 0");
        hour("GROWTH 9", house(FEEDER, 0, 40, 8, 60, 9, 50, 4), 0, "6 60 9 0 0");
        hour("GROWTH 9, a brave one", house(BRAVE, 0, 40, 8, 60, 9, 50, 4), 0, "6 60 9 0 0");
        hour("who doesn't STAY, by HOUR 4", house(FEEDER, 0, 0, 8, 60, 1, 50, 4), 0, "10 60 1 0 1");
        hour("who doesn't STAY, by HOUR 12", house(FEEDER, 0, 0, 8, 60, 1, 50, 12), 0, "10 60 2 0 1");
        for (int kind : new int[] {KEEPER, COWARD}) {
            hour("KIND " + kind + ", HOUR 12", house(kind, 0, 40, 8, 60, 1, 50, 12), 0, "8 60 1 0 0");
        }
        hour("a singer, HOUR 12", house(SINGER, 0, 40, 8, 60, 1, 50, 12), 0, "5 60 1 0 0");
        hour("a nurse, HOUR 12", house(NURSE, 0, 40, 8, 60, 1, 50, 12), 0, "4 60 1 0 0");
    }

    private static void alone() {
        sentence("Nobody, or one who doesn't STAY (he FLED once more): RAGE is 2 times GROWTH more (99 at most)");
        int[][] rages = {{0, 2}, {96, 98}, {97, 99}, {98, 99}, {99, 99}};
        for (int[] row : rages) {
            String left = row[1] + (row[1] == 99 ? " 59 1 1 " : " 60 1 0 ");
            hour("nobody by RAGE " + row[0], house(KEEPER, 0, 0, row[0], 60, 1, 99, 1), NONE, left + 0);
            hour("one by RAGE " + row[0], house(KEEPER, 0, 0, row[0], 60, 1, 99, 1), 0, left + 1);
        }
        hour("GROWTH 9", house(KEEPER, 0, 0, 80, 60, 9, 99, 1), NONE, "98 60 9 0 0");
        hour("GROWTH 9, to 99", house(KEEPER, 0, 0, 81, 60, 9, 99, 1), NONE, "99 59 9 1 0");
        hour("GROWTH 9, beyond it", house(KEEPER, 0, 0, 82, 60, 9, 99, 1), NONE, "99 59 9 1 0");
        sentence("GROWTH then 1 more, if HOUR is a multiple of 12 (9 at most)");
        for (int hour : new int[] {0, 12, 24, 9996}) {
            hour("nobody, HOUR " + hour, house(KEEPER, 0, 0, 8, 60, 1, 50, hour), NONE, "10 60 2 0 0");
            hour("one, HOUR " + hour, house(KEEPER, 0, 0, 8, 60, 1, 50, hour), 0, "10 60 2 0 1");
        }
        for (int hour : new int[] {1, 4, 6, 8, 11, 13, 9983, 9995, 9997, 9998, 9999}) {
            hour("nobody, HOUR " + hour, house(KEEPER, 0, 0, 8, 60, 1, 50, hour), NONE, "10 60 1 0 0");
            hour("one, HOUR " + hour, house(KEEPER, 0, 0, 8, 60, 1, 50, hour), 0, "10 60 1 0 1");
        }
        hour("GROWTH 8", house(KEEPER, 0, 0, 8, 60, 8, 50, 12), NONE, "24 60 9 0 0");
        hour("GROWTH 9", house(KEEPER, 0, 0, 8, 60, 9, 50, 12), NONE, "26 60 9 0 0");
    }

    // ---- MEETINGS and HARMS ----

    private static void meeting() {
        sentence("MEETING: a quarter (cut toward 0) of what RAGE is above CALM (below 0, if it's less)");
        int[][] quarters = {{-9, -2}, {-8, -2}, {-7, -1}, {-5, -1}, {-4, -1}, {-3, 0}, {-1, 0}, {0, 0}, {1, 0}, {3, 0},
            {4, 1}, {5, 1}, {7, 1}, {8, 2}, {9, 2}};
        for (int[] row : quarters) {
            UnderNurseToTheTemper x = fresh();
            put(x, 40 + row[0], 40, 1, 99, 12);
            hour("RAGE is " + row[0] + " above", x, MEETING,
                (40 + row[0] - row[1]) + " " + (40 + row[1]) + " 1 0 0");
        }
        UnderNurseToTheTemper x = fresh();
        put(x, 0, 99, 1, 99, 1);
        hour("0 and 99", x, MEETING, "24 75 1 0 0");
        UnderNurseToTheTemper y = fresh();
        put(y, 99, 0, 9, 76, 12);
        hour("99 and 0", y, MEETING, "75 24 9 0 0");
        UnderNurseToTheTemper z = fresh();
        put(z, 99, 0, 8, 75, 12);
        hour("99 and 0, by BAR 75", z, MEETING, "75 23 8 1 0");
    }

    private static void harms() {
        sentence("if RAGE is BAR or more, that is a HARM");
        hour("one below BAR", house(KEEPER, 0, 40, 49, 60, 1, 50, 1), 0, "49 60 1 0 0");
        hour("at BAR", house(KEEPER, 0, 40, 50, 60, 1, 50, 1), 0, "50 59 1 1 0");
        hour("one above BAR", house(KEEPER, 0, 40, 51, 60, 1, 50, 1), 0, "51 59 1 1 0");
        hour("soothed to one below BAR", house(KEEPER, 1, 40, 50, 60, 1, 50, 1), 0, "49 60 1 0 0");
        hour("soothed to BAR", house(KEEPER, 1, 40, 51, 60, 1, 50, 1), 0, "50 59 1 1 0");
        hour("alone to one below BAR", house(KEEPER, 0, 0, 47, 60, 1, 50, 1), NONE, "49 60 1 0 0");
        hour("alone to BAR", house(KEEPER, 0, 0, 48, 60, 1, 50, 1), NONE, "50 59 1 1 0");
        hour("BAR 1, RAGE 0", house(KEEPER, 0, 40, 0, 60, 1, 1, 1), 0, "0 60 1 0 0");
        hour("BAR 1, RAGE 1", house(KEEPER, 0, 40, 1, 60, 1, 1, 1), 0, "1 59 1 1 0");
        hour("BAR 99, RAGE 98", house(KEEPER, 0, 40, 98, 60, 1, 99, 1), 0, "98 60 1 0 0");
        hour("BAR 99, RAGE 99", house(KEEPER, 0, 40, 99, 60, 1, 99, 1), 0, "99 59 1 1 0");
        sentence("CALM is 1 less (0 at least)");
        hour("CALM 2", house(KEEPER, 0, 40, 50, 2, 1, 50, 1), 0, "50 1 1 1 0");
        hour("CALM 1", house(KEEPER, 0, 40, 50, 1, 1, 50, 1), 0, "50 0 1 1 0");
        hour("CALM 0", house(KEEPER, 0, 40, 50, 0, 1, 50, 1), 0, "50 0 1 1 0");
        hour("CALM 99", house(KEEPER, 0, 40, 50, 99, 1, 50, 1), 0, "50 98 1 1 0");
        sentence("HOUR is 1 more (9999 at most)");
        UnderNurseToTheTemper x = fresh();
        x.tell(4, 9997);
        for (int want : new int[] {9998, 9999, 9999, 9999}) {
            x.order(NONE);
            due("HOUR", x.status(5), want);
        }
    }

    // ---- ORDERS ----

    private static void orders() {
        sentence("An ORDER for an HOUR: a KEEPER's number, NONE (nobody), or 10 (a MEETING)");
        for (int count = 0; count <= 8; count++) {
            UnderNurseToTheTemper x = fresh();
            for (int k = 0; k < count; k++) {
                x.keeper(NURSE, 1, 0);
            }
            int refused = 0;
            for (int order = -3; order <= 12; order++) {
                boolean may = order == NONE || order == MEETING || order >= 0 && order < count;
                due("after(" + order + ", 2) of " + count, x.after(order, 2), may ? (order == NONE ? 2 : 1) : BAD);
                refused += may ? 0 : 1;
            }
            due("refused of " + count, x.status(12), refused);
            due("order(" + count + ")", x.order(count), BAD);
            due("order(low)", x.order(LOW), BAD);
            due("order(high)", x.order(HIGH), BAD);
            dueMeasures("as it was", x, "20 60 1 50 0");
        }
        sentence("after: RAGE (what 0), CALM (1), GROWTH (2), whether it was a HARM (3; 1, 0). BAD");
        UnderNurseToTheTemper x = fresh();
        for (int what : new int[] {-1, 4, LOW, HIGH}) {
            due("after(NONE, " + what + ")", x.after(NONE, what), BAD);
        }
        dueRefusals("four", x, "4 0 0 0 0");
    }

    private static void bestNow() {
        sentence("of several the first: NONE, KEEPERS by numbers, 10");
        UnderNurseToTheTemper x = house(KEEPER, 3, 40, 60, 60, 1, 99, 1);
        x.keeper(KEEPER, 3, 40);
        due("RAGE least by both, the first", x.bestNow(0), 0);
        due("CALM alike by all, NONE", x.bestNow(1), NONE);
        due("GROWTH alike by all, NONE", x.bestNow(2), NONE);
        x.nerve(0, 0);
        due("RAGE least by the second alone", x.bestNow(0), 1);
        put(x, 10, 10, 1, 99, 12);
        due("GROWTH by NONE and who flees is more", x.bestNow(2), 1);
        x.nerve(1, 0);
        due("GROWTH least by a MEETING alone", x.bestNow(2), MEETING);
        due("RAGE least by a MEETING alone", x.bestNow(0), MEETING);
        put(x, 0, 99, 1, 99, 1);
        due("RAGE least by NONE and who flees", x.bestNow(0), NONE);
        put(x, 14, 10, 1, 99, 1);
        due("CALM greatest by a MEETING", x.bestNow(1), MEETING);
        put(x, 13, 10, 1, 99, 1);
        due("CALM as it is by a MEETING, too", x.bestNow(1), NONE);
        put(x, 10, 10, 1, 12, 1);
        due("CALM by NONE is less, by a HARM", x.bestNow(1), MEETING);
        sentence("bestNow: BAD");
        for (int what : new int[] {-1, 3, LOW, HIGH}) {
            due("bestNow(" + what + ")", x.bestNow(what), BAD);
        }
        dueRefusals("four", x, "4 0 0 0 0");
    }

    public static void main(String[] args) {
        fright();
        staying();
        soothing();
        leastAndMost();
        fed();
        alone();
        meeting();
        harms();
        orders();
        bestNow();
        finish("edges of AN HOUR");
    }
}
