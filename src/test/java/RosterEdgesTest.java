/** The boundaries of ROSTERS, BEST, RAGES, NERVES and SEND: promises 21 to 27, 41 to 43 and 51. */
public final class RosterEdgesTest extends Bench {
    private interface OnRow {
        int on(UnderNurseToTheTemper x, int s, int n);
    }

    private record Asked(String name, OnRow call) {
    }

    private static final Asked[] ROSTERS = {
        new Asked("behind", (x, s, n) -> x.behind(s, n, 0)), new Asked("unkept", (x, s, n) -> x.unkept(s, n)),
        new Asked("judge", (x, s, n) -> x.judge(s, n)), new Asked("way", (x, s, n) -> x.way(s, n, 0)),
        new Asked("matters", (x, s, n) -> x.matters(s, n)), new Asked("instead", (x, s, n) -> x.instead(s, n, 0)),
        new Asked("done", (x, s, n) -> x.done(s, n))};

    private static final Asked[] TWOS = {
        new Asked("rages", (x, s, n) -> x.rages(s, n, 0)), new Asked("nerves", (x, s, n) -> x.nerves(s, n, 0, 0)),
        new Asked("send", (x, s, n) -> x.send(s, n))};

    private static boolean isAnswered(long answer) {
        return answer >= NONE;
    }

    // ---- how many elements ----

    private static void firstElements() {
        sentence("the first n elements (0 to 40) of the ROW in SHELF s; BAD: fewer elements");
        for (Asked asked : ROSTERS) {
            boolean needsOne = asked.name.equals("matters") || asked.name.equals("instead");
            int ofNone = asked.name.equals("matters") ? STUCK : BAD;
            for (int size : new int[] {0, 1, 2, 3, 39, 40}) {
                UnderNurseToTheTemper x = one(3, 1, 0);
                x.row(0, 1, size);
                due(asked.name + " n -1 of " + size, asked.call.on(x, 0, -1), BAD);
                due(asked.name + " n 41 of " + size, asked.call.on(x, 0, 41), BAD);
                due(asked.name + " n low of " + size, asked.call.on(x, 0, LOW), BAD);
                due(asked.name + " n high of " + size, asked.call.on(x, 0, HIGH), BAD);
                due(asked.name + " one more than " + size, asked.call.on(x, 0, size + 1), BAD);
                dueMeasures(asked.name + " changed nothing", x, "20 60 1 50 0");
                due(asked.name + " refused", x.status(12), 5);
                int none = asked.call.on(x, 0, 0);
                due(asked.name + " n 0 of " + size, needsOne ? none : isAnswered(none) ? 1 : 0, needsOne ? ofNone : 1);
                due(asked.name + " n " + size, isAnswered(asked.call.on(x, 0, size)) ? 1 : 0,
                    size == 0 && needsOne ? 0 : 1);
            }
        }
    }

    private static void firstTwos() {
        sentence("the first n twos (0 to 20) of the ROW in SHELF s; BAD: fewer elements");
        for (Asked asked : TWOS) {
            for (int size : new int[] {0, 1, 2, 3, 4, 38, 39, 40}) {
                UnderNurseToTheTemper x = one(0, 1, 0);
                x.row(0, 4, size);
                due(asked.name + " n -1 of " + size, asked.call.on(x, 0, -1), BAD);
                due(asked.name + " n 21 of " + size, asked.call.on(x, 0, 21), BAD);
                due(asked.name + " n low of " + size, asked.call.on(x, 0, LOW), BAD);
                due(asked.name + " n that twice is 0", asked.call.on(x, 0, 1 << 31), BAD);
                due(asked.name + " n that twice is 2", asked.call.on(x, 0, (1 << 31) + 1), BAD);
                due(asked.name + " n high of " + size, asked.call.on(x, 0, HIGH), BAD);
                due(asked.name + " one more than fits " + size, asked.call.on(x, 0, size / 2 + 1), BAD);
                due(asked.name + " refused", x.status(12), 7);
                due(asked.name + " n 0 of " + size, isAnswered(asked.call.on(x, 0, 0)) ? 1 : 0, 1);
                due(asked.name + " as many as fit " + size, isAnswered(asked.call.on(x, 0, size / 2)) ? 1 : 0, 1);
                due(asked.name + " refused no more", x.status(12), 7);
            }
        }
    }

    private static void shelves() {
        sentence("BAD SHELF; OTHER; NOTHING");
        for (Asked[] all : new Asked[][] {ROSTERS, TWOS}) {
            for (Asked asked : all) {
                UnderNurseToTheTemper x = six();
                x.row(0, 0, 2);
                x.row(7, 0, 2);
                x.show(3, 0);
                due(asked.name + " SHELF -1", asked.call.on(x, -1, 1), BAD);
                due(asked.name + " SHELF 8", asked.call.on(x, 8, 1), BAD);
                due(asked.name + " SHELF low", asked.call.on(x, LOW, 1), BAD);
                due(asked.name + " SHELF high", asked.call.on(x, HIGH, 1), BAD);
                due(asked.name + " a KEEPER's", asked.call.on(x, 3, 1), OTHER);
                due(asked.name + " a KEEPER's, n too large", asked.call.on(x, 3, 41), BAD);
                due(asked.name + " a KEEPER's, n too small", asked.call.on(x, 3, -1), BAD);
                due(asked.name + " NOTHING", asked.call.on(x, 4, 1), NOTHING);
                due(asked.name + " NOTHING, n too large", asked.call.on(x, 4, 41), BAD);
                due(asked.name + " NOTHING, n too small", asked.call.on(x, 4, -1), BAD);
                dueRefusals(asked.name, x, "8 1 1 0 0");
                due(asked.name + " SHELF 0", isAnswered(asked.call.on(x, 0, 1)) ? 1 : 0, 1);
                due(asked.name + " SHELF 7", isAnswered(asked.call.on(x, 7, 1)) ? 1 : 0, 1);
            }
        }
    }

    // ---- WRONG and UNKEPT ----

    private static void wrongIn(int sort, long element, boolean isOrder) {
        UnderNurseToTheTemper x = six();
        lay(x, 0, sort, 0, element, 99);
        due(element + " in SORT " + sort, x.judge(0, 2), isOrder ? NONE : 1);
        for (Asked asked : ROSTERS) {
            if (!asked.name.equals("judge")) {
                String call = asked.name + " of " + element + " in SORT " + sort;
                due(call, isAnswered(asked.call.on(x, 0, 2)) ? NONE : STUCK, isOrder ? NONE : STUCK);
            }
        }
        dueRefusals("each but judge", x, isOrder ? "0 0 0 0 0" : "0 0 0 6 0");
    }

    private static void wrong() {
        sentence("WRONG: its first element that is no ORDER; NONE");
        for (int sort = 0; sort < 4; sort++) {
            for (long element : new long[] {-2, 6, 7, 9, 11, 127, -128}) {
                wrongIn(sort, element, false);
            }
            for (long element : new long[] {-1, 0, 5, 10}) {
                wrongIn(sort, element, true);
            }
        }
        wrongIn(0, 255, true);
        wrongIn(0, 256 + 10, true);
        wrongIn(1, 256 + 10, false);
        wrongIn(1, 65535, true);
        wrongIn(1, 65536 + 5, true);
        wrongIn(2, 65536 + 5, false);
        wrongIn(2, (1L << 32) + 5, true);
        wrongIn(3, (1L << 32) + 5, false);
        wrongIn(3, (1L << 32) - 1, false);
        wrongIn(3, Long.MIN_VALUE, false);
        wrongIn(3, Long.MAX_VALUE, false);
        wrongIn(4, 77, true);
        UnderNurseToTheTemper x = one(3, 0, 0);
        lay(x, 0, 4, 0, 7, 7);
        due("booleans are 1, and there is no KEEPER 1", x.judge(0, 3), 1);
        lay(x, 1, 0, NONE, 1, MEETING, 2);
        due("of several the first", x.judge(1, 4), 1);
        due("none ahead of it", x.judge(1, 1), NONE);
        x.set(1, 1, 0);
        due("the next", x.judge(1, 4), 3);
        x.keeper(3, 0, 0);
        x.keeper(3, 0, 0);
        due("KEEPERS are there", x.judge(1, 4), NONE);
        due("none of none", x.judge(1, 0), NONE);
        x.set(1, 0, 9);
        due("the first place", x.judge(1, 4), 0);
        due("the first place of one", x.judge(1, 1), 0);
        dueRefusals("NONE isn't refused, nor is a place", x, "0 0 0 0 0");
    }

    private static void unkept() {
        sentence("UNKEPT: the first HOUR (0 on) of it in which one FLED; NONE");
        UnderNurseToTheTemper x = one(0, 0, 0);
        x.keeper(3, 0, 0);
        lay(x, 0, 0, 0, 0, 1);
        due("in the first", x.unkept(0, 3), 0);
        lay(x, 0, 0, NONE, MEETING, 1, 0);
        due("in the last", x.unkept(0, 4), 3);
        due("one HOUR fewer", x.unkept(0, 3), NONE);
        due("no HOURS", x.unkept(0, 0), NONE);
        x.row(1, 0, 40);
        for (int i = 0; i < 39; i++) {
            x.set(1, i, 1);
        }
        due("in the fortieth", x.unkept(1, 40), 39);
        due("not in 39", x.unkept(1, 39), NONE);
        dueRefusals("NONE isn't refused", x, "0 0 0 0 0");
        due("nobody FLED", x.status(6), 0);
    }

    // ---- BEHIND, a ROSTER on its way, in truth ----

    private static void behind() {
        sentence("BEHIND it: RAGE (what 0), CALM (1), GROWTH (2), HARMS (3), how many FLED (4)");
        UnderNurseToTheTemper x = one(0, 0, 0);
        put(x, 10, 30, 9, 99, 9999);
        x.row(0, 0, 40);
        // 18 more each HOUR: 28, 46, 64, 82, 99 (a HARM), and so on.
        String[] want = {"10 30 9 0 0", "28 30 9 0 1", "82 30 9 0 4", "99 29 9 1 5", "99 0 9 34 38", "99 0 9 35 39",
            "99 0 9 36 40"};
        int[] hours = {0, 1, 4, 5, 38, 39, 40};
        for (int i = 0; i < hours.length; i++) {
            StringBuilder all = new StringBuilder();
            for (int what = 0; what < 5; what++) {
                all.append(what == 0 ? "" : " ").append(x.behind(0, hours[i], what));
            }
            due(hours[i] + " HOURS", all.toString(), want[i]);
        }
        dueMeasures("nothing is changed", x, "10 30 9 99 9999");
        for (int what : new int[] {-1, 5, LOW, HIGH}) {
            due("what " + what, x.behind(0, 1, what), BAD);
            due("what " + what + " of NOTHING", x.behind(1, 1, what), BAD);
        }
        dueRefusals("eight", x, "8 0 0 0 0");
        sentence("A ROSTER is carried out in truth: HARMS");
        x.image();
        due("none", x.done(0, 0), 0);
        dueMeasures("as it was", x, "10 30 9 99 9999");
        due("five", x.done(0, 5), 1);
        dueMeasures("behind five", x, "99 29 9 99 9999");
        due("five FLED", x.keeperOf(0, 3), 5);
        x.back();
        due("forty", x.done(0, 40), 36);
        dueMeasures("behind forty", x, "99 0 9 99 9999");
        due("forty FLED", x.keeperOf(0, 3), 40);
    }

    private static void way() {
        sentence("A ROSTER on its way, now and behind each HOUR; of several the first");
        UnderNurseToTheTemper x = one(0, 5, 40);
        x.keeper(5, 5, 40);
        put(x, 40, 60, 1, 99, 1);
        lay(x, 0, 0, 0, 1, 1, 0, 1);
        // 40, 35, 40, 45, 40, 45.
        int[] greatest = {40, 40, 40, 45, 45, 45};
        int[] when = {0, 0, 0, 3, 3, 3};
        for (int n = 0; n <= 5; n++) {
            due("greatest of " + n, x.way(0, n, 0), greatest[n]);
            due("behind how many of " + n, x.way(0, n, 2), when[n]);
            due("least CALM of " + n, x.way(0, n, 1), 60);
        }
        put(x, 80, 40, 1, 80, 1);
        lay(x, 1, 0, MEETING, NONE, NONE, NONE, NONE, NONE, NONE);
        // A MEETING: 70, 50; then 2 more each HOUR: 80 behind six, a HARM: 49; 82: 48.
        for (int n = 0; n <= 7; n++) {
            due("least CALM of " + n + " is now", x.way(1, n, 1), 40);
        }
        due("as great as now is not greater", x.way(1, 6, 2), 0);
        due("greater than now", x.way(1, 7, 2), 7);
        lay(x, 2, 0, NONE, NONE, NONE, MEETING);
        // 82, 39; 84, 38; 86, 37; a MEETING: 74, 49.
        due("least CALM behind the third", x.way(2, 4, 1), 37);
        due("greatest behind the third", x.way(2, 4, 2), 3);
        for (int what : new int[] {-1, 3, LOW, HIGH}) {
            due("what " + what, x.way(0, 1, what), BAD);
            due("what " + what + " of NOTHING", x.way(5, 1, what), BAD);
        }
        dueRefusals("eight", x, "8 0 0 0 0");
    }

    private static void matters() {
        sentence("The place (0 on) of a ROSTER at which NONE instead would leave most RAGE BEHIND it, of several the first");
        UnderNurseToTheTemper x = one(0, 1, 40);
        x.keeper(0, 9, 40);
        put(x, 60, 60, 1, 99, 1);
        lay(x, 0, 0, 0, 1, 0, 1);
        due("the second", x.matters(0, 4), 1);
        due("of one", x.matters(0, 1), 0);
        lay(x, 1, 0, 0, 0, 1);
        due("the last", x.matters(1, 3), 2);
        lay(x, 2, 0, 1, 1, 1);
        due("alike by all, the first", x.matters(2, 3), 0);
        lay(x, 3, 0, NONE, NONE);
        due("NONE itself", x.matters(3, 2), 0);
        dueRefusals("none so far", x, "0 0 0 0 0");
        sentence("STUCK: it is WRONG, or n 0");
        due("n 0", x.matters(0, 0), STUCK);
        lay(x, 4, 0, 0, 2);
        due("WRONG at 1, n 2", x.matters(4, 2), STUCK);
        due("WRONG at 1, n 1", x.matters(4, 1), 0);
        due("n 0 of a KEEPER's", x.show(5, 0) + x.matters(5, 0), 1 + OTHER);
        due("n 0 of NOTHING", x.matters(6, 0), NOTHING);
        dueRefusals("four", x, "0 1 1 2 0");
    }

    private static void instead() {
        sentence("at a place (0 to n less 1) of a ROSTER; of several the first: NONE, KEEPERS by numbers, 10");
        UnderNurseToTheTemper x = one(0, 9, 40);
        x.keeper(0, 9, 40);
        put(x, 60, 60, 1, 99, 1);
        lay(x, 0, 0, NONE, NONE, NONE);
        for (int place = 0; place < 3; place++) {
            due("place " + place, x.instead(0, 3, place), 0);
        }
        for (int place : new int[] {-1, 3, LOW, HIGH}) {
            due("place " + place + " of 3", x.instead(0, 3, place), BAD);
            due("place " + place + " of NOTHING", x.instead(5, 3, place), BAD);
        }
        due("place 2 of the first 2", x.instead(0, 2, 2), BAD);
        due("place 0 of none", x.instead(0, 0, 0), BAD);
        dueRefusals("ten", x, "10 0 0 0 0");
        x.nerve(0, 0);
        due("the second alone STAYS", x.instead(0, 3, 1), 1);
        x.nerve(1, 0);
        put(x, 60, 60, 1, 99, 1);
        due("a MEETING, as NONE leaves more", x.instead(0, 1, 0), MEETING);
        put(x, 10, 90, 1, 99, 1);
        due("NONE, as a MEETING leaves more", x.instead(0, 1, 0), NONE);
        put(x, 99, 99, 1, 99, 1);
        due("alike by all, NONE", x.instead(0, 1, 0), NONE);
        dueRefusals("NONE isn't refused", x, "10 0 0 0 0");
        due("the ROW as it was", elements(x, 0, 3), "-1 -1 -1");
    }

    // ---- BEST ----

    private static void best() {
        sentence("BEST for n HOURS (1 to 4): HARMS (i -2), RAGE (i NONE), the i-th ORDER. BAD (also i below -2, or n or more)");
        for (int n : new int[] {-1, 0, 5, LOW, HIGH}) {
            UnderNurseToTheTemper x = one(3, 1, 0);
            for (int i = -3; i <= 5; i++) {
                due("best(" + n + ", " + i + ")", x.best(n, i), BAD);
            }
            dueRefusals("all", x, "9 0 0 0 0");
        }
        for (int n = 1; n <= 4; n++) {
            UnderNurseToTheTemper x = one(0, 1, 40);
            put(x, 60, 60, 1, 99, 1);
            due("HARMS of " + n, x.best(n, -2), 0);
            due("RAGE of " + n, x.best(n, NONE), 60 - n);
            for (int i = 0; i < n; i++) {
                due("ORDER " + i + " of " + n, x.best(n, i), 0);
            }
            dueRefusals("none of " + n, x, "0 0 0 0 0");
            for (int i : new int[] {-3, n, n + 1, LOW, HIGH}) {
                due("best(" + n + ", " + i + ")", x.best(n, i), BAD);
            }
            dueRefusals("five of " + n, x, "5 0 0 0 0");
            dueMeasures("nothing is changed", x, "60 60 1 99 1");
        }
    }

    /** Two KEEPERS: 64 ROSTERS of three HOURS, each judged by the calls for told ROSTERS. */
    private static void bestOfAll(UnderNurseToTheTemper x) {
        int[] orders = {NONE, 0, 1, MEETING};
        x.row(0, 0, 3);
        String found = "";
        int harms = HIGH;
        int rage = HIGH;
        for (int code = 0; code < 64; code++) {
            int[] roster = {orders[code / 16], orders[code / 4 % 4], orders[code % 4]};
            for (int i = 0; i < 3; i++) {
                x.set(0, i, roster[i]);
            }
            int itsHarms = x.behind(0, 3, 3);
            int itsRage = x.behind(0, 3, 0);
            if (itsHarms < harms || itsHarms == harms && itsRage < rage) {
                harms = itsHarms;
                rage = itsRage;
                found = roster[0] + " " + roster[1] + " " + roster[2];
            }
        }
        due("HARMS", x.best(3, -2), harms);
        due("RAGE", x.best(3, NONE), rage);
        due("ORDERS", x.best(3, 0) + " " + x.best(3, 1) + " " + x.best(3, 2), found);
    }

    private static void bestOfSeveral() {
        sentence("of all ROSTERS the one with fewest HARMS, then least RAGE behind it, of several the first by rows");
        int[][] houses = {{20, 60, 1, 50, 0}, {0, 0, 1, 1, 0}, {99, 99, 9, 1, 0}, {50, 40, 2, 50, 11}, {51, 0, 1, 50, 3},
            {8, 60, 1, 9, 12}, {49, 99, 9, 50, 9999}, {2, 1, 1, 3, 4}};
        int[][] staffs = {{0, 5, 40, 2, 0, 40}, {0, 9, 0, 5, 9, 40}, {5, 1, 40, 5, 0, 40}, {3, 0, 0, 3, 0, 0},
            {4, 9, 5, 1, 0, 20}};
        for (int[] has : houses) {
            for (int[] who : staffs) {
                UnderNurseToTheTemper x = one(who[0], who[1], who[2]);
                x.keeper(who[3], who[4], who[5]);
                put(x, has[0], has[1], has[2], has[3], has[4]);
                bestOfAll(x);
            }
        }
        UnderNurseToTheTemper y = fresh();
        for (int k = 0; k < 8; k++) {
            y.keeper(0, k == 7 ? 2 : 1, 40);
        }
        put(y, 60, 90, 1, 99, 1);
        due("another house", y.best(1, NONE), 58);
        due("the last of eight, four times", y.best(4, NONE), 52);
        put(y, 70, 99, 1, 99, 1);
        due("more RAGE than there was", y.best(4, NONE), 62);
        put(y, 60, 90, 1, 99, 1);
        for (int i = 0; i < 4; i++) {
            due("ORDER " + i, y.best(4, i), 7);
        }
    }

    // ---- RAGES, NERVES, SEND ----

    private static void fitting(String when, UnderNurseToTheTemper x, int n, String want) {
        due(when, x.rages(0, n, 0) + " " + x.rages(0, n, 1) + " " + x.rages(0, n, 2), want);
    }

    private static void rages() {
        sentence("RAGES (0 to 99 at first): how many (what 0), the least (1; NONE), the greatest (2; NONE)");
        UnderNurseToTheTemper x = one(0, 0, 33);
        lay(x, 0, 0, 0, 1, 0, 1);
        fitting("none told", x, 0, "100 0 99");
        fitting("all but 99 STAYED", x, 1, "99 0 98");
        x.set(0, 1, 0);
        fitting("99 alone FLED", x, 1, "1 99 99");
        fitting("FLED, then STAYED", x, 2, "0 -1 -1");
        x.nerve(0, 34);
        fitting("none FLED", x, 1, "0 -1 -1");
        x.nerve(0, 0);
        fitting("all FLED", x, 1, "100 0 99");
        x.nerve(0, 1);
        x.set(0, 1, 1);
        fitting("a third of 2 is none", x, 1, "3 0 2");
        UnderNurseToTheTemper y = one(5, 0, 40);
        y.tell(3, 1);
        lay(y, 0, 0, 0, 1);
        fitting("below BAR 1", y, 1, "1 0 0");
        for (int what : new int[] {-1, 3, LOW, HIGH}) {
            due("what " + what, y.rages(0, 0, what), BAD);
            due("what " + what + " of NOTHING", y.rages(1, 0, what), BAD);
        }
        dueRefusals("eight", y, "8 0 0 0 0");
        dueRefusals("NONE isn't refused", x, "0 0 0 0 0");
        sentence("one HOUR behind the other");
        UnderNurseToTheTemper z = one(5, 1, 40);
        z.row(0, 4, 40);
        for (int i = 0; i < 20; i++) {
            z.set(0, 2 * i + 1, 1);
        }
        // RAGE is 1 more each HOUR and BAR 50: ahead of the twentieth it is 19 more.
        fitting("20 twos", z, 20, "31 0 30");
        fitting("19 twos", z, 19, "32 0 31");
    }

    private static void nerving(String when, UnderNurseToTheTemper x, int n, String want) {
        due(when, x.nerves(0, n, 0, 0) + " " + x.nerves(0, n, 0, 1) + " " + x.nerves(0, n, 0, 2), want);
    }

    private static void nerves() {
        sentence("NERVES (0 to 40) of one: how many; the least; the greatest");
        UnderNurseToTheTemper x = one(0, 0, 20);
        lay(x, 0, 0, 0, 1);
        nerving("none told", x, 0, "41 0 40");
        put(x, 99, 60, 7, 50, 1);
        nerving("FRIGHT 40", x, 1, "1 40 40");
        x.tell(2, 8);
        nerving("FRIGHT 41", x, 1, "0 -1 -1");
        x.set(0, 1, 0);
        nerving("FLED by FRIGHT 41", x, 1, "41 0 40");
        x.tell(2, 7);
        nerving("FLED by FRIGHT 40", x, 1, "40 0 39");
        put(x, 0, 60, 1, 50, 1);
        nerving("FLED by FRIGHT 1", x, 1, "1 0 0");
        x.set(0, 1, 1);
        nerving("STAYED by FRIGHT 1", x, 1, "40 1 40");
        due("NERVE as it was", x.keeperOf(0, 2), 20);
        dueRefusals("NONE isn't refused", x, "0 0 0 0 0");
        for (int keeper : new int[] {-1, 1, 10, LOW, HIGH}) {
            due("keeper " + keeper, x.nerves(0, 0, keeper, 0), BAD);
            due("keeper " + keeper + " of NOTHING", x.nerves(1, 0, keeper, 0), BAD);
        }
        for (int what : new int[] {-1, 3, LOW, HIGH}) {
            due("what " + what, x.nerves(0, 0, 0, what), BAD);
            due("what " + what + " of NOTHING", x.nerves(1, 0, 0, what), BAD);
        }
        dueRefusals("18", x, "18 0 0 0 0");
    }

    private static void twosThatMayNotBe() {
        sentence("STUCK: a two that may not be");
        long[][] bad = {{-1, 1}, {6, 1}, {10, 1}, {0, 2}, {0, -1}, {1L << 32, 1}, {0, (1L << 32) + 1}, {-1, 2},
            {Long.MIN_VALUE, 0}, {0, Long.MIN_VALUE}};
        for (Asked asked : TWOS) {
            for (long[] two : bad) {
                UnderNurseToTheTemper x = six();
                lay(x, 0, 3, 5, 1, two[0], two[1]);
                due(asked.name + " of " + two[0] + " " + two[1], asked.call.on(x, 0, 2), STUCK);
                dueRefusals("one", x, "0 0 0 1 0");
                due(asked.name + " ahead of it", isAnswered(asked.call.on(x, 0, 1)) ? 1 : 0, 1);
                due(asked.name + " with fewer elements", asked.call.on(x, 0, 3), BAD);
                dueRefusals("one more", x, "1 0 0 1 0");
            }
            for (long[] two : new long[][] {{0, 0}, {0, 1}, {5, 0}, {5, 1}}) {
                UnderNurseToTheTemper x = six();
                lay(x, 0, 3, 5, 1, two[0], two[1]);
                due(asked.name + " of " + two[0] + " " + two[1], isAnswered(asked.call.on(x, 0, 2)) ? 1 : 0, 1);
                dueRefusals("none", x, "0 0 0 0 0");
            }
        }
        UnderNurseToTheTemper y = fresh();
        lay(y, 0, 0, 0, 1);
        due("rages without KEEPERS", y.rages(0, 1, 0), STUCK);
        due("send without KEEPERS", y.send(0, 1), STUCK);
    }

    private static void send() {
        sentence("NONE: fewer than two, or no KEEPERS");
        UnderNurseToTheTemper x = fresh();
        x.row(0, 0, 2);
        due("no KEEPERS", x.send(0, 0), NONE);
        x.keeper(5, 0, 40);
        x.set(0, 1, 1);
        x.tell(3, 2);
        due("two RAGES", x.rages(0, 1, 0), 2);
        due("of two", x.send(0, 1), 0);
        x.tell(3, 1);
        due("one RAGE", x.rages(0, 1, 0), 1);
        due("of one", x.send(0, 1), NONE);
        x.nerve(0, 0);
        due("no RAGE", x.rages(0, 1, 0), 0);
        due("of none", x.send(0, 1), NONE);
        dueRefusals("NONE isn't refused", x, "0 0 0 0 0");
        sentence("parted best: in the worst case fewest are left, of several the first");
        UnderNurseToTheTemper y = fresh();
        y.row(0, 0, 2);
        // GROWTH 1: NERVE 16 parts 100 RAGES as 48 and 52, NERVE 17 as 51 and 49, a coward by BAR 50 as 50 and 50.
        y.keeper(0, 0, 16);
        due("48 and 52", y.send(0, 0), 0);
        y.keeper(0, 0, 17);
        due("51 and 49", y.send(0, 0), 1);
        y.keeper(3, 0, 0);
        due("100 and none", y.send(0, 0), 1);
        y.keeper(5, 0, 40);
        due("50 and 50", y.send(0, 0), 3);
        y.tell(3, 49);
        due("49 and 51, as the one ahead of him", y.send(0, 0), 1);
        y.tell(3, 48);
        due("48 and 52", y.send(0, 0), 1);
        y.tell(3, 52);
        due("52 and 48", y.send(0, 0), 1);
        y.tell(3, 51);
        due("51 and 49", y.send(0, 0), 1);
        sentence("sent now, those RAGES (at first)");
        UnderNurseToTheTemper z = one(0, 0, 0);
        z.keeper(0, 0, 17);
        z.keeper(0, 0, 18);
        z.tell(4, 12);
        lay(z, 0, 0, 0, 0);
        // By GROWTH 1 they part 100 RAGES as 51 and 49, as 54 and 46; by GROWTH 2, behind the HOUR told, the next is better.
        due("by GROWTH as it is now", z.send(0, 1), 1);
        z.tell(2, 2);
        due("by GROWTH 2", z.send(0, 1), 2);
    }

    public static void main(String[] args) {
        firstElements();
        firstTwos();
        shelves();
        wrong();
        unkept();
        behind();
        way();
        matters();
        instead();
        best();
        bestOfSeveral();
        rages();
        nerves();
        twosThatMayNotBe();
        send();
        finish("edges of ROSTERS");
    }
}
