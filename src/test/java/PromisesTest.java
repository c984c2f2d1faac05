/** For each promise of the document its ordinary inputs, its edges and its refusals, worked out by hand. */
public final class PromisesTest extends Bench {
    private static void p01() {
        UnderNurseToTheTemper x = fresh();
        int[] want = {0, 20, 60, 1, 50, 0, 0, 0, 1, 0, NONE, NONE, 0, 0, 0, 0, 0, NONE};
        for (int what = 0; what < want.length; what++) {
            due("status(" + what + ")", x.status(what), want[what]);
        }
        for (int s = 0; s < 8; s++) {
            due("holds(" + s + ")", x.holds(s), NONE);
        }
        due("back()", x.back(), STUCK);
        due("house() of an empty tape", x.house(), -20);
        due("NONE", UnderNurseToTheTemper.NONE, NONE);
    }

    private static void p02() {
        UnderNurseToTheTemper x = one(0, 0, 0);
        due("row(0, 0, 0)", x.row(0, 0, 0), 1);
        due("holds(0)", x.holds(0), 0);
        due("row(7, 4, 40)", x.row(7, 4, 40), 1);
        due("set(7, 39)", x.set(7, 39, 1), 1);
        due("element(7, 39)", x.element(7, 39), 1);
        due("row(7, 3, 40) anew", x.row(7, 3, 40), 1);
        due("element(7, 39) anew", x.element(7, 39), 0);
        x.show(1, 0);
        due("row over a keeper", x.row(1, 2, 3), 1);
        due("holds(1)", x.holds(1), 2);
        due("s -1", x.row(-1, 0, 0), BAD);
        due("s 8", x.row(8, 0, 0), BAD);
        due("sort -1", x.row(0, -1, 0), BAD);
        due("sort 5", x.row(0, 5, 0), BAD);
        due("n -1", x.row(0, 0, -1), BAD);
        due("n 41", x.row(0, 0, 41), BAD);
        due("all low", x.row(LOW, LOW, LOW), BAD);
        due("all high", x.row(HIGH, HIGH, HIGH), BAD);
        due("BAD in all", x.status(12), 8);
        due("holds(0) behind them", x.holds(0), 0);
    }

    private static void p03() {
        UnderNurseToTheTemper x = one(0, 0, 0);
        long[][] cuts = {{0, 300, 44}, {0, -129, 127}, {0, 128, -128}, {1, 70000, 4464}, {1, 32768, -32768},
            {2, (1L << 32) + 5, 5}, {2, 1L << 31, LOW}, {3, Long.MIN_VALUE, Long.MIN_VALUE},
            {3, Long.MAX_VALUE, Long.MAX_VALUE}, {4, 256, 1}, {4, -1, 1}, {4, 1L << 40, 1}, {4, 0, 0}};
        for (long[] cut : cuts) {
            x.row(0, (int) cut[0], 2);
            due("set(0, 1, " + cut[1] + ") sort " + cut[0], x.set(0, 1, cut[1]), 1);
            due("element(0, 1)", x.element(0, 1), cut[2]);
            due("element(0, 0)", x.element(0, 0), 0);
        }
        x.row(0, 4, 1);
        x.set(0, 0, 1);
        due("a boolean becomes 0", x.set(0, 0, 0), 1);
        due("element(0, 0)", x.element(0, 0), 0);
        x.show(1, 0);
        due("shelf 8", x.set(8, 0, 0), BAD);
        due("shelf -1", x.set(-1, -1, 0), BAD);
        due("a keeper, bad i", x.set(1, -1, 0), OTHER);
        due("nothing, bad i", x.set(2, -1, 0), NOTHING);
        due("i -1", x.set(0, -1, 0), BAD);
        due("i 1 of 1", x.set(0, 1, 0), BAD);
        due("i high", x.set(0, HIGH, 0), BAD);
        x.row(0, 0, 0);
        due("i 0 of none", x.set(0, 0, 0), BAD);
        due("refusals", x.status(12) * 100 + x.status(13) * 10 + x.status(14), 611);
    }

    private static void p04() {
        UnderNurseToTheTemper x = one(0, 0, 0);
        lay(x, 0, 2, 1, 2, 3, 4, 5);
        lay(x, 1, 2, 9, 9, 9);
        lay(x, 2, 1, 7, 7, 7);
        x.show(3, 0);
        due("copy(0, 1, 2, 1, 2)", x.copy(0, 1, 2, 1, 2), 2);
        due("1 has", x.element(1, 0) * 100 + x.element(1, 1) * 10 + x.element(1, 2), 934);
        due("upward over itself", x.copy(0, 0, 0, 1, 4), 4);
        long all = 0;
        for (int i = 0; i < 5; i++) {
            all = all * 10 + x.element(0, i);
        }
        due("0 has", all, 11234);
        due("downward over itself", x.copy(0, 0, 2, 0, 3), 3);
        all = 0;
        for (int i = 0; i < 5; i++) {
            all = all * 10 + x.element(0, i);
        }
        due("0 has", all, 23434);
        due("none at the ends", x.copy(0, 1, 5, 3, 0), 0);
        due("shelf q 8 and a keeper", x.copy(3, 8, 0, 0, 0), BAD);
        due("shelf p -1", x.copy(-1, 0, 0, 0, 0), BAD);
        due("a keeper, and nothing", x.copy(3, 5, 0, 0, -1), OTHER);
        due("nothing, and a keeper", x.copy(5, 3, 0, 0, -1), OTHER);
        due("two sorts, bad n", x.copy(0, 2, 0, 0, -1), OTHER);
        due("nothing in q, bad n", x.copy(0, 5, 0, 0, -1), NOTHING);
        due("nothing in p", x.copy(5, 0, 0, 0, 1), NOTHING);
        due("nothing in both", x.copy(5, 5, 0, 0, 0), NOTHING);
        due("n -1", x.copy(0, 1, 0, 0, -1), BAD);
        due("i -1", x.copy(0, 1, -1, 0, 1), BAD);
        due("j -1", x.copy(0, 1, 0, -1, 1), BAD);
        due("past the end of p", x.copy(1, 0, 1, 0, 3), BAD);
        due("past the end of q", x.copy(0, 1, 0, 1, 3), BAD);
        due("i and n run over", x.copy(0, 0, HIGH, 0, HIGH), BAD);
        due("n high", x.copy(0, 0, 1, 1, HIGH), BAD);
        due("none past the end", x.copy(0, 1, 6, 0, 0), BAD);
        due("refusals", x.status(12) * 100 + x.status(13) * 10 + x.status(14), 1033);
        due("0 as it was", x.element(0, 0), 2);
    }

    private static void p05() {
        UnderNurseToTheTemper x = one(0, 0, 0);
        lay(x, 0, 0, 5, -6);
        x.show(1, 0);
        due("element(0, 1)", x.element(0, 1), -6);
        due("element(0, 2)", x.element(0, 2), 0);
        due("element(0, -1)", x.element(0, -1), 0);
        due("of a keeper", x.element(1, 0), 0);
        due("of nothing", x.element(2, 0), 0);
        due("no shelf", x.element(8, 0), 0);
        due("no shelf", x.element(LOW, HIGH), 0);
        due("nothing is refused", x.status(12) + x.status(13) + x.status(14), 0);
        x.show(0, 0);
        x.show(0, NONE);
        due("a row that is gone", x.element(0, 1), 0);
    }

    private static void p06() {
        UnderNurseToTheTemper x = six();
        for (int sort = 0; sort < 5; sort++) {
            x.row(sort, sort, 1);
            due("holds(" + sort + ")", x.holds(sort), sort);
        }
        x.show(5, 0);
        x.show(6, 5);
        due("keeper 0", x.holds(5), 10);
        due("keeper 5", x.holds(6), 15);
        due("nothing", x.holds(7), NONE);
        due("no shelf", x.holds(8), NONE);
        due("no shelf", x.holds(-1), NONE);
        due("nothing is refused", x.status(12), 0);
    }

    private static void p07() {
        UnderNurseToTheTemper x = one(0, 0, 0);
        due("no keeper 1", x.show(0, 1), BAD);
        due("no keeper -2", x.show(0, -2), BAD);
        due("shelf 8", x.show(8, 0), BAD);
        due("shelf -1", x.show(-1, NONE), BAD);
        due("show(0, 0)", x.show(0, 0), 1);
        due("status(9)", x.status(9), 1);
        due("show(0, NONE)", x.show(0, NONE), 1);
        due("holds(0)", x.holds(0), NONE);
        x.row(1, 3, 3);
        due("over a row", x.show(1, 0), 1);
        due("holds(1)", x.holds(1), 10);
        due("BAD in all", x.status(12), 4);
    }

    private static void p08() {
        UnderNurseToTheTemper x = six();
        int[][] want = {
            {12, OTHER, OTHER, OTHER, OTHER, OTHER},
            {10, 37, OTHER, OTHER, OTHER, OTHER},
            {20, OTHER, 33, OTHER, OTHER, OTHER},
            {0, 37, OTHER, 37, OTHER, OTHER},
            {9, OTHER, 27, OTHER, 27, OTHER},
            {30, OTHER, OTHER, OTHER, OTHER, 51}};
        for (int k = 0; k < 6; k++) {
            x.show(0, k);
            for (int kind = 0; kind < 6; kind++) {
                due("keeper " + k + " says as " + kind, x.says(0, kind), want[k][kind]);
            }
        }
        x.tell(0, 45);
        x.show(0, 1);
        due("a singer, RAGE odd", x.says(0, 1), 41);
        x.tell(0, 95);
        x.show(0, 5);
        due("a coward, 99 at most", x.says(0, 5), 99);
        x.tell(0, 3);
        x.show(0, 4);
        due("a brave one, 0 at least", x.says(0, 4), 0);
        x.row(1, 0, 0);
        due("shelf 8", x.says(8, 0), BAD);
        due("kind 6 of nothing", x.says(2, 6), BAD);
        due("kind -1 of a row", x.says(1, -1), BAD);
        due("a row", x.says(1, 0), OTHER);
        due("nothing", x.says(2, 0), NOTHING);
        due("refusals", x.status(12) * 1000 + x.status(13) * 10 + x.status(14), 3241);
        due("nobody fled by it", x.status(6), 0);
    }

    private static void p09() {
        UnderNurseToTheTemper x = fresh();
        for (int k = 0; k < 8; k++) {
            due("keeper " + k, x.keeper(k % 6, k, 40), k);
        }
        due("a ninth", x.keeper(0, 0, 0), FULL);
        due("a bad ninth", x.keeper(6, 0, 0), BAD);
        due("keeperOf(7, 1)", x.keeperOf(7, 1), 7);
        UnderNurseToTheTemper y = fresh();
        due("kind -1", y.keeper(-1, 0, 0), BAD);
        due("kind 6", y.keeper(6, 0, 0), BAD);
        due("a -1", y.keeper(0, -1, 0), BAD);
        due("a 10", y.keeper(0, 10, 0), BAD);
        due("nerve -1", y.keeper(0, 0, -1), BAD);
        due("nerve 41", y.keeper(0, 0, 41), BAD);
        due("the most", y.keeper(5, 9, 40), 0);
        due("BAD", y.status(12), 6);
        due("FULL", x.status(16), 1);
        due("KEEPERS", x.status(0), 8);
    }

    private static void p10() {
        UnderNurseToTheTemper x = six();
        due("nerve(1, 40)", x.nerve(1, 40), 10);
        due("nerve(1, 0)", x.nerve(1, 0), 40);
        due("keeperOf(1, 2)", x.keeperOf(1, 2), 0);
        due("keeperOf(2, 2)", x.keeperOf(2, 2), 20);
        due("41", x.nerve(1, 41), BAD);
        due("-1", x.nerve(1, -1), BAD);
        due("keeper 6", x.nerve(6, 0), BAD);
        due("keeper -1", x.nerve(-1, 0), BAD);
        due("BAD", x.status(12), 4);
    }

    private static void p11() {
        UnderNurseToTheTemper x = fresh();
        int[][] bounds = {{0, 99, 20}, {0, 99, 60}, {1, 9, 1}, {1, 99, 50}, {0, 9999, 0}};
        for (int what = 0; what < 5; what++) {
            due("least of " + what, x.tell(what, bounds[what][0]), bounds[what][2]);
            due("most of " + what, x.tell(what, bounds[what][1]), bounds[what][0]);
            due("below " + what, x.tell(what, bounds[what][0] - 1), BAD);
            due("above " + what, x.tell(what, bounds[what][1] + 1), BAD);
            due("status", x.status(what + 1), bounds[what][1]);
        }
        due("what -1", x.tell(-1, 1), BAD);
        due("what 5", x.tell(5, 1), BAD);
        due("BAD", x.status(12), 12);
        dueMeasures("behind all", x, "99 99 9 99 9999");
    }

    private static void p12() {
        UnderNurseToTheTemper x = fresh();
        due("-1", x.feed(-1), BAD);
        due("256", x.feed(256), BAD);
        due("0", x.feed(0), 1);
        due("255", x.feed(255), 2);
        for (int i = 3; i <= 250; i++) {
            due("letter " + i, x.feed(32), i);
        }
        due("one more", x.feed(32), FULL);
        due("a bad one more", x.feed(256), BAD);
        due("status(7)", x.status(7), 250);
        due("BAD", x.status(12), 3);
        due("FULL", x.status(16), 1);
    }

    private static void p13() {
        UnderNurseToTheTemper x = fresh();
        due("empty", x.wipe(), 0);
        x.feed('r');
        x.feed('a');
        due("two", x.wipe(), 2);
        due("status(7)", x.status(7), 0);
        due("again", x.wipe(), 0);
        due("only what was fed behind it", read(x, "bar 7"), 1);
        due("BAR", x.status(4), 7);
    }

    private static void p14() {
        String[] right = {"rage 0", "rage 99;calm 0;grown 9;bar 1;hour 999", "  keeper0 9 40  ;nerve 0 007 ",
            "hour1;hour2;hour3", "keeper 5 0 0;keeper 4 1 1;nerve 1 40;nerve 0 40"};
        int[] count = {1, 5, 2, 3, 4};
        for (int i = 0; i < right.length; i++) {
            UnderNurseToTheTemper x = fresh();
            due(right[i], read(x, right[i]), count[i]);
            due("the tape behind it", x.status(7), 0);
            due("nothing refused", x.status(12), 0);
        }
        Object[][] faulty = {{"", 0}, {"   ", 3}, {";", 0}, {"rage", 4}, {"rage ", 5}, {"rage 5;", 7}, {"rage 5 ; ", 9},
            {"rage 5 5", 7}, {"rage 5 calm 5", 7}, {"rage 5;;calm 5", 7}, {"rage 100", 5}, {"rage 0005", 5},
            {"calm 100", 5}, {"grown 0", 6}, {"grown 10", 6}, {"bar 0", 4}, {"bar 100", 4}, {"hour 1000", 5},
            {"rage -5", 5}, {"Rage 5", 0}, {"rage 5\t", 6}, {"rage 5X", 6}, {"rages 5", 0}, {"rag 5", 0}, {"5 rage", 0},
            {"rage calm", 5}, {"rage ;", 5}, {"keeper 6 0 0", 7}, {"keeper 0 10 0", 9}, {"keeper 0 0 41", 11},
            {"keeper 0 0", 10}, {"keeper 0 0;", 10}, {"nerve 0 0", 6}, {"keeper 0 0 0;nerve 1 0", 19},
            {"keeper 0 0 0;nerve 0 41", 21}, {"growth 5", 0}, {"rage 99999999999999999999", 5},
            {"calm 1;bar 2;hour 3;rag", 20}, {"k", 0}, {"rage 5" + (char) 233, 6}};
        for (Object[] fault : faulty) {
            UnderNurseToTheTemper x = fresh();
            due("'" + fault[0] + "'", read(x, (String) fault[0]), -20 - (Integer) fault[1]);
            due("BAD", x.status(12), 1);
            due("the tape behind it", x.status(7), 0);
            due("KEEPERS", x.status(0), 0);
            dueMeasures("'" + fault[0] + "'", x, "20 60 1 50 0");
        }
        houseThatComesToWhatThereIs();
        houseWithoutRoom();
    }

    private static void houseThatComesToWhatThereIs() {
        UnderNurseToTheTemper x = six();
        x.order(0);
        due("comes to it", read(x, "keeper 2 1 3; nerve 6 4; nerve 0 1; rage 9; rage 8; hour 7"), 6);
        due("KEEPERS", x.status(0), 7);
        due("his NERVE", x.keeperOf(6, 2), 4);
        due("another's NERVE", x.keeperOf(0, 2), 1);
        due("another's FLED", x.keeperOf(0, 3), 1);
        dueMeasures("behind it", x, "8 70 2 50 7");
        due("all or nothing", read(x, "keeper 0 0 0; nerve 0 9; bar 3; calm 100"), -20 - 37);
        due("KEEPERS", x.status(0), 7);
        due("NERVE", x.keeperOf(0, 2), 1);
        due("BAR", x.status(4), 50);
    }

    private static void houseWithoutRoom() {
        UnderNurseToTheTemper x = six();
        due("two fit, a third does not", read(x, "keeper 0 0 0;keeper 0 0 0; keeper 0 0 0"), -20 - 27);
        due("none came", x.status(0), 6);
        due("two fit", read(x, "keeper 0 0 0;keeper 0 0 0"), 2);
        due("the word is first", read(x, "keeper 9 9 99"), -20);
        due("the word is first", read(x, "  keeper"), -22);
        due("others go on", read(x, "nerve 7 9"), 1);
        StringBuilder text = new StringBuilder("bar 1");
        while (text.length() < 250) {
            text.append(text.length() < 245 ? ";bar 1" : " ");
        }
        text.setLength(250);
        due("a full tape", read(x, text.toString()), 41);
        due("FULL", x.status(16), 0);
    }

    private static void p15() {
        UnderNurseToTheTemper x = six();
        x.order(0);
        x.order(0);
        int[][] want = {{0, 5, 12, 2}, {1, 4, 10, 0}, {2, 3, 20, 0}, {3, 2, 0, 0}, {4, 6, 9, 0}, {5, 7, 30, 0}};
        for (int k = 0; k < 6; k++) {
            for (int what = 0; what < 4; what++) {
                due("keeperOf(" + k + ", " + what + ")", x.keeperOf(k, what), want[k][what]);
            }
        }
        due("what 4", x.keeperOf(0, 4), BAD);
        due("what -1", x.keeperOf(0, -1), BAD);
        due("keeper 6", x.keeperOf(6, 0), BAD);
        due("keeper -1", x.keeperOf(-1, 0), BAD);
        due("BAD", x.status(12), 4);
    }

    private static void p16() {
        UnderNurseToTheTemper x = fresh();
        due("20, 1", x.fright(), 7);
        x.tell(0, 21);
        due("21, 1", x.fright(), 8);
        x.tell(0, 0);
        x.tell(2, 9);
        due("0, 9", x.fright(), 9);
        x.tell(0, 99);
        due("99, 9", x.fright(), 42);
        x.tell(0, 98);
        due("98, 9", x.fright(), 41);
    }

    private static void p17() {
        UnderNurseToTheTemper x = six();
        int[] least = {16, 12, 16, 0, 8, 16};
        for (int k = 0; k < 6; k++) {
            x.nerve(k, least[k]);
            due("stays(" + k + ")", x.stays(k), 1);
            if (least[k] > 0) {
                x.nerve(k, least[k] - 1);
                due("stays(" + k + ") with less", x.stays(k), 0);
            }
        }
        x.nerve(5, 40);
        x.tell(3, 45);
        due("a coward below BAR", x.stays(5), 1);
        x.tell(3, 44);
        due("a coward at BAR", x.stays(5), 0);
        x.nerve(0, 40);
        due("a keeper at BAR", x.stays(0), 1);
        x.tell(0, 99);
        x.tell(2, 9);
        due("a nurse", x.stays(3), 1);
        due("keeper 6", x.stays(6), BAD);
        due("keeper -1", x.stays(-1), BAD);
        due("BAD", x.status(12), 2);
    }

    private static void p18() {
        due("staying()", six().staying(), 60);
        due("nobody there", fresh().staying(), 0);
        UnderNurseToTheTemper x = six();
        x.nerve(0, 16);
        x.nerve(1, 12);
        x.tell(3, 44);
        due("staying()", x.staying(), 31);
        x.keeper(3, 0, 0);
        x.keeper(3, 0, 0);
        due("staying()", x.staying(), 223);
    }

    private static void p19() {
        UnderNurseToTheTemper x = six();
        int[] orders = {NONE, 0, 1, 2, 3, 4, 5, MEETING};
        int[][] want = {{48, 70, 2, 0}, {48, 70, 2, 0}, {48, 70, 2, 0}, {33, 70, 3, 0}, {37, 70, 2, 0}, {27, 70, 3, 0},
            {51, 69, 2, 1}, {50, 63, 2, 1}};
        for (int i = 0; i < orders.length; i++) {
            for (int what = 0; what < 4; what++) {
                due("after(" + orders[i] + ", " + what + ")", x.after(orders[i], what), want[i][what]);
            }
        }
        dueMeasures("nothing changed", x, "44 70 2 50 8");
        due("nobody fled", x.status(6), 0);
        hoursAtTheirEdges(x);
        due("order 6", x.after(6, 0), BAD);
        due("order 9", x.after(9, 0), BAD);
        due("order 11", x.after(11, 0), BAD);
        due("order -2", x.after(-2, 0), BAD);
        due("what 4", x.after(NONE, 4), BAD);
        due("what -1", x.after(NONE, -1), BAD);
        due("BAD", x.status(12), 6);
    }

    private static void hoursAtTheirEdges(UnderNurseToTheTemper x) {
        x.tell(4, 9);
        due("a feeder, hour 9", x.after(2, 2), 2);
        x.tell(4, 12);
        due("nobody, hour 12, GROWTH", x.after(NONE, 2), 3);
        due("nobody, hour 12, RAGE by the old GROWTH", x.after(NONE, 0), 48);
        due("one who flees, hour 12", x.after(0, 2), 3);
        due("a nurse, hour 12", x.after(3, 2), 2);
        due("a meeting, hour 12", x.after(MEETING, 2), 2);
        put(x, 0, 0, 9, 1, 0);
        x.nerve(2, 40);
        due("GROWTH 9 at most, alone", x.after(NONE, 2), 9);
        due("GROWTH 9 at most, fed", x.after(2, 2), 9);
        due("CALM 0 at least", x.after(NONE, 1), 0);
        due("HARM at BAR", x.after(NONE, 3), 1);
        put(x, 98, 50, 2, 99, 1);
        due("RAGE 99 at most", x.after(NONE, 0), 99);
        due("a meeting down", x.after(MEETING, 0), 86);
        due("a meeting down", x.after(MEETING, 1), 62);
        put(x, 50, 53, 1, 51, 1);
        due("a quarter cut toward 0", x.after(MEETING, 0), 50);
        due("no HARM below BAR", x.after(MEETING, 3), 0);
        put(x, 53, 50, 1, 53, 1);
        due("a quarter cut toward 0", x.after(MEETING, 0), 53);
        due("a HARM at BAR", x.after(MEETING, 1), 49);
        put(x, 45, 50, 2, 99, 1);
        x.nerve(1, 40);
        due("a singer, RAGE odd", x.after(1, 0), 41);
        due("a nurse, RAGE odd", x.after(3, 0), 41);
        put(x, 2, 50, 1, 99, 1);
        x.nerve(0, 40);
        due("RAGE 0 at least", x.after(0, 0), 0);
    }

    private static void p20() {
        UnderNurseToTheTemper x = six();
        due("RAGE", x.bestNow(0), 4);
        due("CALM", x.bestNow(1), NONE);
        due("GROWTH", x.bestNow(2), NONE);
        x.tell(4, 12);
        due("GROWTH, hour 12", x.bestNow(2), 3);
        put(x, 80, 20, 1, 50, 1);
        due("CALM by a meeting", x.bestNow(1), MEETING);
        x.keeper(4, 6, 40);
        x.nerve(4, 40);
        due("of several the first", x.bestNow(0), 4);
        due("nobody there, RAGE", fresh().bestNow(0), NONE);
        due("nobody there, GROWTH", fresh().bestNow(2), MEETING);
        due("what 3", x.bestNow(3), BAD);
        due("what -1", x.bestNow(-1), BAD);
        due("BAD", x.status(12), 2);
    }

    /** The refusals that all ROSTERS share. */
    private static void rosterRefusals(String name, Roster call, boolean isJudge) {
        UnderNurseToTheTemper x = six();
        lay(x, 0, 3, 2, 6, NONE);
        x.show(1, 0);
        due(name + " shelf 8", call.on(x, 8, 1), BAD);
        due(name + " shelf -1", call.on(x, -1, 1), BAD);
        due(name + " n 41, a keeper", call.on(x, 1, 41), BAD);
        due(name + " n -1, nothing", call.on(x, 2, -1), BAD);
        due(name + " a keeper", call.on(x, 1, 1), OTHER);
        due(name + " nothing", call.on(x, 2, 1), NOTHING);
        due(name + " fewer elements, ahead of WRONG", call.on(x, 0, 4), BAD);
        due(name + " WRONG", call.on(x, 0, 2), isJudge ? 1 : STUCK);
        x.set(0, 1, (1L << 32) + 2);
        due(name + " WRONG by the upper bits alone", call.on(x, 0, 3), isJudge ? 1 : STUCK);
        due(name + " refusals", x.status(12) * 1000 + x.status(13) * 100 + x.status(14) * 10 + x.status(15),
            isJudge ? 5110 : 5112);
        dueMeasures(name + " leaves", x, "44 70 2 50 8");
    }

    private interface Roster {
        int on(UnderNurseToTheTemper x, int s, int n);
    }

    /** Behind 5, 5, 0, 10, NONE: 51 69, 55 68, 59 67, 57 68, 61 67; HARMS in all; the second 5 and the 0 FLED. */
    private static UnderNurseToTheTemper fiveHours() {
        UnderNurseToTheTemper x = six();
        lay(x, 0, 1, 5, 5, 0, MEETING, NONE);
        return x;
    }

    private static void p21() {
        UnderNurseToTheTemper x = fiveHours();
        // RAGE 44, 51, 55, 59; (59 - 67) / 4 is -2: 61, CALM 65 less 1; hour 12: 65, GROWTH 3.
        int[][] want = {{44, 70, 2, 0, 0}, {51, 69, 2, 1, 0}, {55, 68, 2, 2, 1}, {59, 67, 2, 3, 2}, {61, 64, 2, 4, 2},
            {65, 63, 3, 5, 2}};
        for (int n = 0; n <= 5; n++) {
            for (int what = 0; what < 5; what++) {
                due("behind(0, " + n + ", " + what + ")", x.behind(0, n, what), want[n][what]);
            }
        }
        dueMeasures("nothing changed", x, "44 70 2 50 8");
        due("nobody fled", x.status(6), 0);
        due("what 5", x.behind(0, 0, 5), BAD);
        due("what -1 of nothing", x.behind(3, 0, -1), BAD);
        lay(x, 1, 4, 1, 0);
        due("booleans are numbers", x.behind(1, 2, 4), 2);
        x.row(2, 0, 40);
        due("40 HOURS", x.behind(2, 40, 4), 40);
        rosterRefusals("behind", (y, s, n) -> y.behind(s, n, 0), false);
    }

    private static void p22() {
        UnderNurseToTheTemper x = fiveHours();
        due("unkept(0, 5)", x.unkept(0, 5), 1);
        due("unkept(0, 1)", x.unkept(0, 1), NONE);
        due("unkept(0, 0)", x.unkept(0, 0), NONE);
        lay(x, 1, 0, NONE, MEETING, 3, 0);
        due("nobody and a meeting don't flee", x.unkept(1, 4), 3);
        due("NONE isn't refused", x.status(12) + x.status(15), 0);
        rosterRefusals("unkept", (y, s, n) -> y.unkept(s, n), false);
    }

    private static void p23() {
        UnderNurseToTheTemper x = fiveHours();
        due("judge(0, 5)", x.judge(0, 5), NONE);
        lay(x, 1, 0, 5, MEETING, NONE, 9);
        due("9", x.judge(1, 4), 3);
        due("only the first 3", x.judge(1, 3), NONE);
        x.set(1, 0, 6);
        due("6", x.judge(1, 4), 0);
        x.set(1, 0, -2);
        due("-2", x.judge(1, 1), 0);
        x.set(1, 0, 11);
        due("11", x.judge(1, 1), 0);
        due("none at all", x.judge(1, 0), NONE);
        rosterRefusals("judge", (y, s, n) -> y.judge(s, n), true);
    }

    private static void p24() {
        UnderNurseToTheTemper x = six();
        due("HARMS for 1", x.best(1, -2), 0);
        due("RAGE for 1", x.best(1, NONE), 27);
        due("ORDER for 1", x.best(1, 0), 4);
        // By 4: 27, GROWTH 3, FRIGHT 12; again by 4 at hour 9: 27 - 6 - 6.
        due("RAGE for 2", x.best(2, NONE), 15);
        due("first of 2", x.best(2, 0), 4);
        due("second of 2", x.best(2, 1), 4);
        due("nobody there: RAGE", fresh().best(4, NONE), 34);
        UnderNurseToTheTemper y = one(0, 9, 40);
        put(y, 9, 60, 1, 50, 1);
        due("RAGE", y.best(2, NONE), 0);
        due("of several the first by rows", y.best(2, 0) * 100 + y.best(2, 1), 0);
        put(y, 0, 0, 1, 50, 1);
        due("a meeting keeps 0, but the keeper comes first", y.best(1, 0), 0);
        UnderNurseToTheTemper z = fresh();
        put(z, 0, 0, 1, 50, 1);
        due("a meeting is last", z.best(3, NONE), 0);
        due("a meeting is last", z.best(3, 2), MEETING);
        put(z, 60, 90, 1, 50, 1);
        due("HARMS that can't be helped", z.best(4, -2), 4);
        bestWithFewestHarms();
        for (int n : new int[] {0, 5, LOW, HIGH}) {
            due("n " + n, x.best(n, NONE), BAD);
        }
        for (int n = 1; n <= 4; n++) {
            due("i " + n + " of " + n, x.best(n, n), BAD);
            due("i -3", x.best(n, -3), BAD);
        }
        due("BAD", x.status(12), 12);
        dueMeasures("nothing changed", x, "44 70 2 50 8");
    }

    /** A feeder now makes a HARM fewer than the one who'd leave less RAGE in the end. */
    private static void bestWithFewestHarms() {
        UnderNurseToTheTemper x = one(0, 1, 40);
        put(x, 50, 0, 1, 50, 1);
        // A meeting leaves 38, CALM 12; the keeper 49: both without a HARM.
        due("RAGE", x.best(1, NONE), 38);
        due("ORDER", x.best(1, 0), MEETING);
        due("RAGE behind two", x.best(2, NONE), 32);
        x.tell(3, 39);
        due("HARMS", x.best(1, -2), 0);
        x.tell(3, 38);
        due("HARMS at BAR", x.best(1, -2), 1);
        due("HARMS of two", x.best(2, -2), 1);
    }

    private static void p25() {
        UnderNurseToTheTemper x = one(0, 0, 10);
        lay(x, 0, 0, 0, 1, 0, 0, 0, 0);
        // GROWTH 1: he STAYS while a third is 9 or less.
        due("none told", x.rages(0, 0, 0), 100);
        due("he stayed", x.rages(0, 1, 0), 30);
        due("the least", x.rages(0, 1, 1), 0);
        due("the greatest", x.rages(0, 1, 2), 29);
        due("he stayed, then fled: never", x.rages(0, 2, 0), 0);
        due("the least of none", x.rages(0, 2, 1), NONE);
        due("the greatest of none", x.rages(0, 2, 2), NONE);
        x.set(0, 1, 0);
        due("he fled", x.rages(0, 1, 0), 70);
        due("the least", x.rages(0, 1, 1), 30);
        x.set(0, 0, 1);
        due("another who isn't there", x.rages(0, 1, 0), STUCK);
        x.keeper(5, 9, 20);
        // The coward STAYS below 50 (FRIGHT 20 at most: below 60): RAGE 9 more, then the keeper flees from 30 on.
        lay(x, 1, 4, 1, 1, 0, 0);
        due("coward, then keeper", x.rages(1, 2, 0), 29);
        due("the least", x.rages(1, 2, 1), 21);
        due("the greatest", x.rages(1, 2, 2), 49);
        due("nothing changed", x.status(1) * 10 + x.status(6), 200);
        due("what 3", x.rages(0, 0, 3), BAD);
        due("what -1", x.rages(0, 0, -1), BAD);
        twosRefusals("rages", (y, s, n) -> y.rages(s, n, 0));
    }

    /** The refusals that all ROWS of twos share. */
    private static void twosRefusals(String name, Roster call) {
        UnderNurseToTheTemper x = six();
        lay(x, 0, 3, 2, 1, 6, 1, 0);
        x.show(1, 0);
        due(name + " shelf 8", call.on(x, 8, 1), BAD);
        due(name + " shelf -1", call.on(x, -1, 1), BAD);
        due(name + " n 21, a keeper", call.on(x, 1, 21), BAD);
        due(name + " n -1, nothing", call.on(x, 2, -1), BAD);
        due(name + " a keeper", call.on(x, 1, 1), OTHER);
        due(name + " nothing", call.on(x, 2, 1), NOTHING);
        due(name + " fewer elements, ahead of STUCK", call.on(x, 0, 3), BAD);
        due(name + " keeper 6", call.on(x, 0, 2), STUCK);
        x.set(0, 2, NONE);
        due(name + " nobody", call.on(x, 0, 2), STUCK);
        x.set(0, 2, 10);
        due(name + " a meeting", call.on(x, 0, 2), STUCK);
        x.set(0, 2, 1L << 32);
        due(name + " keeper by the lower bits alone", call.on(x, 0, 2), STUCK);
        x.set(0, 2, 0);
        x.set(0, 3, 2);
        due(name + " 2", call.on(x, 0, 2), STUCK);
        x.set(0, 3, -1);
        due(name + " -1", call.on(x, 0, 2), STUCK);
        x.set(0, 3, (1L << 32) + 1);
        due(name + " 1 by the lower bits alone", call.on(x, 0, 2), STUCK);
        due(name + " refusals", x.status(12) * 1000 + x.status(13) * 100 + x.status(14) * 10 + x.status(15), 5117);
        x.row(3, 4, 40);
        due(name + " 20 twos are not refused", call.on(x, 3, 20) < NONE ? 1 : 0, 0);
        dueMeasures(name + " leaves", x, "44 70 2 50 8");
    }

    private static void p26() {
        UnderNurseToTheTemper x = six();
        lay(x, 0, 0, 0, 1, 0, 0);
        // FRIGHT is 16; behind him RAGE is 39 and FRIGHT 15.
        due("how many", x.nerves(0, 1, 0, 0), 25);
        due("the least", x.nerves(0, 1, 0, 1), 16);
        due("the greatest", x.nerves(0, 1, 0, 2), 40);
        due("stayed, then fled", x.nerves(0, 2, 0, 0), 0);
        due("the least of none", x.nerves(0, 2, 0, 1), NONE);
        due("the greatest of none", x.nerves(0, 2, 0, 2), NONE);
        lay(x, 0, 0, 0, 0, 0, 1);
        // He flees below 16, and RAGE is 48, FRIGHT 18.
        due("fled, then stayed", x.nerves(0, 2, 0, 0), 0);
        due("fled", x.nerves(0, 1, 0, 2), 15);
        lay(x, 0, 0, 4, 1, 4, 1);
        due("a brave one", x.nerves(0, 2, 4, 1), 8);
        lay(x, 0, 0, 3, 1, 2, 1);
        due("another's row fits", x.nerves(0, 2, 0, 0), 41);
        lay(x, 0, 0, 3, 0);
        due("another's row doesn't", x.nerves(0, 1, 0, 0), 0);
        due("NERVE as it was", x.keeperOf(0, 2) * 100 + x.keeperOf(4, 2), 1209);
        due("none told", x.nerves(0, 0, 0, 0), 41);
        due("keeper 6", x.nerves(0, 0, 6, 0), BAD);
        due("keeper -1 of nothing", x.nerves(4, 0, -1, 0), BAD);
        due("what 3", x.nerves(0, 0, 0, 3), BAD);
        due("what -1", x.nerves(0, 0, 0, -1), BAD);
        twosRefusals("nerves", (y, s, n) -> y.nerves(s, n, 0, 0));
    }

    private static void p27() {
        UnderNurseToTheTemper x = fresh();
        x.row(0, 0, 4);
        due("no keepers", x.send(0, 0), NONE);
        x.keeper(3, 0, 0);
        due("the nurse parts nothing, but is the first", x.send(0, 0), 0);
        x.keeper(0, 0, 10);
        due("30 and 70", x.send(0, 0), 1);
        x.keeper(0, 0, 17);
        due("51 and 49", x.send(0, 0), 2);
        x.keeper(0, 0, 17);
        due("of several the first", x.send(0, 0), 2);
        lay(x, 0, 0, 2, 1);
        // 0 to 50 are left: the first keeper parts them as 30 and 21.
        due("behind one two", x.send(0, 1), 1);
        lay(x, 0, 0, 1, 1, 1, 0);
        due("none fit", x.send(0, 2), NONE);
        oneThatFits();
        sentNow();
        due("nothing refused", x.status(12) + x.status(15), 0);
        twosRefusals("send", (y, s, n) -> y.send(s, n));
    }

    private static void oneThatFits() {
        UnderNurseToTheTemper x = one(0, 0, 40);
        put(x, 20, 60, 8, 50, 1);
        // FRIGHT above 40: RAGE 99 alone.
        lay(x, 0, 0, 0, 0);
        due("one RAGE", x.rages(0, 1, 0), 1);
        due("one RAGE alone", x.send(0, 1), NONE);
        x.tell(2, 7);
        due("no RAGE", x.send(0, 1), NONE);
        x.tell(2, 9);
        due("four RAGES", x.send(0, 1), 0);
    }

    /** They are parted by the RAGES at first, not by those behind the row. */
    private static void sentNow() {
        UnderNurseToTheTemper x = fresh();
        put(x, 20, 60, 9, 99, 1);
        x.keeper(3, 0, 0);
        x.keeper(5, 9, 40);
        lay(x, 0, 0, 1, 1);
        due("he parts nothing now", x.send(0, 1), 0);
    }

    private static void p28() {
        UnderNurseToTheTemper x = one(0, 5, 40);
        // 15, 10, 5, 0, 0.
        due("a keeper", x.settles(0), 5);
        x.tell(0, 0);
        due("at once", x.settles(0), 1);
        put(x, 99, 3, 9, 50, 0);
        due("CALM goes on", x.settles(NONE), 4);
        put(x, 20, 60, 1, 50, 0);
        due("nobody", x.settles(NONE), 68);
        due("a meeting", x.settles(MEETING), 6);
        x.keeper(2, 0, 40);
        put(x, 0, 99, 1, 50, 1);
        due("before GROWTH could go on", x.settles(1), 1);
        due("GROWTH goes on first", settlesFedAtFour(), 2);
        due("order 2", x.settles(2), BAD);
        due("order -2", x.settles(-2), BAD);
        due("BAD", x.status(12), 2);
        UnderNurseToTheTemper y = fresh();
        put(y, 99, 99, 9, 50, 0);
        due("RAGE stands, CALM goes on to the end", y.settles(NONE), 100);
        // RAGE and CALM together are 1 less each hour, until they are 3 and 0 behind 195.
        put(y, 99, 99, 1, 1, 0);
        due("the longest of meetings", y.settles(MEETING), 196);
    }

    private static int settlesFedAtFour() {
        UnderNurseToTheTemper x = one(2, 0, 40);
        put(x, 0, 99, 1, 50, 4);
        return x.settles(0);
    }

    private static void p29() {
        UnderNurseToTheTemper x = one(0, 5, 40);
        due("LOWEST", x.over(0, 0), 0);
        due("SAFE", x.over(0, 1), 48);
        due("RAGE", x.over(0, 2), 0);
        due("CALM", x.over(0, 3), 60);
        due("GROWTH", x.over(0, 4), 1);
        // Nobody: 22 (GROWTH 2), then 4 an hour through hour 12: 26 .. 50 behind 8 hours.
        due("LOWEST is now", x.over(NONE, 0), 20);
        due("SAFE", x.over(NONE, 1), 7);
        due("RAGE", x.over(NONE, 2), 99);
        due("CALM", x.over(NONE, 3), 60 - 41);
        due("GROWTH", x.over(NONE, 4), 5);
        x.tell(0, 99);
        due("not safe at all", x.over(NONE, 1), 0);
        x.tell(3, 98);
        due("safe by the keeper", x.over(0, 1), 48);
        due("what 5", x.over(0, 5), BAD);
        due("what -1", x.over(0, -1), BAD);
        due("order 1", x.over(1, 0), BAD);
        due("BAD", x.status(12), 3);
        dueMeasures("nothing changed", x, "99 60 1 98 0");
        due("nobody fled", x.status(6), 0);
    }

    private static void p30() {
        UnderNurseToTheTemper x = fresh();
        due("a meeting is safe", x.safest(), MEETING);
        x.keeper(0, 0, 0);
        due("one who flees is as nobody", x.safest(), MEETING);
        x.keeper(3, 0, 0);
        due("a nurse", x.safest(), 1);
        x.keeper(3, 9, 0);
        due("of several the first", x.safest(), 1);
        put(x, 99, 99, 9, 1, 0);
        due("nothing is safe", x.safest(), NONE);
    }

    private static void p31() {
        UnderNurseToTheTemper x = fresh();
        due("no keepers", x.odds(0, 0), STUCK);
        due("no keepers, bad", x.odds(4, 0), BAD);
        x = six();
        due("t 0", x.odds(0, 0), 0);
        due("t 0, mean", x.odds(0, 1), 44000);
        // 48, 48, 33, 37, 27, 51: one HARM of six.
        due("t 1", x.odds(1, 0), 166666);
        due("t 1, mean", x.odds(1, 1), 40666);
        x.tell(0, 99);
        due("a HARM for sure", x.odds(1, 0), 1000000);
        due("a HARM for sure", x.odds(3, 0), 1000000);
        UnderNurseToTheTemper y = one(0, 5, 40);
        y.keeper(5, 9, 40);
        // 20: each hour 5 less or 9 more; BAR 35: 29, 38 alone in two; in three 29, 38, ..; 29, 24, 33; 15, 24, 33.
        y.tell(3, 35);
        due("t 2", y.odds(2, 0), 250000);
        due("t 3", y.odds(3, 0), 250000);
        due("t 2, mean", y.odds(2, 1), 24000);
        due("t 3, mean", y.odds(3, 1), oddsOfThree());
        due("t -1", y.odds(-1, 0), BAD);
        due("what 2", y.odds(0, 2), BAD);
        due("what -1", y.odds(0, -1), BAD);
        due("BAD", y.status(12), 3);
        oddsOfEight();
    }

    private static void oddsOfEight() {
        UnderNurseToTheTemper x = one(5, 9, 40);
        for (int k = 1; k < 8; k++) {
            x.keeper(3, 9, 0);
        }
        // Only the coward in the first hour comes to 29: behind a nurse it is 7, 16 and 25 at most.
        put(x, 20, 60, 1, 29, 1);
        for (int t = 1; t <= 3; t++) {
            due("one of eight, t " + t, x.odds(t, 0), 125000);
        }
        UnderNurseToTheTemper y = fresh();
        for (int k = 0; k < 8; k++) {
            y.keeper(0, 0, 0);
        }
        put(y, 20, 60, 1, 26, 1);
        due("all flee, mean", y.odds(3, 1), 26000);
        due("all flee, at BAR", y.odds(3, 0), 1000000);
        y.tell(3, 27);
        due("all flee, below BAR", y.odds(3, 0), 0);
        due("nobody fled in truth", y.status(6), 0);
    }

    /** 5, 19, 19, 33, 19, 33, 33 and, as the coward flees from 38, GROWTH 1: 40, or 33 by the keeper. */
    private static int oddsOfThree() {
        return 1000 * (5 + 19 + 19 + 33 + 19 + 33 + 33 + 40) / 8;
    }

    private static void p32() {
        UnderNurseToTheTemper x = six();
        // GROWTH 2: the third that is just too much is 11, 13, 19, none, 17, and of the coward 29 or BAR.
        int[] want = {33, 39, 57, NONE, 51, 50};
        for (int k = 0; k < 6; k++) {
            due("flees(" + k + ")", x.flees(k), want[k]);
        }
        x.tell(3, 99);
        due("a coward below BAR", x.flees(5), 87);
        x.nerve(0, 1);
        due("at any RAGE", x.flees(0), 0);
        x.nerve(0, 35);
        due("at 99 he flees not", x.flees(0), NONE);
        x.nerve(0, 34);
        due("at 99", x.flees(0), 99);
        due("keeper 6", x.flees(6), BAD);
        due("keeper -1", x.flees(-1), BAD);
        due("NONE isn't refused", x.status(12), 2);
    }

    private static void p33() {
        UnderNurseToTheTemper x = six();
        int[] want = {16, 12, 16, 0, 8, 16};
        for (int k = 0; k < 6; k++) {
            due("needs(" + k + ")", x.needs(k), want[k]);
        }
        due("NERVE as it was", x.keeperOf(0, 2), 12);
        x.tell(0, 45);
        due("twice is enough", x.needs(4), 9);
        x.tell(0, 50);
        due("a coward at BAR", x.needs(5), NONE);
        put(x, 96, 0, 8, 99, 0);
        due("40", x.needs(0), 40);
        x.tell(2, 9);
        due("more than 40", x.needs(0), NONE);
        due("keeper 6", x.needs(6), BAD);
        due("keeper -1", x.needs(-1), BAD);
        due("NONE isn't refused", x.status(12), 2);
    }

    private static void p34() {
        UnderNurseToTheTemper x = one(0, 5, 40);
        due("20", x.until(0, 20), 0);
        due("19", x.until(0, 19), 1);
        due("1", x.until(0, 1), 4);
        due("0", x.until(0, 0), 4);
        due("nobody", x.until(NONE, 19), NONE);
        UnderNurseToTheTemper y = one(1, 0, 40);
        // Even RAGE 3 less, odd RAGE as it is.
        due("17 is odd, and stays", y.until(0, 16), NONE);
        due("17", y.until(0, 17), 1);
        UnderNurseToTheTemper z = one(0, 1, 40);
        put(z, 99, 60, 1, 50, 0);
        due("99 hours", z.until(0, 0), 99);
        due("v 100", x.until(0, 100), BAD);
        due("v -1", x.until(0, -1), BAD);
        due("order 1", x.until(1, 0), BAD);
        due("NONE isn't refused", x.status(12), 3);
    }

    private static void p35() {
        UnderNurseToTheTemper x = fresh();
        due("nobody, then a meeting", x.first(NONE, MEETING), 0);
        due("the other way about", x.first(MEETING, NONE), 1);
        due("the same", x.first(NONE, NONE), 2);
        UnderNurseToTheTemper y = six();
        // 3 then 2: 37, less 9 is 28; 2 then 3: 33, less 4 (odd, GROWTH 3: 2 and 3) is 28.
        due("alike", y.first(3, 2), 2);
        // 4 then 3: 27 odd, GROWTH 3: 22; 3 then 4: 37, less 9 and 6: 22.
        due("alike", y.first(4, 3), 2);
        // 5 then 3: 51 odd, less 4: 47; 3 then 5: 44.
        due("the other first", y.first(5, 3), 1);
        due("one first", y.first(3, 5), 0);
        due("order 6", y.first(6, 0), BAD);
        due("order 6", y.first(0, 6), BAD);
        due("BAD", y.status(12), 2);
        dueMeasures("nothing changed", y, "44 70 2 50 8");
    }

    private static void p36() {
        UnderNurseToTheTemper x = fresh();
        due("none", x.meetings(), 0);
        put(x, 60, 60, 1, 99, 0);
        due("alike is none", x.meetings(), 0);
        put(x, 61, 60, 1, 99, 0);
        due("never: a quarter of 1 is none", x.meetings(), NONE);
        put(x, 64, 60, 1, 99, 0);
        due("never", x.meetings(), NONE);
        put(x, 99, 3, 1, 99, 0);
        due("down to where a quarter is none", x.meetings(), NONE);
        due("NONE isn't refused", x.status(12), 0);
        meetingsThatEnd();
    }

    /** A quarter of what is above can't pass the middle, so only where none is above there is an end. */
    private static void meetingsThatEnd() {
        for (int rage = 0; rage <= 99; rage += 11) {
            UnderNurseToTheTemper x = fresh();
            for (int calm = 0; calm <= 99; calm += 9) {
                put(x, rage, calm, 1, 50, 0);
                due("RAGE " + rage + " CALM " + calm, x.meetings(), rage <= calm ? 0 : NONE);
            }
        }
    }

    private static void p37() {
        UnderNurseToTheTemper x = six();
        due("n 0", x.byTurns(3, 0), 44);
        // From 3: 37 (nurse), brave at hour 9: 37 - 9 - 6 = 22, coward 29, keeper 0 (FRIGHT 11): 24.
        due("n 1", x.byTurns(3, 1), 37);
        due("n 2", x.byTurns(3, 2), 22);
        due("n 3", x.byTurns(3, 3), 29);
        due("n 4, behind the last the first", x.byTurns(3, 4), 24);
        due("one alone", one(0, 5, 40).byTurns(0, 48), 0);
        due("n 49", x.byTurns(0, 49), BAD);
        due("n -1", x.byTurns(0, -1), BAD);
        due("keeper 6", x.byTurns(6, 0), BAD);
        due("keeper -1", x.byTurns(-1, 0), BAD);
        due("BAD", x.status(12), 4);
        due("nobody fled", x.status(6), 0);
    }

    private static void p38() {
        UnderNurseToTheTemper x = six();
        due("n 0", x.harms(5, 0), 0);
        due("n 1", x.harms(5, 1), 1);
        // 51; keeper 0 flees: 55; singer 1 flees: 59; feeder 2 (FRIGHT 21 by 59) flees: 63, GROWTH 2.
        due("n 4", x.harms(5, 4), 4);
        x.tell(3, 40);
        due("from 4", x.harms(4, 1), 0);
        due("one alone, 48", oneThatHarms().harms(0, 48), 48);
        due("n 49", x.harms(0, 49), BAD);
        due("n -1", x.harms(0, -1), BAD);
        due("keeper 6", x.harms(6, 0), BAD);
        due("keeper -1", x.harms(-1, 0), BAD);
        due("BAD", x.status(12), 4);
    }

    private static UnderNurseToTheTemper oneThatHarms() {
        UnderNurseToTheTemper x = one(0, 0, 0);
        x.tell(0, 50);
        return x;
    }

    private static void p39() {
        due("no keepers", fresh().starts(), STUCK);
        UnderNurseToTheTemper x = one(5, 9, 40);
        x.keeper(3, 9, 0);
        // From the coward: 49, a HARM by BAR 45; from the nurse 40 - 9 - 3 - 1 = 27 and so on down.
        put(x, 40, 60, 1, 45, 1);
        due("the nurse first", x.starts(), 1);
        x.tell(3, 99);
        due("of several the first", x.starts(), 0);
        UnderNurseToTheTemper y = one(0, 0, 0);
        y.keeper(0, 0, 0);
        due("alike", y.starts(), 0);
        UnderNurseToTheTemper z = fresh();
        z.starts();
        due("STUCK is counted", z.status(15), 1);
    }

    private static void p40() {
        UnderNurseToTheTemper x = fresh();
        due("no keepers, bad", x.of(3), BAD);
        due("no keepers", x.of(0), STUCK);
        x = six();
        due("greatest NERVE", x.of(0), 5);
        due("least NERVE", x.of(1), 3);
        due("nobody FLED", x.of(2), 0);
        x.order(1);
        due("FLED most", x.of(2), 1);
        x.order(0);
        due("of several the first", x.of(2), 0);
        x.nerve(4, 30);
        x.nerve(0, 0);
        due("of several the first", x.of(0), 4);
        due("of several the first", x.of(1), 0);
        due("what -1", x.of(-1), BAD);
        due("BAD", x.status(12), 1);
    }

    private static void p41() {
        UnderNurseToTheTemper x = fiveHours();
        due("greatest RAGE", x.way(0, 5, 0), 65);
        due("least CALM", x.way(0, 5, 1), 63);
        due("when", x.way(0, 5, 2), 5);
        due("now alone, RAGE", x.way(0, 0, 0), 44);
        due("now alone, CALM", x.way(0, 0, 1), 70);
        due("now alone, when", x.way(0, 0, 2), 0);
        lay(x, 1, 0, 4, NONE, NONE, NONE, 4, NONE);
        // 27 (GROWTH 3), 33, 39, 45, then 45 - 11 - 6.
        due("greatest on the way", x.way(1, 6, 0), 45);
        due("when", x.way(1, 6, 2), 4);
        due("now counts", x.way(1, 3, 0), 44);
        due("now counts", x.way(1, 3, 2), 0);
        put(x, 99, 70, 2, 50, 8);
        due("of several the first", x.way(0, 5, 2), 0);
        due("what 3", x.way(0, 0, 3), BAD);
        due("what -1 of nothing", x.way(3, 0, -1), BAD);
        rosterRefusals("way", (y, s, n) -> y.way(s, n, 0), false);
        UnderNurseToTheTemper y = fresh();
        put(y, 40, 0, 1, 99, 1);
        lay(y, 0, 0, MEETING, NONE);
        due("the least CALM is now", y.way(0, 2, 1), 0);
    }

    private static void p42() {
        UnderNurseToTheTemper x = fiveHours();
        due("the meeting", x.matters(0, 5), 3);
        lay(x, 1, 0, 4, 4, 4);
        // NONE first: 48 .. ; the later he is missed, the more is left behind.
        due("the last", x.matters(1, 3), 2);
        lay(x, 1, 0, NONE, NONE, NONE);
        due("of several the first", x.matters(1, 3), 0);
        due("n 0", x.matters(1, 0), STUCK);
        due("n 0 of a keeper's shelf", x.show(5, 0) + x.matters(5, 0), 1 + OTHER);
        due("STUCK", x.status(15), 1);
        rosterRefusals("matters", (y, s, n) -> y.matters(s, n), false);
    }

    private static void p43() {
        UnderNurseToTheTemper x = six();
        lay(x, 0, 0, NONE, NONE);
        // By 4: 27, GROWTH 3, so 33 behind both; by 3: 37 and 41.
        due("first place", x.instead(0, 2, 0), 4);
        due("last place", x.instead(0, 2, 1), 4);
        due("the row as it was", x.element(0, 0) + x.element(0, 1), -2);
        UnderNurseToTheTemper y = one(0, 9, 40);
        y.keeper(0, 9, 40);
        lay(y, 0, 0, 0);
        due("of several the first", y.instead(0, 1, 0), 0);
        y.nerve(0, 0);
        due("the one who stays", y.instead(0, 1, 0), 1);
        y.nerve(1, 0);
        due("nobody", y.instead(0, 1, 0), NONE);
        put(y, 80, 20, 1, 50, 0);
        due("a meeting", y.instead(0, 1, 0), MEETING);
        due("place 1 of 1", y.instead(0, 1, 1), BAD);
        due("place -1 of nothing", y.instead(4, 1, -1), BAD);
        due("place 0 of 0", y.instead(0, 0, 0), BAD);
        due("BAD", y.status(12), 3);
        rosterRefusals("instead", (z, s, n) -> z.instead(s, n, 0), false);
    }

    private static void p44() {
        UnderNurseToTheTemper x = fresh();
        due("a meeting, nobody", x.better(MEETING, NONE), 47);
        // 0 to 44 go up by more than 2 in a meeting, so do 45 to 48; 49 to 52: 2 both.
        due("nobody, a meeting", x.better(NONE, MEETING), 49);
        due("the same", x.better(NONE, NONE), 0);
        UnderNurseToTheTemper y = one(0, 1, 40);
        due("a keeper, nobody", y.better(0, NONE), 100);
        y.nerve(0, 10);
        due("while he stays", y.better(0, NONE), 30);
        due("never", y.better(NONE, 0), 0);
        due("order 1", y.better(1, 0), BAD);
        due("order 1", y.better(0, 1), BAD);
        due("BAD", y.status(12), 2);
        due("RAGE as it was", y.status(1), 20);
    }

    private static void p45() {
        UnderNurseToTheTemper x = one(1, 0, 40);
        due("a singer, 0 stays 0", x.still(0), 0);
        due("nobody", x.still(NONE), 99);
        due("a meeting", x.still(MEETING), 57);
        x.keeper(5, 9, 40);
        due("a coward never, but alone at 99", x.still(1), 99);
        x.tell(2, 9);
        x.keeper(5, 9, 0);
        due("one who flees", x.still(2), 99);
        x.tell(1, 0);
        due("a meeting by CALM 0", x.still(MEETING), 0);
        due("order 3", x.still(3), BAD);
        due("order -2", x.still(-2), BAD);
        due("BAD", x.status(12), 2);
    }

    private static void p46() {
        UnderNurseToTheTemper x = fresh();
        // 20 less a quarter of 20 is 15 by CALM 0; 16 by CALM 1 on (19 / 4 is 4) to 4; and so on.
        due("15", x.calmFor(15), 0);
        due("14", x.calmFor(14), NONE);
        due("99", x.calmFor(99), 0);
        x.tell(0, 0);
        due("0", x.calmFor(0), 0);
        due("v 100", x.calmFor(100), BAD);
        due("v -1", x.calmFor(-1), BAD);
        due("NONE isn't refused", x.status(12), 2);
        due("CALM as it was", x.status(2), 60);
    }

    private static void p47() {
        UnderNurseToTheTemper x = one(2, 0, 40);
        due("nobody", x.grown(NONE), 85);
        // A feeder: GROWTH in hours 0, 4, .. 28, RAGE going down.
        due("a feeder", x.grown(0), 29);
        due("a meeting", x.grown(MEETING), NONE);
        x.tell(2, 9);
        due("now", x.grown(MEETING), 0);
        put(x, 20, 60, 1, 50, 9999);
        due("the HOUR stands still", x.grown(NONE), NONE);
        due("order 1", x.grown(1), BAD);
        due("order -2", x.grown(-2), BAD);
        due("NONE isn't refused", x.status(12), 2);
    }

    private static void p48() {
        UnderNurseToTheTemper x = six();
        due("0", x.brave(0), 63);
        due("44", x.brave(44), 60);
        due("49", x.brave(49), 4 + 8 + 16 + 32);
        due("50", x.brave(50), 4 + 8 + 16);
        due("32", x.brave(32), 63);
        due("33", x.brave(33), 62);
        due("99", x.brave(99), 8);
        due("100", x.brave(100), BAD);
        due("-1", x.brave(-1), BAD);
        due("BAD", x.status(12), 2);
        due("RAGE as it was", x.status(1), 44);
    }

    private static void p49() {
        UnderNurseToTheTemper x = six();
        x.keeper(3, 0, 0);
        int[] want = {1, 1, 1, 2, 1, 1};
        for (int kind = 0; kind < 6; kind++) {
            due("ofKind(" + kind + ")", x.ofKind(kind), want[kind]);
        }
        due("none", fresh().ofKind(0), 0);
        due("6", x.ofKind(6), BAD);
        due("-1", x.ofKind(-1), BAD);
        due("BAD", x.status(12), 2);
    }

    private static void p50() {
        UnderNurseToTheTemper x = six();
        due("order(4)", x.order(4), 27);
        dueMeasures("behind it", x, "27 70 3 50 9");
        due("order(NONE)", x.order(NONE), 33);
        due("nobody fled", x.status(6), 0);
        due("order(1)", x.order(1), 33 - 4);
        dueMeasures("behind it", x, "29 70 3 50 11");
        x.nerve(0, 0);
        due("order(0) flees", x.order(0), 35);
        due("FLED", x.keeperOf(0, 3), 1);
        due("a meeting", x.order(MEETING), 35 + 8);
        dueMeasures("behind it", x, "43 62 3 50 13");
        x.tell(0, 50);
        x.tell(4, 9999);
        due("a HARM", x.order(NONE), 56);
        dueMeasures("behind it", x, "56 61 3 50 9999");
        due("order 6", x.order(6), BAD);
        due("order -2", x.order(-2), BAD);
        due("order 11", x.order(11), BAD);
        due("BAD", x.status(12), 3);
        dueMeasures("as it was", x, "56 61 3 50 9999");
    }

    private static void p51() {
        UnderNurseToTheTemper x = fiveHours();
        due("none", x.done(0, 0), 0);
        due("five", x.done(0, 5), 5);
        dueMeasures("behind it", x, "65 63 3 50 13");
        due("FLED", x.keeperOf(5, 3) * 10 + x.keeperOf(0, 3), 11);
        due("the row as it was", x.element(0, 3), MEETING);
        rosterRefusals("done", (y, s, n) -> y.done(s, n), false);
        UnderNurseToTheTemper y = six();
        lay(y, 0, 0, 0, 6);
        y.done(0, 2);
        due("nothing of what is WRONG", y.status(6) + y.status(5), 8);
    }

    private static void p52() {
        UnderNurseToTheTemper x = fresh();
        due("9", x.drawn(9), 0);
        due("RAGE", x.order(NONE), 53);
        due("n 0", x.drawn(0), BAD);
        due("n -1", x.drawn(-1), BAD);
        due("n 61", x.drawn(61), BAD);
        due("BAD", x.status(12), 3);
        drawnAsTold(six(), 1);
        drawnAsTold(six(), -7);
        drawnAsTold(six(), HIGH);
        drawnAsTold(fresh(), 12345);
    }

    /** The same HOURS carried out by ORDERS that the test draws itself. */
    private static void drawnAsTold(UnderNurseToTheTemper x, int seed) {
        x.seed(seed);
        UnderNurseToTheTemper y = x.status(0) == 0 ? fresh() : six();
        long state = seed;
        int harms = 0;
        for (int i = 0; i < 60; i++) {
            state = (int) (state * 1103515245L + 12345L);
            int draw = (int) (((state & 0xffffffffL) >> 16) % (y.status(0) + 2));
            int order = draw < y.status(0) ? draw : draw == y.status(0) ? NONE : MEETING;
            harms += y.after(order, 3);
            y.order(order);
        }
        due("60 by seed " + seed, x.drawn(60), harms);
        due("SEED", x.status(8), state);
        due("FLED", x.status(6), y.status(6));
        dueMeasures("by seed " + seed, x, measures(y));
    }

    private static void p53() {
        UnderNurseToTheTemper x = fresh();
        due("1 at first", x.seed(LOW), 1);
        due("the one ahead", x.seed(HIGH), LOW);
        due("status(8)", x.status(8), HIGH);
        x.seed(1);
        x.drawn(1);
        due("behind a draw", x.status(8), 1103527590);
    }

    private static void p54() {
        UnderNurseToTheTemper x = six();
        due("image()", x.image(), 1);
        dueMeasures("behind it", x, "44 70 2 50 8");
        x.order(0);
        due("again", x.image(), 1);
        x.order(0);
        x.back();
        dueMeasures("the later one is kept", x, "48 70 2 50 9");
        due("FLED", x.keeperOf(0, 3), 1);
    }

    private static void p55() {
        UnderNurseToTheTemper x = fresh();
        due("nothing was", x.back(), STUCK);
        x = six();
        x.seed(77);
        x.order(0);
        x.image();
        x.row(0, 0, 2);
        x.set(0, 0, 5);
        x.keeper(2, 2, 2);
        x.show(1, 6);
        x.show(2, 5);
        x.show(3, 0);
        x.nerve(0, 33);
        x.order(1);
        x.drawn(5);
        put(x, 1, 2, 3, 4, 5);
        x.feed('r');
        x.order(99);
        due("back()", x.back(), 1);
        dueMeasures("as it was", x, "48 70 2 50 9");
        due("KEEPERS", x.status(0), 6);
        due("FLED", x.status(6), 1);
        due("SEED", x.status(8), 77);
        due("NERVE", x.keeperOf(0, 2), 12);
        due("the tape goes on", x.status(7), 1);
        due("refusals go on", x.status(12), 1);
        due("a row goes on", x.element(0, 0), 5);
        due("a keeper who is gone", x.holds(1), NONE);
        due("the last who is there", x.holds(2), 15);
        due("the first", x.holds(3), 10);
        x.order(NONE);
        due("once more", x.back(), 1);
        dueMeasures("as it was", x, "48 70 2 50 9");
        x.keeper(1, 1, 1);
        due("the number is free", x.keeperOf(6, 0), 1);
        due("he has not FLED", x.keeperOf(6, 3), 0);
        UnderNurseToTheTemper y = fresh();
        y.image();
        y.keeper(0, 0, 0);
        y.show(0, 0);
        y.back();
        due("a house without keepers", y.holds(0) * 10 + y.status(0), -10);
    }

    private static void p56() {
        UnderNurseToTheTemper x = six();
        x.order(0);
        x.order(0);
        x.order(1);
        x.feed(1);
        x.feed(2);
        x.show(0, 0);
        x.row(7, 0, 0);
        x.order(77);
        x.set(0, 0, 0);
        x.set(1, 0, 0);
        x.back();
        x.keeper(0, 0, 0);
        x.keeper(0, 0, 0);
        x.keeper(0, 0, 0);
        int[] want = {8, 56, 68, 2, 50, 11, 3, 2, 1, 2, NONE, NONE, 1, 1, 1, 1, 1, NONE};
        for (int what = 0; what < want.length; what++) {
            due("status(" + what + ")", x.status(what), want[what]);
        }
        due("status(-1)", x.status(-1), NONE);
        due("status(low)", x.status(LOW), NONE);
        due("status(high)", x.status(HIGH), NONE);
        due("none of these is refused", x.status(12), 1);
    }

    private interface Check {
        void run();
    }

    public static void main(String[] args) {
        Check[] checks = {PromisesTest::p01, PromisesTest::p02, PromisesTest::p03, PromisesTest::p04,
            PromisesTest::p05, PromisesTest::p06, PromisesTest::p07, PromisesTest::p08, PromisesTest::p09,
            PromisesTest::p10, PromisesTest::p11, PromisesTest::p12, PromisesTest::p13, PromisesTest::p14,
            PromisesTest::p15, PromisesTest::p16, PromisesTest::p17, PromisesTest::p18, PromisesTest::p19,
            PromisesTest::p20, PromisesTest::p21, PromisesTest::p22, PromisesTest::p23, PromisesTest::p24,
            PromisesTest::p25, PromisesTest::p26, PromisesTest::p27, PromisesTest::p28, PromisesTest::p29,
            PromisesTest::p30, PromisesTest::p31, PromisesTest::p32, PromisesTest::p33, PromisesTest::p34,
            PromisesTest::p35, PromisesTest::p36, PromisesTest::p37, PromisesTest::p38, PromisesTest::p39,
            PromisesTest::p40, PromisesTest::p41, PromisesTest::p42, PromisesTest::p43, PromisesTest::p44,
            PromisesTest::p45, PromisesTest::p46, PromisesTest::p47, PromisesTest::p48, PromisesTest::p49,
            PromisesTest::p50, PromisesTest::p51, PromisesTest::p52, PromisesTest::p53, PromisesTest::p54,
            PromisesTest::p55, PromisesTest::p56};
        for (int i = 0; i < checks.length; i++) {
            sentence("promise " + (i + 1));
            checks[i].run();
        }
        finish(checks.length + " promises");
    }
}
