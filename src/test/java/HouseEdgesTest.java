/** The boundaries that the section THE HOUSE names, and those of promises 1 and 9 to 15. */
public final class HouseEdgesTest extends Bench {
    // ---- RAGE, CALM, GROWTH, BAR, HOUR ----

    private static void measure(String words, int what, int least, int most, int first) {
        sentence(words);
        UnderNurseToTheTemper x = fresh();
        due("at first", x.status(what + 1), first);
        due("one less than the least", x.tell(what, least - 1), BAD);
        due("as it was", x.status(what + 1), first);
        due("the least", x.tell(what, least), first);
        due("is told", x.status(what + 1), least);
        due("one more than the least", x.tell(what, least + 1), least);
        due("one less than the most", x.tell(what, most - 1), least + 1);
        due("the most", x.tell(what, most), most - 1);
        due("one more than the most", x.tell(what, most + 1), BAD);
        due("the lowest int", x.tell(what, LOW), BAD);
        due("the highest int", x.tell(what, HIGH), BAD);
        due("as it was", x.status(what + 1), most);
        dueRefusals("four", x, "4 0 0 0 0");
        int[] others = {20, 60, 1, 50, 0};
        for (int other = 0; other < 5; other++) {
            due("measure " + other, x.status(other + 1), other == what ? most : others[other]);
        }
    }

    private static void measures() {
        measure("RAGE (0 to 99; 20 at first)", 0, 0, 99, 20);
        measure("CALM (0 to 99; 60 at first)", 1, 0, 99, 60);
        measure("GROWTH (1 to 9; 1 at first)", 2, 1, 9, 1);
        measure("BAR (1 to 99; 50 at first)", 3, 1, 99, 50);
        measure("HOUR (0 to 9999; 0 at first)", 4, 0, 9999, 0);
        sentence("RAGE (what 0), CALM (1), GROWTH (2), BAR (3), HOUR (4) becomes v");
        UnderNurseToTheTemper x = fresh();
        for (int what : new int[] {-1, 5, LOW, HIGH}) {
            due("tell(" + what + ", 1)", x.tell(what, 1), BAD);
        }
        dueMeasures("as they were", x, "20 60 1 50 0");
        dueRefusals("four", x, "4 0 0 0 0");
    }

    // ---- KEEPERS ----

    private static void eightAtMost() {
        sentence("KEEPERS have numbers, 0 on, 8 at most");
        UnderNurseToTheTemper x = fresh();
        for (int k = 0; k < 8; k++) {
            due("KEEPERS ahead of it", x.status(0), k);
            due("stays of the next", x.stays(k), BAD);
            due("keeper", x.keeper(3, k, k), k);
            due("stays", x.stays(k), 1);
        }
        due("a ninth", x.keeper(0, 0, 0), FULL);
        due("KEEPERS", x.status(0), 8);
        due("number 8", x.keeperOf(8, 0), BAD);
        dueRefusals("eight numbers too early, number 8, the ninth", x, "9 0 0 0 1");
        due("the eighth STAYS", x.staying(), 255);
        due("the eighth is shown", x.show(0, 7), 1);
        due("the eighth is held", x.holds(0), 17);
        due("the eighth as an ORDER", x.order(7), 20 - 7 - 3 - 1);
        due("the eighth as he was made", x.keeperOf(7, 0) * 100 + x.keeperOf(7, 1) * 10 + x.keeperOf(7, 2), 377);
    }

    private static void keeperIsBad(String call, int kind, int a, int nerve) {
        UnderNurseToTheTemper x = fresh();
        due(call, x.keeper(kind, a, nerve), BAD);
        due("KEEPERS", x.status(0), 0);
        dueRefusals("one", x, "1 0 0 0 0");
    }

    private static void keeperIsMade(String call, int kind, int a, int nerve) {
        UnderNurseToTheTemper x = fresh();
        due(call, x.keeper(kind, a, nerve), 0);
        due("KIND", x.keeperOf(0, 0), kind);
        due("a", x.keeperOf(0, 1), a);
        due("NERVE", x.keeperOf(0, 2), nerve);
        due("FLED", x.keeperOf(0, 3), 0);
        dueRefusals("none", x, "0 0 0 0 0");
    }

    private static void keeperNumbers() {
        sentence("each of a KIND: 0 KEEPER; 1 SINGER, 2 FEEDER, 5 COWARD; 3 NURSE; 4 BRAVE");
        for (int kind = 0; kind <= 5; kind++) {
            keeperIsMade("KIND " + kind, kind, 3, 4);
        }
        for (int kind : new int[] {-1, 6, LOW, HIGH}) {
            keeperIsBad("KIND " + kind, kind, 3, 4);
        }
        sentence("a (0 to 9)");
        for (int a : new int[] {0, 1, 8, 9}) {
            keeperIsMade("a " + a, 0, a, 4);
        }
        for (int a : new int[] {-1, 10, LOW, HIGH}) {
            keeperIsBad("a " + a, 0, a, 4);
        }
        sentence("NERVE (0 to 40)");
        for (int nerve : new int[] {0, 1, 39, 40}) {
            keeperIsMade("NERVE " + nerve, 0, 3, nerve);
        }
        for (int nerve : new int[] {-1, 41, LOW, HIGH}) {
            keeperIsBad("NERVE " + nerve, 0, 3, nerve);
        }
        sentence("keeper: BAD; FULL");
        UnderNurseToTheTemper x = fresh();
        for (int k = 0; k < 8; k++) {
            x.keeper(0, 0, 0);
        }
        due("a bad ninth", x.keeper(0, 0, 41), BAD);
        due("a good ninth", x.keeper(0, 0, 40), FULL);
        dueRefusals("one of each", x, "1 0 0 0 1");
    }

    private static void nerveAgain() {
        sentence("NERVE of one becomes v: what it was. BAD");
        UnderNurseToTheTemper x = one(0, 0, 7);
        x.keeper(1, 0, 8);
        due("v -1", x.nerve(0, -1), BAD);
        due("v 41", x.nerve(0, 41), BAD);
        due("keeper -1", x.nerve(-1, 0), BAD);
        due("keeper 2 of two", x.nerve(2, 0), BAD);
        due("both bad", x.nerve(LOW, HIGH), BAD);
        due("as it was", x.keeperOf(0, 2) * 10 + x.keeperOf(1, 2), 78);
        dueRefusals("five", x, "5 0 0 0 0");
        due("v 0", x.nerve(0, 0), 7);
        due("v 40", x.nerve(0, 40), 0);
        due("keeper 1 of two", x.nerve(1, 40), 8);
        due("told", x.keeperOf(0, 2) * 100 + x.keeperOf(1, 2), 4040);
    }

    private static void fledAtFirst() {
        sentence("FLED (how often; 0 at first)");
        UnderNurseToTheTemper x = one(0, 0, 0);
        due("at first", x.keeperOf(0, 3), 0);
        x.order(0);
        due("once", x.keeperOf(0, 3), 1);
        x.order(0);
        due("twice", x.keeperOf(0, 3), 2);
        x.order(NONE);
        x.order(MEETING);
        due("not by nobody nor a MEETING", x.keeperOf(0, 3), 2);
        sentence("Of a KEEPER: KIND (0), a (1), NERVE (2), FLED (3). BAD");
        due("what 4", x.keeperOf(0, 4), BAD);
        due("what -1", x.keeperOf(0, -1), BAD);
        due("keeper 1 of one", x.keeperOf(1, 3), BAD);
        due("keeper -1", x.keeperOf(-1, 3), BAD);
        dueRefusals("four", x, "4 0 0 0 0");
    }

    // ---- THE TAPE ----

    private static void tapeOf250() {
        sentence("THE TAPE (bytes, 250 at most)");
        UnderNurseToTheTemper x = fresh();
        feedAll(x, " ".repeat(244) + "rage ");
        due("size", x.status(7), 249);
        due("the last there is room for", x.feed('7'), 250);
        due("one more", x.feed('7'), FULL);
        due("size", x.status(7), 250);
        dueRefusals("one", x, "0 0 0 0 1");
        due("a bad byte comes first", x.feed(256), BAD);
        due("a bad byte comes first", x.feed(-1), BAD);
        dueRefusals("three", x, "2 0 0 0 1");
        due("all of it is read", x.house(), 1);
        due("RAGE", x.status(1), 7);
        due("there is room again", x.feed(' '), 1);
        sentence("THE TAPE gets one byte (0 to 255) behind it: its size. BAD; FULL");
        for (int bad : new int[] {-1, 256, LOW, HIGH}) {
            due("feed(" + bad + ")", x.feed(bad), BAD);
        }
        due("size", x.status(7), 1);
        due("feed(0)", x.feed(0), 2);
        due("feed(255)", x.feed(255), 3);
        dueRefusals("four more", x, "6 0 0 0 1");
    }

    private static void wiped() {
        sentence("THE TAPE is empty: its size ahead");
        UnderNurseToTheTemper x = fresh();
        due("empty", x.wipe(), 0);
        x.feed('z');
        due("one", x.wipe(), 1);
        due("empty again", x.wipe(), 0);
        feedAll(x, "z".repeat(250));
        due("full", x.wipe(), 250);
        due("nothing of it is left", read(x, "rage 1"), 1);
        dueRefusals("none", x, "0 0 0 0 0");
    }

    // ---- HOUSES ----

    private static void right(String text, int statements, String measures) {
        UnderNurseToTheTemper x = one(3, 1, 2);
        due("'" + text + "'", read(x, text), statements);
        dueMeasures("behind '" + text + "'", x, measures);
        due("THE TAPE", x.status(7), 0);
        dueRefusals("none", x, "0 0 0 0 0");
    }

    private static void faulty(String text, int fault) {
        UnderNurseToTheTemper x = one(3, 1, 2);
        due("'" + text + "'", read(x, text), -20 - fault);
        dueMeasures("behind '" + text + "'", x, "20 60 1 50 0");
        due("KEEPERS", x.status(0), 1);
        due("NERVE", x.keeperOf(0, 2), 2);
        due("THE TAPE", x.status(7), 0);
        dueRefusals("one", x, "1 0 0 0 0");
    }

    private static void tokens() {
        sentence("TOKENS, each as long as can be");
        right("rage12", 1, "12 60 1 50 0");
        right("rage12;calm34", 2, "12 34 1 50 0");
        faulty("rage 1 2", 7);
        faulty("ragecalm 5", 0);
        faulty("rage 5calm 5", 6);
        faulty("keeper000", 9);
        faulty("keeper0000", 6);
        sentence("WORDS (a .. z)");
        faulty("rage`5", 4);
        faulty("ragea5", 0);
        faulty("ragez5", 0);
        faulty("rage{5", 4);
        faulty("rage 5;`", 7);
        faulty("Rage 5", 0);
        faulty("ragE 5", 0);
        faulty("rage_5", 4);
        sentence("NUMBERS (digits)");
        right("rage 0", 1, "0 60 1 50 0");
        right("rage 9", 1, "9 60 1 50 0");
        faulty("rage 5/", 6);
        faulty("rage 5:", 6);
        faulty("rage /", 5);
        faulty("rage :", 5);
        faulty("rage -1", 5);
        faulty("rage +1", 5);
        sentence("the SIGN ;");
        faulty("rage 5:calm 5", 6);
        faulty("rage 5<calm 5", 6);
        faulty("rage 5,calm 5", 6);
        sentence("blanks (32) may stand anywhere between");
        right("   rage   5   ;   calm   6   ", 2, "5 6 1 50 0");
        right("rage5;calm6", 2, "5 6 1 50 0");
        faulty("ra ge 5", 0);
        for (int letter : new int[] {0, 9, 10, 13, 31, 33, 127, 128, 160, 255}) {
            faulty("rage" + (char) letter + "5", 4);
            faulty((char) letter + "rage 5", 0);
            faulty("rage 5" + (char) letter, 6);
        }
    }

    private static void statements() {
        sentence("STATEMENTS, one or more, with ; between");
        faulty("", 0);
        faulty(" ", 1);
        right("bar 9", 1, "20 60 1 9 0");
        right("bar 9;bar 8", 2, "20 60 1 8 0");
        right("bar 9;bar 8;bar 7", 3, "20 60 1 7 0");
        faulty(";", 0);
        faulty(";bar 9", 0);
        faulty("bar 9;", 6);
        faulty("bar 9;;bar 8", 6);
        faulty("bar 9; ;bar 8", 7);
        faulty("bar 9 bar 8", 6);
        faulty("bar 9;bar 8;", 12);
        right("bar1" + ";bar2".repeat(49) + " ", 50, "20 60 1 2 0");
        sentence("keeper K A N; nerve X N; rage N; calm N; grown N; bar N; hour N");
        for (String word : new String[] {"keeper", "nerve", "rage", "calm", "grown", "bar", "hour"}) {
            faulty("x" + word.substring(1) + " 1 1 1", 0);
            faulty(word.substring(0, word.length() - 1) + "x 1 1 1", 0);
            faulty(word.substring(1) + " 1 1 1", 0);
            faulty(word + "x 1 1 1", 0);
        }
        faulty("keepe 0 0 0", 0);
        faulty("keepers 0 0 0", 0);
        faulty("growth 1", 0);
        faulty("fled 0", 0);
        faulty("7", 0);
        faulty("rage", 4);
        faulty("rage;", 4);
        faulty("rage rage", 5);
        faulty("keeper 0 0;", 10);
        faulty("keeper 0 0 0 0", 13);
        faulty("nerve 0;", 7);
        faulty("nerve 0 0 0", 10);
    }

    private static void statementNumbers() {
        sentence("keeper K A N");
        for (String text : new String[] {"keeper 0 0 0", "keeper 5 9 40", "keeper 005 009 040"}) {
            right(text, 1, "20 60 1 50 0");
        }
        faulty("keeper 6 0 0", 7);
        faulty("keeper 0 10 0", 9);
        faulty("keeper 0 0 41", 11);
        faulty("keeper 6 10 41", 7);
        faulty("keeper 0 10 41", 9);
        sentence("nerve X N");
        right("nerve 0 0", 1, "20 60 1 50 0");
        right("nerve 0 40", 1, "20 60 1 50 0");
        faulty("nerve 0 41", 8);
        faulty("nerve 1 0", 6);
        faulty("nerve 1 41", 6);
        right("keeper 0 0 0;nerve 1 40", 2, "20 60 1 50 0");
        faulty("keeper 0 0 0;nerve 2 40", 19);
        faulty("nerve 1 0;keeper 0 0 0", 6);
        sentence("rage N");
        right("rage 0", 1, "0 60 1 50 0");
        right("rage 99", 1, "99 60 1 50 0");
        faulty("rage 100", 5);
        sentence("calm N");
        right("calm 0", 1, "20 0 1 50 0");
        right("calm 99", 1, "20 99 1 50 0");
        faulty("calm 100", 5);
        sentence("grown N (GROWTH)");
        faulty("grown 0", 6);
        right("grown 1", 1, "20 60 1 50 0");
        right("grown 9", 1, "20 60 9 50 0");
        faulty("grown 10", 6);
        sentence("bar N");
        faulty("bar 0", 4);
        right("bar 1", 1, "20 60 1 1 0");
        right("bar 99", 1, "20 60 1 99 0");
        faulty("bar 100", 4);
        sentence("hour N (999 at most)");
        right("hour 0", 1, "20 60 1 50 0");
        right("hour 998", 1, "20 60 1 50 998");
        right("hour 999", 1, "20 60 1 50 999");
        faulty("hour 1000", 5);
        faulty("hour 9999", 5);
    }

    private static void faults() {
        sentence("also a NUMBER that may not be, or has more than 3 digits");
        right("rage 05", 1, "5 60 1 50 0");
        right("rage 005", 1, "5 60 1 50 0");
        faulty("rage 0005", 5);
        faulty("hour 0999", 5);
        faulty("bar 000", 4);
        faulty("rage 4294967301", 5);
        faulty("rage 18446744073709551621", 5);
        sentence("a byte that begins none");
        faulty("rage 5;#", 7);
        faulty("rage #", 5);
        faulty("  #rage 5", 2);
        faulty("# #", 0);
        sentence("the first TOKEN that can't stand there");
        faulty("rage 100;#", 5);
        faulty("rages #", 0);
        faulty("rage 5 5;rage 100", 7);
        sentence("THE TAPE's size, if it ends too early");
        String whole = "keeper 0 0 0; nerve 0 1";
        int[] early = {6, 7, 8, 9, 10, 11, 13, 14, 19, 20, 21, 22};
        for (int size : early) {
            faulty(whole.substring(0, size), size);
        }
        right(whole, 2, "20 60 1 50 0");
        faulty("rage 5;" + " ".repeat(242), 249);
        faulty("rage 5;" + " ".repeat(243), 250);
        faulty(" ".repeat(249) + "#", 249);
    }

    private static UnderNurseToTheTemper withKeepers(int count) {
        UnderNurseToTheTemper x = fresh();
        for (int k = 0; k < count; k++) {
            x.keeper(1, 2, 3);
        }
        return x;
    }

    private static void room() {
        sentence("what there is no room for: its word");
        UnderNurseToTheTemper x = withKeepers(7);
        due("two of them", read(x, "rage 5; keeper 0 0 0; keeper 0 0 0"), -20 - 22);
        due("KEEPERS", x.status(0), 7);
        due("RAGE", x.status(1), 20);
        due("the eighth", read(x, "rage 5; keeper 4 5 6"), 2);
        due("KEEPERS", x.status(0), 8);
        due("the eighth", x.keeperOf(7, 0) * 100 + x.keeperOf(7, 1) * 10 + x.keeperOf(7, 2), 456);
        due("a ninth", read(x, "rage 6; keeper 0 0 0"), -20 - 8);
        due("a ninth that may not be", read(x, "keeper 6 0 0"), -20);
        due("a ninth that ends too early", read(x, " keeper"), -21);
        due("KEEPERS", x.status(0), 8);
        due("RAGE", x.status(1), 5);
        due("his NERVE", read(x, "nerve 7 40"), 1);
        due("nobody's NERVE", read(x, "nerve 8 40"), -26);
        dueRefusals("all are BAD, none is FULL", x, "5 0 0 0 0");
        UnderNurseToTheTemper y = fresh();
        due("eight at once", read(y, "keeper 0 0 0" + ";keeper 0 0 0".repeat(7)), 8);
        due("KEEPERS", y.status(0), 8);
        UnderNurseToTheTemper z = fresh();
        due("nine at once", read(z, "keeper 0 0 0" + ";keeper 0 0 0".repeat(8)), -20 - 104);
        due("KEEPERS", z.status(0), 0);
    }

    private static void allOrNothing() {
        sentence("All comes to what there is, or nothing");
        String text = "keeper 4 5 6;nerve 0 7;rage 1;calm 2;grown 3;bar 4;hour 5";
        UnderNurseToTheTemper x = one(0, 0, 0);
        x.order(0);
        x.seed(9);
        due("with a FAULT at its end", read(x, text + ";"), -20 - text.length() - 1);
        dueMeasures("as it was", x, "22 60 2 50 1");
        due("KEEPERS", x.status(0), 1);
        due("NERVE", x.keeperOf(0, 2), 0);
        due("without it", read(x, text), 7);
        dueMeasures("as told", x, "1 2 3 4 5");
        due("KEEPERS", x.status(0), 2);
        due("NERVE", x.keeperOf(0, 2), 7);
        due("FLED goes on", x.keeperOf(0, 3), 1);
        due("the new one has not FLED", x.keeperOf(1, 3), 0);
        due("SEED goes on", x.status(8), 9);
        sentence("-20 less the FAULT (that is refused, too: BAD). THE TAPE is empty then, either way");
        UnderNurseToTheTemper y = fresh();
        due("an empty one", y.house(), -20);
        dueRefusals("one", y, "1 0 0 0 0");
        feedAll(y, "rage");
        due("a FAULT", y.house(), -24);
        due("empty", y.status(7), 0);
        due("again", y.house(), -20);
        feedAll(y, "rage 5");
        due("a HOUSE", y.house(), 1);
        due("empty", y.status(7), 0);
        due("again", y.house(), -20);
        dueRefusals("four", y, "4 0 0 0 0");
    }

    private static void newObject() {
        sentence("No KEEPERS; SHELVES hold NOTHING; THE TAPE is empty");
        UnderNurseToTheTemper x = fresh();
        due("KEEPERS", x.status(0), 0);
        due("none STAYS", x.staying(), 0);
        for (int s = -1; s <= 8; s++) {
            due("holds(" + s + ")", x.holds(s), NONE);
            due("element(" + s + ", 0)", x.element(s, 0), 0);
        }
        due("SHELVES that hold something", x.status(9), 0);
        due("THE TAPE", x.status(7), 0);
        dueRefusals("none", x, "0 0 0 0 0");
        due("number 0", x.stays(0), BAD);
    }

    public static void main(String[] args) {
        newObject();
        measures();
        eightAtMost();
        keeperNumbers();
        nerveAgain();
        fledAtFirst();
        tapeOf250();
        wiped();
        tokens();
        statements();
        statementNumbers();
        faults();
        room();
        allOrNothing();
        finish("edges of THE HOUSE");
    }
}
