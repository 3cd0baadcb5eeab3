import java.io.IOException;

/** The boundary cases of promises 19 to 23, a test for each: the TAPE, plans, FAULTS, and how plans are run. */
public final class BoundsOfPlans extends Bounds {
    public static void main(String[] args) throws IOException, IllegalAccessException {
        runAll(BoundsOfPlans.class, 19, 23);
    }

    /** How many bytes the TAPE has, found without changing it. */
    private static void dueTape(Votes x, int length) {
        due("end of one more than it has", x.end(length + 1), false);
        due("end of what it has", x.end(length), true);
    }

    /** A text that is a plan of so many lines. */
    private static void duePlan(String text, int lines) {
        Votes x = new Votes();
        due("plan '" + text + "'", x.planOf(text), lines);
        due("fault(0) of '" + text + "'", x.fault(0), 0);
        due("fault(1) of '" + text + "'", x.fault(1), NONE);
        due("look(9) of '" + text + "'", x.look(9), lines);
    }

    /** A text that has a FAULT; the plan of two lines, one of them run, stays as it was. */
    private static void dueFault(String text, int fault, int place) {
        Votes x = new Votes();
        x.planOf("lose 1;lose 2;");
        x.run(1);
        due("plan '" + text + "'", x.planOf(text), NONE);
        due("fault(0) of '" + text + "'", x.fault(0), fault);
        due("fault(1) of '" + text + "'", x.fault(1), place);
        due("look(9) behind '" + text + "'", x.look(9), 2);
        due("look(10) behind '" + text + "'", x.look(10), 1);
        due("the TAPE behind '" + text + "'", x.end(1), false);
    }

    /** A number that is taken from the least to the most: the line with '#' in its place. */
    private static void dueBounds(String line, int least, int most) {
        int place = line.indexOf('#');
        duePlan(line.replace("#", "" + least), 1);
        duePlan(line.replace("#", "" + most), 1);
        dueFault(line.replace("#", "" + (most + 1)), 2, place);
        if (least > 0) dueFault(line.replace("#", "" + (least - 1)), 2, place);
    }

    // ---------------------------------------------------------------- 19: feed

    static void feedUpTo400() {
        sentence(19, "NONE, and nothing comes, if there would be more than 400.");
        Votes x = new Votes();
        for (int i = 1; i <= 20; i++) due("feed " + i, x.feed(i, i, i, i, i), 20 * i);
        dueTape(x, 400);
        due("the 401st", x.feed(1, 2, 3, 4, 5), NONE);
        due("again", x.feed(1, 2, 3, 4, 5), NONE);
        dueTape(x, 400);
    }

    static void feedAt380And381() {
        sentence(19, "NONE, and nothing comes, if there would be more than 400.");
        Votes x = new Votes();
        for (int i = 1; i <= 20; i++) x.feed(i, i, i, i, i);
        for (int n : new int[] {399, 390, 382, 381}) {
            x.end(n);
            due("feed at " + n, x.feed(0, 0, 0, 0, 0), NONE);
            dueTape(x, n);
        }
        x.end(380);
        due("feed at 380", x.feed(0, 0, 0, 0, 0), 400);
    }

    /** The TAPE's last byte is the last of the fifth number. */
    static void feedTheLastByte() {
        sentence(19, "Twenty bytes come behind the TAPE, of each number the highest first: how many it has.");
        Votes x = new Votes();
        for (int i = 0; i < 19; i++) x.feed(0x20202020, 0x20202020, 0x20202020, 0x20202020, 0x20202020);
        due("feed", x.feed(0x20202020, 0x20202020, 0x20202020, 0x20202020, 0x20202041), 400);
        due("plan()", x.plan(), NONE);
        due("the letter's place", x.fault(1), 399);
    }

    static void feedRefusedLeavesTheBytes() {
        sentence(19, "NONE, and nothing comes, if there would be more than 400.");
        Votes x = new Votes();
        x.feed(0x6c6f7365, 0x20303b20, 0x20202020, 0x20202020, 0x20202020);
        for (int i = 1; i < 20; i++) x.feed(0x20202020, 0x20202020, 0x20202020, 0x20202020, 0x20202020);
        due("feed", x.feed(-1, -1, -1, -1, -1), NONE);
        due("plan()", x.plan(), 1);
    }

    static void feedHighestFirst() {
        sentence(19, "of each number the highest first");
        Votes x = new Votes();
        due("feed", x.feed(0x6c6f7365, 0x20303b6c, 0x6f736520, 0x313b2020, 0x200a0a20), 20);
        due("'lose 0;lose 1;' and blanks", x.plan(), 2);
    }

    static void feedBytesAbove127() {
        sentence(19, "of each number the highest first");
        for (int b : new int[] {0, 127, 128, 160, 225, 255}) {
            Votes x = new Votes();
            x.feed(b << 24 | 0x202020, 0x20202020, 0x20202020, 0x20202020, 0x20202020);
            due("a byte " + b, x.plan(), NONE);
            due("its place", x.fault(1), 0);
        }
    }

    static void feedBehindACutTape() {
        sentence(19, "Twenty bytes come behind the TAPE");
        Votes x = new Votes();
        x.feed(0x6c6f7365, 0x20303b3b, 0x3b3b3b3b, 0x3b3b3b3b, 0x3b3b3b3b);
        x.end(7);
        due("feed", x.feed(0x6c6f7365, 0x20313b20, 0x20202020, 0x20202020, 0x20202020), 27);
        due("plan()", x.plan(), 2);
    }

    static void feedBehindAPlan() {
        sentence(21, "The TAPE, empty then (with a FAULT too)");
        Votes x = new Votes();
        for (int i = 0; i < 20; i++) x.feed(0x20202020, 0x20202020, 0x20202020, 0x20202020, 0x20202020);
        x.plan();
        due("feed behind a plan", x.feed(-1, -1, -1, -1, -1), 20);
        x.plan();
        due("feed behind a FAULT", x.feed(-1, -1, -1, -1, -1), 20);
    }

    // ---------------------------------------------------------------- 20: end

    static void endOfAnEmptyTape() {
        sentence(20, "false, changing nothing, if it has not so many, or n is below 0");
        Votes x = new Votes();
        for (int n : new int[] {MIN, -1, 1, 20, 400, MAX}) due("end(" + n + ")", x.end(n), false);
        due("end(0)", x.end(0), true);
        due("feed", x.feed(0, 0, 0, 0, 0), 20);
    }

    static void endUpToWhatItHas() {
        sentence(20, "The TAPE has its first n bytes alone: true; false, changing nothing, if it has not so many, or n is below 0.");
        Votes x = new Votes();
        x.feed(0, 0, 0, 0, 0);
        for (int n : new int[] {MIN, -1, 21, 22, 400, 401, MAX}) due("end(" + n + ") of 20", x.end(n), false);
        due("end(20)", x.end(20), true);
        due("end(19)", x.end(19), true);
        due("end(20) of 19", x.end(20), false);
        due("end(1)", x.end(1), true);
        due("end(0)", x.end(0), true);
        due("end(1) of 0", x.end(1), false);
    }

    static void endOfAFullTape() {
        sentence(20, "The TAPE has its first n bytes alone: true");
        Votes x = new Votes();
        for (int i = 0; i < 20; i++) x.feed(0, 0, 0, 0, 0);
        due("end(401)", x.end(401), false);
        due("end(400)", x.end(400), true);
        due("end(399)", x.end(399), true);
        due("end(400) of 399", x.end(400), false);
    }

    static void endRefusedChangesNothing() {
        sentence(20, "false, changing nothing, if it has not so many, or n is below 0");
        Votes x = new Votes();
        x.write("lose 0;lose 1;");
        due("end(15)", x.end(15), false);
        due("end(-1)", x.end(-1), false);
        due("end(MAX)", x.end(MAX), false);
        dueTape(x, 14);
        due("plan()", x.plan(), 2);
        changesNothing(Votes::busy, y -> {
            due("end(21)", y.end(21), false);
            due("end(-1)", y.end(-1), false);
        });
    }

    static void endTakesTheFirst() {
        sentence(20, "The TAPE has its first n bytes alone");
        Votes x = new Votes();
        x.write("lose 0;lose 1;??????");
        due("end(7)", x.end(7), true);
        due("plan()", x.plan(), 1);
    }

    // ---------------------------------------------------------------- 21: plan

    static void planOfNothing() {
        sentence(21, "is the plan, at its beginning: how many lines");
        Votes x = new Votes();
        due("plan() of an empty TAPE", x.plan(), 0);
        due("fault(0)", x.fault(0), 0);
        x.planOf("lose 0;");
        due("lines", x.look(9), 1);
        due("plan() of an empty TAPE", x.plan(), 0);
        due("lines", x.look(9), 0);
        due("run(1)", x.run(1), 0);
    }

    static void planOfBlanks() {
        sentence(21, "; and blanks (32, 10)");
        duePlan(" ", 0);
        duePlan("\n", 0);
        duePlan(" \n  \n ", 0);
        duePlan(" \n lose \n 0 \n ; \n ", 1);
        for (int c : new int[] {0, 9, 11, 12, 13, 31, 33, 127, 133, 160, 255}) {
            dueFault("lose 0;" + (char) c, 1, 7);
            dueFault("lose" + (char) c + "0;", 1, 4);
        }
    }

    static void planWithoutBlanks() {
        sentence(21, "letters (a .. z, A .. Z) as many as stand together are those words or none");
        duePlan("propose1 2;deliver3;drop4;lose5;turn6;timeout0;lie1mark2;lie3block4 5;lie6timeout7;calm8;", 10);
    }

    static void planOf24Lines() {
        sentence(21, "up to 24 lines");
        duePlan(times(23, "lose 0;"), 23);
        duePlan(times(24, "lose 0;"), 24);
        duePlan(times(24, "lose 0;") + " \n", 24);
        dueFault(times(25, "lose 0;"), 3, 168);
    }

    static void planOf400Bytes() {
        sentence(21, "The TAPE, empty then (with a FAULT too), is the plan");
        duePlan(times(393, " ") + "lose 0;", 1);
        dueFault(times(396, " ") + "lose", 1, 400);
        dueFault(times(394, " ") + "lose 0", 1, 400);
        dueFault(times(399, " ") + "x", 1, 399);
    }

    static void planStaysWithAFault() {
        sentence(21, "NONE: a FAULT (the plan stays as it was)");
        Votes x = new Votes();
        x.planOf("lose 0;timeout 0;timeout 1;");
        x.run(1);
        due("a FAULT behind good lines", x.planOf("calm 1;calm 2;calm 3;calm 0;"), NONE);
        due("lines", x.look(9), 3);
        due("lines that were run", x.look(10), 1);
        due("run(1)", x.run(1), 1);
        due("TIMED of 0", x.node(0, 4), 1);
        due("run(24)", x.run(24), 1);
        due("TIMED of 1", x.node(1, 4), 1);
        due("BLOCKS", x.look(3), 1);
    }

    static void planEmptiesTheTape() {
        sentence(21, "The TAPE, empty then (with a FAULT too)");
        Votes x = new Votes();
        x.write("lose 0;");
        due("plan()", x.plan(), 1);
        dueTape(x, 0);
        x.write("lose 7;");
        due("plan() with a FAULT", x.plan(), NONE);
        dueTape(x, 0);
        due("plan() again", x.plan(), 0);
    }

    static void planAtItsBeginning() {
        sentence(21, "is the plan, at its beginning: how many lines");
        Votes x = new Votes();
        x.planOf("lose 0;lose 1;lose 2;");
        x.run(24);
        due("lines that were run", x.look(10), 3);
        due("a new one", x.planOf("lose 0;lose 1;"), 2);
        due("lines that were run", x.look(10), 0);
        due("run(24)", x.run(24), 2);
    }

    static void planDoesNothingYet() {
        sentence(21, "is the plan, at its beginning");
        Votes x = new Votes();
        x.planOf("propose 1 5;calm 20;timeout 0;");
        due("BLOCKS", x.look(3), 1);
        due("MESSAGES", x.look(4), 0);
        due("TIMED", x.node(0, 4), 0);
    }

    static void planDigits() {
        sentence(21, "digits as many as stand together NUMBERS of 1 to 4 digits or none");
        duePlan("lose 0;", 1);
        duePlan("lose 06;", 1);
        duePlan("lose 006;", 1);
        duePlan("lose 0006;", 1);
        dueFault("lose 00006;", 1, 5);
        dueFault("lose 00000000000000000000000000000001;", 1, 5);
        dueFault("propose 0 12345;", 1, 10);
        dueFault("calm 99999999999;", 1, 5);
        dueFault("propose 0 9999;", 2, 10);
    }

    static void planLetters() {
        sentence(21, "letters (a .. z, A .. Z) as many as stand together are those words or none");
        for (String word : new String[] {"los", "loses", "Lose", "LOSE", "losE", "aose", "zose", "l", "x", "loselose", "AZaz",
            "losea", "losez", "loseA", "loseZ", "losem", "loseM"}) {
            dueFault(word + " 0;", 1, 0);
        }
        dueFault("los e 0;", 1, 0);
        for (char c : new char[] {'@', '[', '`', '{', '_', '-', '+', '.', ',', ':', '/', '#'}) {
            dueFault("lose" + c + "0;", 1, 4);
            dueFault("lose 0" + c + ";", 1, 6);
        }
    }

    static void planBoundsOfN() {
        sentence(21, "N 0 .. 6");
        dueBounds("propose # 1;", 0, 6);
        dueBounds("lose #;", 0, 6);
        dueBounds("timeout #;", 0, 6);
        dueBounds("lie # mark 1;", 0, 6);
        dueBounds("lie # block 1 1;", 0, 6);
        dueBounds("lie # timeout 1;", 0, 6);
    }

    static void planBoundsOfP() {
        sentence(21, "P 0 .. 999");
        dueBounds("propose 1 #;", 0, 999);
    }

    static void planBoundsOfK() {
        sentence(21, "K 1 .. 50 (so many of the first ones");
        dueBounds("deliver #;", 1, 50);
        dueBounds("drop #;", 1, 50);
    }

    static void planBoundsOfM() {
        sentence(21, "M 0 .. 50");
        dueBounds("turn #;", 0, 50);
    }

    static void planBoundsOfB() {
        sentence(21, "B 0 .. 99");
        dueBounds("lie 1 mark #;", 0, 99);
        dueBounds("lie 1 block # 1;", 0, 99);
    }

    static void planBoundsOfV() {
        sentence(21, "V 1 .. 200");
        dueBounds("lie 1 block 1 #;", 1, 200);
        dueBounds("lie 1 timeout #;", 1, 200);
    }

    static void planBoundsOfR() {
        sentence(21, "R 1 .. 20");
        dueBounds("calm #;", 1, 20);
    }

    // ---------------------------------------------------------------- 22: fault

    static void faultAtFirst() {
        sentence(22, "Of the latest plan() what 0 the FAULT (0 without one), 1 its place (NONE).");
        Votes x = new Votes();
        due("fault(0)", x.fault(0), 0);
        due("fault(1)", x.fault(1), NONE);
        x.write("lose 7;");
        due("fault(0) ahead of plan()", x.fault(0), 0);
    }

    static void faultWhat() {
        sentence(22, "NONE for another what.");
        Votes x = new Votes();
        for (int w : new int[] {MIN, -1, 2, 3, MAX}) due("fault(" + w + ")", x.fault(w), NONE);
        x.planOf("lose 7;");
        for (int w : new int[] {MIN, -1, 2, 3, MAX}) due("fault(" + w + ")", x.fault(w), NONE);
    }

    static void faultOfTheLatest() {
        sentence(22, "Of the latest plan() what 0 the FAULT (0 without one), 1 its place (NONE).");
        Votes x = new Votes();
        x.planOf("lose 7;");
        due("fault(0)", x.fault(0), 2);
        due("fault(1)", x.fault(1), 5);
        x.planOf(" x");
        due("fault(0)", x.fault(0), 1);
        due("fault(1)", x.fault(1), 1);
        x.planOf("lose 6;");
        due("fault(0)", x.fault(0), 0);
        due("fault(1)", x.fault(1), NONE);
    }

    static void faultAtPlaceZero() {
        sentence(22, "1 what can't stand there (the end: the text's length)");
        dueFault(";", 1, 0);
        dueFault("0", 1, 0);
        dueFault("x", 1, 0);
        dueFault("#", 1, 0);
        dueFault("mark 1;", 1, 0);
        dueFault("block 1;", 1, 0);
    }

    static void faultAtTheEnd() {
        sentence(22, "1 what can't stand there (the end: the text's length)");
        dueFault("lose", 1, 4);
        dueFault("lose ", 1, 5);
        dueFault("lose \n", 1, 6);
        dueFault("lose 0", 1, 6);
        dueFault("lose 0 ", 1, 7);
        dueFault("lose 0;lose", 1, 11);
        dueFault("propose 1", 1, 9);
        dueFault("propose 1 2", 1, 11);
        dueFault("lie", 1, 3);
        dueFault("lie 0", 1, 5);
        dueFault("lie 0 mark", 1, 10);
        dueFault("lie 0 mark 1", 1, 12);
        dueFault("lie 0 block 1", 1, 13);
        dueFault("lie 0 block 1 1", 1, 15);
        dueFault("lie 0 timeout", 1, 13);
        dueFault("lie 0 timeout 1", 1, 15);
        dueFault("calm 1;c", 1, 7);
    }

    static void faultTooFewNumbers() {
        sentence(22, "1 what can't stand there");
        for (String word : new String[] {"deliver", "drop", "lose", "turn", "timeout", "calm", "lie", "propose"}) {
            dueFault(word + ";", 1, word.length());
            dueFault(word + " " + word + ";", 1, word.length() + 1);
        }
        dueFault("propose 1;", 1, 9);
        dueFault("lie 1;", 1, 5);
        dueFault("lie 1 mark;", 1, 10);
        dueFault("lie 1 block;", 1, 11);
        dueFault("lie 1 block 1;", 1, 13);
        dueFault("lie 1 timeout;", 1, 13);
    }

    static void faultTooManyNumbers() {
        sentence(22, "1 what can't stand there");
        for (String word : new String[] {"deliver", "drop", "lose", "turn", "timeout", "calm"}) {
            dueFault(word + " 1 1;", 1, word.length() + 3);
        }
        dueFault("propose 1 1 1;", 1, 12);
        dueFault("lie 1 1;", 1, 6);
        dueFault("lie 1 mark 1 1;", 1, 13);
        dueFault("lie 1 block 1 1 1;", 1, 16);
        dueFault("lie 1 timeout 1 1;", 1, 16);
        dueFault("lose 1;;", 1, 7);
    }

    static void faultOfALiesWord() {
        sentence(22, "1 what can't stand there");
        for (String word : new String[] {"propose", "deliver", "drop", "lose", "turn", "calm", "lie", "marks", "Mark", "x"}) {
            dueFault("lie 1 " + word + " 1;", 1, 6);
        }
        dueFault("lie mark 1;", 1, 4);
    }

    static void faultBeyondItsBounds() {
        sentence(22, "2 (at the NUMBER) one beyond its bounds");
        dueFault("propose 7 0;", 2, 8);
        dueFault("propose 6 1000;", 2, 10);
        dueFault("lie 6 block 100 1;", 2, 12);
        dueFault("lie 6 block 99 201;", 2, 15);
        dueFault("\n\n calm  0021 ;", 2, 9);
        dueFault("calm 21", 2, 5);
    }

    static void faultTheFirstByItsPlace() {
        sentence(22, "FAULTS, the first by its place, at one place the least");
        dueFault("calm 0 x", 2, 5);
        dueFault("calm 0;x", 2, 5);
        dueFault("calm x;calm 0;", 1, 5);
        dueFault("calm 1;calm 0;calm 0;", 2, 12);
        dueFault("lie 7 x;", 2, 4);
        dueFault("lie x 7;", 1, 4);
        dueFault("propose 7 1000;", 2, 8);
        dueFault("calm 00000;", 1, 5);
    }

    static void faultOfThe25thLine() {
        sentence(22, "3 (at its first token) the 25th line");
        String full = times(24, "lose 0;");
        dueFault(full + "lose 0;", 3, 168);
        dueFault(full + " \n lose 0;", 3, 171);
        dueFault(full + "lie", 3, 168);
        dueFault(full + "lose 7;", 3, 168);
        dueFault(full + "lose x", 3, 168);
        for (String word : new String[] {"propose", "deliver", "drop", "lose", "turn", "timeout", "lie", "calm"}) {
            dueFault(full + word, 3, 168);
        }
        dueFault(times(30, "lose 0;"), 3, 168);
    }

    static void faultThe25thLineCantStand() {
        sentence(22, "FAULTS, the first by its place, at one place the least");
        String full = times(24, "lose 0;");
        dueFault(full + "x", 1, 168);
        dueFault(full + ";", 1, 168);
        dueFault(full + "1", 1, 168);
        dueFault(full + "mark", 1, 168);
        dueFault(full + "block 1 1;", 1, 168);
        dueFault(times(23, "lose 0;") + "lose 7;lose 0;", 2, 166);
        dueFault(times(23, "lose 0;") + "lose 0 lose 0;", 1, 168);
    }

    // ---------------------------------------------------------------- 23: run

    static void runOneTo24() {
        sentence(23, "RUN k (1 .. 24)");
        Votes x = new Votes();
        x.planOf(times(24, "lose 0;"));
        for (int k : new int[] {MIN, -1, 0, 25, 26, MAX}) {
            due("run(" + k + ")", x.run(k), NONE);
            due("lines that were run", x.look(10), 0);
        }
        due("run(1)", x.run(1), 1);
        due("lines that were run", x.look(10), 1);
        due("run(22)", x.run(22), 22);
        due("lines that were run", x.look(10), 23);
        Votes y = new Votes();
        y.planOf(times(24, "lose 0;"));
        due("run(24)", y.run(24), 24);
        due("lines that were run", y.look(10), 24);
    }

    static void runOfNoPlan() {
        sentence(23, "the plan is at its end: fewer");
        Votes x = new Votes();
        due("run(1)", x.run(1), 0);
        due("run(24)", x.run(24), 0);
        due("lines that were run", x.look(10), 0);
    }

    static void runAtItsEnd() {
        sentence(23, "the plan is at its end: fewer");
        Votes x = new Votes();
        x.planOf("lose 0;lose 1;lose 2;");
        due("run(2)", x.run(2), 2);
        due("run(2) with one left", x.run(2), 1);
        due("lines that were run", x.look(10), 3);
        due("run(2) with none left", x.run(2), 0);
        due("lines that were run", x.look(10), 3);
        due("lines", x.look(9), 3);
    }

    static void runPassesOverWhatIsRefused() {
        sentence(23, "one by one as if called (what is refused is passed over");
        Votes x = new Votes();
        x.planOf("propose 0 0;timeout 6;turn 1;lose 6;lie 0 mark 0;lie 1 block 0 1;lie 1 timeout 1;propose 1 9;");
        due("run(7)", x.run(7), 0);
        due("lines that were run", x.look(10), 7);
        due("MESSAGES", x.look(4), 0);
        due("BLOCKS", x.look(3), 1);
        due("run(1)", x.run(1), 1);
        due("PAYLOAD", x.block(1, 3), 9);
    }

    static void runOfNone() {
        sentence(23, "deliver, drop of none are refused, lose of none is not");
        Votes x = new Votes();
        x.planOf("deliver 1;drop 1;lose 0;turn 0;deliver 50;drop 50;");
        due("deliver 1", x.run(1), 0);
        due("drop 1", x.run(1), 0);
        due("lose 0", x.run(1), 1);
        due("turn 0", x.run(1), 1);
        due("deliver 50", x.run(1), 0);
        due("drop 50", x.run(1), 0);
        due("delivered", x.look(11), 0);
    }

    static void runLoseOfNoSuchNode() {
        sentence(23, "one by one as if called (what is refused is passed over");
        Votes x = new Votes();
        x.planOf("lose 3;lose 4;lose 6;");
        due("of four NODES", x.run(3), 1);
        Votes y = new Votes();
        y.nodes(7);
        y.planOf("lose 3;lose 4;lose 6;");
        due("of seven NODES", y.run(3), 3);
    }

    static void runLose() {
        sentence(23, "one by one as if called (what is refused is passed over");
        Votes x = new Votes();
        x.timeout(0);
        x.timeout(1);
        x.mode(2, 1);
        x.planOf("lose 2;lose 3;");
        due("of a silent NODE", x.run(1), 1);
        dueRow("TO", i -> x.message(i, 1), 0, 1, 3, 0, 1, 3, NO_MESSAGE);
        due("of another", x.run(1), 1);
        dueRow("TO", i -> x.message(i, 1), 0, 1, 0, 1, NO_MESSAGE);
    }

    static void runDeliverFewer() {
        sentence(23, "so many of the first ones, one behind the other; fewer, if there are fewer");
        Votes x = new Votes();
        x.timeout(0);
        x.timeout(1);
        x.planOf("deliver 3;deliver 6;deliver 1;");
        due("three of eight", x.run(1), 1);
        due("MESSAGES", x.look(4), 5);
        dueRow("noted of 0", i -> x.timeouts(i, 1), 1, 1, 1, 0);
        due("six of five", x.run(1), 1);
        due("MESSAGES", x.look(4), 0);
        due("delivered", x.look(11), 8);
        due("one of none", x.run(1), 0);
    }

    static void runDeliverOne() {
        sentence(23, "so many of the first ones, one behind the other; fewer, if there are fewer");
        Votes x = new Votes();
        x.timeout(0);
        x.planOf("deliver 1;deliver 2;deliver 50;");
        due("one of four", x.run(1), 1);
        due("the first", x.timeouts(0, 1), 1);
        due("two of three", x.run(1), 1);
        due("fifty of one", x.run(1), 1);
        due("delivered", x.look(11), 4);
    }

    /** Read as deliver(0) so many times: marks that come meanwhile stand behind and are delivered in their turn. */
    static void runDeliverWhatComesMeanwhile() {
        sentence(23, "so many of the first ones, one behind the other; fewer, if there are fewer");
        Votes x = new Votes();
        x.planOf("propose 1 0;deliver 4;deliver 50;propose 2 0;deliver 50;");
        due("run(2)", x.run(2), 2);
        due("four marks", x.look(4), 4);
        due("run(1)", x.run(1), 1);
        due("CERTIFIED", x.block(1, 7), 1);
        due("run(2)", x.run(2), 2);
        due("delivered", x.look(11), 16);
        due("MESSAGES", x.look(4), 0);
    }

    static void runDropFewer() {
        sentence(23, "so many of the first ones, one behind the other; fewer, if there are fewer");
        Votes x = new Votes();
        x.timeout(0);
        x.planOf("drop 3;drop 50;drop 1;");
        due("three of four", x.run(1), 1);
        due("what is left", x.message(0, 1), 3);
        due("MESSAGES", x.look(4), 1);
        due("fifty of one", x.run(1), 1);
        due("MESSAGES", x.look(4), 0);
        due("one of none", x.run(1), 0);
        due("delivered", x.look(11), 0);
    }

    static void runFiftyOfMore() {
        sentence(23, "K 1 .. 50 (so many of the first ones");
        Votes x = Votes.liars(4);
        x.fill(0, 120);
        x.planOf("deliver 50;drop 50;");
        due("deliver 50", x.run(1), 1);
        due("delivered", x.look(11), 50);
        due("MESSAGES", x.look(4), 70);
        due("drop 50", x.run(1), 1);
        due("MESSAGES", x.look(4), 20);
        due("delivered", x.look(11), 50);
    }

    /** A full row, of which the first ones go by plan: what is left stands in its order. */
    static void runDropOfAFullRow() {
        sentence(23, "K 1 .. 50 (so many of the first ones");
        Votes x = Votes.liars(4);
        for (int v = 1; v <= 50; v++) x.lie(0, 2, 0, v, 0);
        x.planOf("drop 50;drop 50;drop 49;");
        due("run(3)", x.run(3), 3);
        due("MESSAGES", x.look(4), 51);
        due("the first's VIEW", x.message(0, 3), 38);
        due("the first's TO", x.message(0, 1), 1);
        due("the last's VIEW", x.message(50, 3), 50);
        for (int v = 51; v <= 87; v++) x.lie(0, 2, 0, v, 0);
        due("MESSAGES", x.look(4), 199);
        due("the last's VIEW", x.message(198, 3), 87);
        due("LOST", x.look(5), 0);
    }

    static void runTurn() {
        sentence(23, "one by one as if called (what is refused is passed over");
        Votes x = new Votes();
        x.timeout(0);
        x.planOf("turn 5;turn 4;turn 50;turn 1;");
        due("5 of 4", x.run(1), 0);
        due("TO", x.message(0, 1), 0);
        due("4 of 4", x.run(1), 1);
        due("TO", x.message(0, 1), 3);
        due("50 of 4", x.run(1), 0);
        due("1 of 4", x.run(1), 1);
        due("TO", x.message(3, 1), 3);
    }

    static void runTimeout() {
        sentence(23, "one by one as if called (what is refused is passed over");
        Votes x = new Votes();
        x.mode(2, 1);
        x.planOf("timeout 0;timeout 0;timeout 2;timeout 3;timeout 4;");
        due("run(5)", x.run(5), 2);
        dueRow("TIMED", i -> x.node(i, 4), 1, 0, 0, 1);
    }

    static void runCalm() {
        sentence(23, "one by one as if called (what is refused is passed over");
        Votes x = new Votes();
        x.planOf("calm 1;calm 20;");
        due("calm 1, by which nothing gets longer", x.run(1), 1);
        due("BLOCKS", x.look(3), 2);
        due("calm 20", x.run(1), 1);
        due("BLOCKS", x.look(3), 22);
        due("PAYLOAD of the last", x.block(21, 3), 19);
    }

    static void runLieBlock() {
        sentence(23, "(lie block: as 1, PAYLOAD 0; lie timeout: HIGH 0)");
        Votes x = Votes.liars(4);
        x.planOf("lie 1 block 0 1;lie 0 block 0 200;lie 1 block 1 5;lie 1 block 9 5;lie 2 block 0 1;");
        due("run(2)", x.run(2), 2);
        dueRow("block 1", w -> x.block(1, w), 1, 0, 0, 0, 1, 1, 0, 0);
        due("VIEW of 2", x.block(2, 0), 200);
        due("on one not CERTIFIED, on none, by another than the LEADER", x.run(3), 0);
        due("BLOCKS", x.look(3), 3);
    }

    static void runLieTimeout() {
        sentence(23, "(lie block: as 1, PAYLOAD 0; lie timeout: HIGH 0)");
        Votes x = Votes.liars(4);
        x.forge(0, 1);
        x.planOf("lie 3 timeout 1;lie 3 timeout 200;lie 4 timeout 1;");
        due("run(3)", x.run(3), 2);
        dueRow("message 0", w -> x.message(0, w), 3, 0, 3, 1, 0);
        dueRow("message 7", w -> x.message(7, w), 3, 3, 3, 200, 0);
    }

    static void runLieMark() {
        sentence(23, "lie N mark B");
        Votes x = Votes.liars(4);
        x.lie(1, 1, 0, 1, 0);
        x.empty();
        x.planOf("lie 3 mark 1;lie 3 mark 0;lie 3 mark 2;lie 3 mark 99;lie 4 mark 1;");
        due("run(5)", x.run(5), 1);
        dueRow("message 0", w -> x.message(0, w), 3, 2, 2, 1, NONE);
        due("MESSAGES", x.look(4), 1);
    }

    static void runProposePayloads() {
        sentence(23, "P 0 .. 999");
        Votes x = new Votes();
        x.planOf("propose 1 999;");
        due("run(1)", x.run(1), 1);
        due("PAYLOAD", x.block(1, 3), 999);
        Votes y = new Votes();
        y.planOf("propose 1 0;");
        due("run(1)", y.run(1), 1);
        due("PAYLOAD", y.block(1, 3), 0);
    }

    static void runThe100thBlock() {
        sentence(23, "what is refused is passed over");
        Votes x = Votes.liars(4);
        x.blocksTill(99);
        x.planOf("lie 1 block 0 1;propose 1 0;lie 1 block 0 1;lie 0 mark 99;");
        due("run(1)", x.run(1), 1);
        due("run(2)", x.run(2), 0);
        due("BLOCKS", x.look(3), 100);
        due("run(1)", x.run(1), 1);
    }

    static void runRefused() {
        sentence(23, "how many of them were not refused; NONE if k can't be");
        changesNothing(Votes::busy, x -> {
            due("run(0)", x.run(0), NONE);
            due("run(25)", x.run(25), NONE);
            due("run(-1)", x.run(-1), NONE);
        });
    }
}
