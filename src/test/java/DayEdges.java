/** Edges of LAWS, of the sand through the day and of what is done by hand: promises 6 to 18. */
final class DayEdges {
    private static final int[] NO_MINUTES = {-1, 600, 601, Edges.LEAST, Edges.MOST};
    /** HIGH 10; COVERED in minutes 3 (as much) and 6 (more) alone. */
    private static final String TWO_WAVES = "high=10;tide=if minute<3 then 9 else if minute<4 then 10 else if minute<6 then 9"
        + " else if minute<7 then 11 else 9;";

    private DayEdges() {
    }

    static void tryAll() {
        minutesOfTheDay();
        sums();
        firstIf();
        wrapping();
        towardsZero();
        dividedByZero();
        variables();
        heldLaws();
        partAnswers();
        workerAnswers();
        minuteAnswers();
        covered();
        free();
        freeOfNone();
        when();
        whenItHolds();
        ways();
        comings();
        inTheDay();
        noSuchMinute();
        notAgain();
        washed();
        againUncrossed();
        sendOfNone();
        crossing();
        crossOfNone();
        mending();
        mendingAnyhow();
        beyondTheDay();
        mendOfNone();
        undoing();
        undoOfNone();
        lastForty();
        seenFrom();
        seenTill();
        seenUncrossed();
        seenOfNone();
        photographs();
        bestMinute();
        staying();
        staysOfNone();
    }

    // ---- LAWS: promises 6 and 8

    private static int tide(String sum) {
        return Edges.told("tide=" + sum + ";").minute(0, 0);
    }

    private static void minutesOfTheDay() {
        Edges.sentence(8, "The day has MINUTES 0 .. 599.");
        TideRakes rakes = Edges.told("tide=minute+1;sun=minute/6;");
        for (int minute : new int[] {0, 1, 598, 599}) {
            Edges.due("TIDE in " + minute, rakes.minute(minute, 0), minute + 1);
            Edges.due("SUN in " + minute, rakes.minute(minute, 1), minute / 6);
        }
        for (int minute : NO_MINUTES) {
            Edges.due("TIDE in " + minute, rakes.minute(minute, 0), -10000);
            Edges.due("SUN in " + minute, rakes.minute(minute, 1), -10000);
        }
    }

    private static void sums() {
        Edges.sentence(8, "E: PART {('+' | '-') PART}. PART: UNIT {('*' | '/') UNIT}. UNIT: INT | VAR | '(' E ')'.");
        String[] sums = {"2+3*4", "2*3+4", "10-3-2", "10-(3-2)", "10-3+2", "100/10/5", "100/(10/5)", "100/10*5", "7/2*2", "7*2/2", "10-2*3+4/2", "(2+3)*4",
            "((5))", "minute", "minute*2+1", "(minute-7)*(minute+1)"};
        int[] due = {14, 10, 5, 9, 9, 2, 50, 50, 6, 7, 6, 20, 5, 0, 1, -7};
        for (int i = 0; i < sums.length; i++) {
            Edges.due(sums[i], tide(sums[i]), due[i]);
        }
        Edges.due("sums on both sides", tide("if 1+2*3<2*3+2 then 4-1 else 5"), 3);
        Edges.due("as much on both sides", tide("if 1+2*3<2*3+1 then 4-1 else 5*1"), 5);
    }

    private static void firstIf() {
        Edges.sentence(8, "the E of the first if that holds (one less than the other), else the last one");
        TideRakes rakes = Edges.told("tide=if minute<5 then 1 else if minute<10 then 2 else if minute<10 then 3 else if minute<20 then 4 else 5;");
        int[][] rows = {{0, 1}, {4, 1}, {5, 2}, {9, 2}, {10, 4}, {19, 4}, {20, 5}, {599, 5}};
        for (int[] row : rows) {
            Edges.due("TIDE in " + row[0], rakes.minute(row[0], 0), row[1]);
        }
        Edges.due("less", tide("if 1<2 then 3 else 4"), 3);
        Edges.due("as much", tide("if 2<2 then 3 else 4"), 4);
        Edges.due("more", tide("if 3<2 then 3 else 4"), 4);
        Edges.due("without an if", tide("7"), 7);
    }

    private static void wrapping() {
        Edges.sentence(8, "ints of 32 bits that wrap");
        Edges.due("2 to the 31st", tide("2048*2048*512"), -9999);
        Edges.due("1 less than that", tide("2048*2048*512-1"), 9999);
        Edges.due("2 to the 32nd and 5", tide("4096*4096*256+5"), 5);
        Edges.due("the greatest and 1", tide("(2048*2048*512-1)+1"), -9999);
        Edges.due("the least by -1", tide("2048*2048*512/(0-1)"), -9999);
        Edges.due("the least by -1 and 1 less", tide("2048*2048*512/(0-1)-1"), 9999);
        Edges.due("the least is less than all", tide("if 2048*2048*512<1 then 3 else 4"), 3);
        Edges.due("the greatest is not less than the least", tide("if 2048*2048*512-1<2048*2048*512 then 3 else 4"), 4);
        Edges.due("9999 times 9999 times 9999", tide("9999*9999*9999/(1000*100)"), wrapped());
    }

    private static int wrapped() {
        long product = 9999L * 9999L * 9999L & 0xffffffffL;
        long signed = product >= 1L << 31 ? product - (1L << 32) : product;
        return (int) Math.max(-9999, Math.min(9999, signed / 100000));
    }

    private static void towardsZero() {
        Edges.sentence(8, "/ rounded towards 0");
        Edges.due("7/2", tide("7/2"), 3);
        Edges.due("-7/2", tide("(0-7)/2"), -3);
        Edges.due("7/-2", tide("7/(0-2)"), -3);
        Edges.due("-7/-2", tide("(0-7)/(0-2)"), 3);
        Edges.due("-1/2", tide("(0-1)/2"), 0);
        Edges.due("from the left", tide("100/7/2*3"), 21);
        Edges.due("0 by 5", tide("0/5"), 0);
    }

    private static void dividedByZero() {
        Edges.sentence(8, "a LAW in which something that is looked at is divided by 0 is 0");
        String[] zero = {"1/0", "0/0", "5+1/0", "5+0*(1/(3-3))", "if 1/0<2 then 3 else 4", "if 1<2/0 then 3 else 4", "if 1/0<2/0 then 3 else 4",
            "if 1<2 then 3/0 else 4", "if 2<1 then 3 else 4/0", "if 2<1 then 3 else if 1/0<1 then 4 else 5", "7-1/(minute*9)"};
        for (String sum : zero) {
            Edges.due(sum, tide(sum), 0);
        }
        Edges.due("a then that is not looked at", tide("if 2<1 then 3/0 else 4"), 4);
        Edges.due("an else that is not looked at", tide("if 1<2 then 3 else 4/0"), 3);
        Edges.due("an if that is not looked at", tide("if 1<2 then 3 else if 1/0<1 then 4 else 5"), 3);
        TideRakes rakes = Edges.told("tide=9/(minute-3)+1;high=7/x+1;part a 0 1 1 1;part b 7 1 1 1;sun=50/(minute-3);dog=9/(minute-3)+1;"
            + "slip=far+8/off;");
        Edges.due("in minute 2", rakes.minute(2, 0), -8);
        Edges.due("in minute 3", rakes.minute(3, 0), 0);
        Edges.due("in minute 4", rakes.minute(4, 0), 10);
        Edges.due("SUN in minute 3", rakes.minute(3, 1), 0);
        Edges.due("HIGH by 0", rakes.part(0, 0), 0);
        Edges.due("HIGH by 7", rakes.part(1, 0), 2);
        Edges.due("DOG in minute 3", rakes.dog(0, 3), 0);
        Edges.due("DOG in minute 4", rakes.dog(0, 4), 10);
        Edges.due("SLIP of no error", rakes.error(0, false), 0);
    }

    private static void variables() {
        Edges.sentence(6, "x, y: of the PART (HIGH, DOG; else 0); minute (TIDE, SUN, DOG; else 0); far, off (SLIP; else 0).");
        String all = "1+x*1000+y*100+minute*10+far*50+off*70";
        TideRakes rakes = Edges.told("part a 2 3 1 1;peg 2 2;high=" + all + ";tide=" + all + ";slip=" + all + ";");
        Edges.due("HIGH: x and y", rakes.part(0, 0), 2301);
        Edges.due("TIDE: minute", rakes.minute(599, 0), 5991);
        Edges.due("SLIP: far", rakes.error(0, false), 51);
        rakes = Edges.told("part a 2 3 1 1;peg 2 2;sun=1+x*20+y*20+minute+far*20+off*20;dog=1+x*10+y*3+minute+far*50+off*50;");
        Edges.due("SUN: minute", rakes.minute(8, 1), 9);
        Edges.due("DOG: x, y, minute", rakes.dog(0, 8), 38);
        // b from a: far 1, off 51
        rakes = Edges.told("part a 2 3 1 1;part b 2 4 1 1;peg 2 2;slip=if off<1 then far*far*51+x*9+y*9+minute*9 else far+off;");
        Edges.due("SLIP: off", rakes.error(1, false), 51 + 1 + 51);
        Edges.due("measured from a", rakes.error(1, true), 0);
    }

    private static void heldLaws() {
        Edges.sentence(6, "HIGH and TIDE held to -9999 .. 9999, SUN and DOG to 0 .. 100, SLIP to 0 .. 9999.");
        int[][] wide = {{9998, 9998}, {9999, 9999}, {10000, 9999}, {-9998, -9998}, {-9999, -9999}, {-10000, -9999}};
        for (int[] row : wide) {
            String sum = number(row[0]);
            TideRakes rakes = Edges.told("part a 0 0 1 1;high=" + sum + ";tide=" + sum + ";slip=" + sum + ";");
            Edges.due("HIGH of " + row[0], rakes.part(0, 0), row[1]);
            Edges.due("TIDE of " + row[0], rakes.minute(0, 0), row[1]);
            Edges.due("SLIP of " + row[0], rakes.error(0, false), Math.max(0, row[1]));
        }
        int[][] narrow = {{0, 0}, {-1, 0}, {1, 1}, {99, 99}, {100, 100}, {101, 100}, {10000, 100}, {-10000, 0}};
        for (int[] row : narrow) {
            String sum = number(row[0]);
            TideRakes rakes = Edges.told("part a 0 0 1 1;sun=" + sum + ";dog=" + sum + ";slip=" + sum + ";");
            Edges.due("SUN of " + row[0], rakes.minute(0, 1), row[1]);
            Edges.due("DOG of " + row[0], rakes.dog(0, 0), row[1]);
            Edges.due("SLIP of " + row[0], rakes.error(0, false), Math.max(0, Math.min(9999, row[0])));
        }
        Edges.due("COVERED goes by what is held", Edges.told("part a 0 0 1 1;high=9999+5;tide=9999+1;").free(0, 0), 0);
        Edges.due("and below", Edges.told("part a 0 0 1 1;high=0-9999-1;tide=0-9999-5;").free(0, 0), 0);
    }

    private static String number(int value) {
        int most = Math.min(Math.abs(value), 9999);
        int rest = Math.abs(value) - most;
        return value < 0 ? "0-" + most + "-" + rest : most + "+" + rest;
    }

    // ---- promises 6 to 8

    private static void partAnswers() {
        Edges.sentence(6, "1 from which minute it is DONE (-2: never was), 2: 1 if CROSSED, else 0, 3 WORTH, 4 MINUTES,"
            + " 5 by whom it was raked last (-2: by none). -10000 for others.");
        TideRakes rakes = Edges.told("part a 0 5 7 2;part b 0 6 8 3;worker w 0 5 1;worker u 0 5 1;");
        Edges.dueRow("a", what -> rakes.part(0, what), 5, -2, 0, 7, 2, -2, -10000, -10000);
        rakes.send(1, 0);
        rakes.cross(0);
        Edges.dueRow("a raked and crossed", what -> rakes.part(0, what), 5, 2, 1, 7, 2, 1, -10000, -10000);
        Edges.dueRow("b", what -> rakes.part(1, what), 6, -2, 0, 8, 3, -2, -10000, -10000);
        for (int no : new int[] {-1, 2, 8, Edges.LEAST, Edges.MOST}) {
            for (int what = 0; what < 6; what++) {
                Edges.due("part " + no + ", " + what, rakes.part(no, what), -10000);
            }
        }
        for (int no : new int[] {-1, 6, Edges.LEAST, Edges.MOST}) {
            Edges.due("what " + no, rakes.part(0, no), -10000);
        }
    }

    private static void workerAnswers() {
        Edges.sentence(7, "2 from which minute he is ready, 3 SPEED, 4 WORTH of all that he raked, each time. NONE for others.");
        TideRakes rakes = Edges.told("part a 3 1 7 2;part b 3 2 8 3;worker w 1 1 2;tide=if minute<3 then 0 else if minute<4 then 1 else 0;");
        Edges.dueRow("w", what -> rakes.worker(0, what), 1, 1, 0, 2, 0, -1, -1);
        Edges.due("a", rakes.send(0, 0), 3);
        Edges.due("a is COVERED in minute 3: again", rakes.send(0, 0), 6);
        Edges.dueRow("w by a, each time", what -> rakes.worker(0, what), 3, 1, 6, 2, 14, -1, -1);
        for (int no : new int[] {-1, 1, 3, Edges.LEAST, Edges.MOST}) {
            for (int what = 0; what < 5; what++) {
                Edges.due("worker " + no + ", " + what, rakes.worker(no, what), -1);
            }
            if (no != 1 && no != 3) {
                Edges.due("what " + no, rakes.worker(0, no), -1);
            }
        }
        Edges.due("what 5", rakes.worker(0, 5), -1);
    }

    private static void minuteAnswers() {
        Edges.sentence(8, "what 0 TIDE, 1 SUN; -10000: no such ones.");
        TideRakes rakes = Edges.told("tide=0-9999;sun=3;");
        Edges.dueRow("minute 0", what -> rakes.minute(0, what), -9999, 3, -10000, -10000);
        Edges.due("what -1", rakes.minute(0, -1), -10000);
        Edges.due("what at most", rakes.minute(0, Edges.MOST), -10000);
        Edges.due("what at least", rakes.minute(0, Edges.LEAST), -10000);
        Edges.due("neither", rakes.minute(600, 2), -10000);
    }

    // ---- the sand: promises 9, 10

    private static void covered() {
        Edges.sentence(9, "A PART is COVERED in a minute if TIDE tells as much as HIGH or more.");
        TideRakes rakes = Edges.told("part a 0 0 1 1;high=5;tide=minute;");
        Edges.due("less", rakes.free(0, 4), 5);
        Edges.due("as much", rakes.free(0, 5), 0);
        Edges.due("more", rakes.free(0, 6), 0);
        Edges.due("as much from the beginning", Edges.told("part a 0 0 1 1;").free(0, 599), 0);
        Edges.due("below 0", Edges.told("part a 0 0 1 1;tide=0-1;").free(0, 599), 600);
    }

    private static void free() {
        Edges.sentence(9, "that one the last, it is not COVERED (from minute 0 on at most; 0 if COVERED)");
        TideRakes rakes = Edges.told("part a 0 0 1 1;" + TWO_WAVES);
        Edges.dueRow("free in", minute -> rakes.free(0, minute), 1, 2, 3, 0, 1, 2, 0, 1, 2);
        Edges.due("up to the day's end", rakes.free(0, 599), 593);
        Edges.due("all day", Edges.told("part a 0 1 1 1;").free(0, 599), 600);
        Edges.due("in minute 0", Edges.told("part a 0 1 1 1;").free(0, 0), 1);
    }

    private static void freeOfNone() {
        Edges.sentence(9, "FREE for how many minutes in a minute; NONE: no such ones.");
        TideRakes rakes = Edges.told("part a 0 1 1 1;part b 0 1 1 1;");
        for (int minute : NO_MINUTES) {
            Edges.due("minute " + minute, rakes.free(0, minute), -1);
        }
        for (int part : new int[] {-1, 2, 8, Edges.LEAST, Edges.MOST}) {
            Edges.due("part " + part, rakes.free(part, 0), -1);
        }
        Edges.due("b", rakes.free(1, 599), 600);
    }

    private static void when() {
        Edges.sentence(10, "The first minute from one on (0 .. 599) from which a PART could be raked; -2: from none; NONE: no such ones.");
        TideRakes rakes = Edges.told("part a 0 0 1 2;" + TWO_WAVES);
        int[][] rows = {{0, 0}, {1, 1}, {2, 4}, {3, 4}, {4, 4}, {5, 7}, {7, 7}, {598, 598}, {599, -2}};
        for (int[] row : rows) {
            Edges.due("from " + row[0], rakes.when(0, row[0]), row[1]);
        }
        Edges.due("the last minute", Edges.told("part a 0 1 1 1;").when(0, 599), 599);
        Edges.due("always COVERED", Edges.told("part a 0 0 1 1;").when(0, 0), -2);
        for (int minute : NO_MINUTES) {
            Edges.due("minute " + minute, rakes.when(0, minute), -1);
        }
        for (int part : new int[] {-1, 1, 8, Edges.LEAST, Edges.MOST}) {
            Edges.due("part " + part, rakes.when(part, 0), -1);
        }
    }

    private static void whenItHolds() {
        Edges.sentence(10, "FREE for no fewer minutes than HOLDS' from and no more than its to.");
        TideRakes rakes = Edges.told("part a 0 0 1 2;holds 2 3;" + TWO_WAVES);
        // it HOLDS in 1, 2, in 5, in 8, 9
        int[][] rows = {{0, 1}, {1, 1}, {2, 8}, {8, 8}, {9, -2}};
        for (int[] row : rows) {
            Edges.due("from " + row[0], rakes.when(0, row[0]), row[1]);
        }
        dueHolding("holds 3 3;", 2, 2);
        dueHolding("holds 1 1;", 0, 0);
        dueHolding("holds 3 5;", 2, 4);
        dueHolding("holds 600 600;", 599, 599);
        dueHolding("holds 599 600;", 598, 599);
        dueHolding("holds 1 600;", 0, 599);
        Edges.due("from more than to", Edges.told("part a 0 1 1 1;holds 4 3;").when(0, 0), -2);
    }

    /** Of a PART that is FREE all day and takes a minute. */
    private static void dueHolding(String holds, int first, int last) {
        TideRakes rakes = Edges.told("part a 0 1 1 1;" + holds);
        Edges.due(holds + " first", rakes.when(0, 0), first);
        Edges.due(holds + " last", rakes.when(0, last), last);
        if (last < 599) {
            Edges.due(holds + " behind", rakes.when(0, last + 1), -2);
        }
    }

    // ---- sending: promise 11

    private static void ways() {
        Edges.sentence(11, "WAY from place to place: by x and by y together, by SPEED, rounded up, minutes.");
        // x, y, SPEED, minutes of the way from 0, 0
        int[][] rows = {{0, 0, 3, 0}, {1, 0, 3, 1}, {3, 0, 3, 1}, {0, 3, 3, 1}, {2, 2, 3, 2}, {3, 3, 3, 2}, {3, 4, 3, 3}, {99, 99, 1, 198},
            {99, 99, 20, 10}, {99, 1, 20, 5}, {99, 2, 20, 6}, {1, 0, 20, 1}};
        for (int[] row : rows) {
            TideRakes rakes = Edges.told("high=1;part a " + row[0] + " " + row[1] + " 1 1;worker w 0 0 " + row[2] + ";");
            Edges.due("to " + row[0] + " " + row[1] + " by " + row[2], rakes.send(0, 0), row[3] + 1);
            rakes = Edges.told("high=1;part a 0 0 1 1;worker w " + row[0] + " " + row[1] + " " + row[2] + ";");
            Edges.due("from " + row[0] + " " + row[1] + " by " + row[2], rakes.send(0, 0), row[3] + 1);
        }
        Edges.sentence(11, "SENT: a WORKER, from when he is ready, goes to a PART (from where he is)");
        TideRakes rakes = Edges.told("high=1;part a 9 9 1 1;part b 7 12 1 1;worker w 9 0 2;");
        Edges.due("first to a", rakes.send(0, 0), 6);
        Edges.due("from where he is, when he is ready: 3 minutes", rakes.send(0, 1), 10);
        Edges.dueRow("he is there, ready then", what -> rakes.worker(0, what), 7, 12, 10);
    }

    private static void comings() {
        Edges.sentence(11, "from the first minute t on, not ahead of his coming, such that it HOLDS in t, t + 1, .. as many minutes as it takes");
        // it HOLDS in 2, 3, 4
        String sand = "high=1;holds 3 5;worker w 0 0 1;";
        int[][] rows = {{0, 3, 5}, {2, 3, 5}, {3, 3, -2}, {3, 2, 5}, {4, 2, -2}, {4, 1, 5}, {5, 1, -2}, {0, 4, -2}, {0, 1, 3}, {1, 1, 3}, {2, 1, 3},
            {3, 1, 4}};
        for (int[] row : rows) {
            TideRakes rakes = Edges.told(sand + "part a " + row[0] + " 0 1 " + row[1] + ";");
            Edges.due("coming at " + row[0] + ", " + row[1] + " minutes", rakes.send(0, 0), row[2]);
            Edges.due("DONE", rakes.part(0, 1), row[2]);
        }
    }

    private static void inTheDay() {
        Edges.sentence(11, "as many minutes as it takes (all in the day), he rakes it; it is DONE from minute t + that many on");
        String text = "part a 0 1 9 60;worker w 0 1 1;holds ";
        TideRakes rakes = Edges.told(text + "541 600;");
        Edges.due("up to minute 599", rakes.send(0, 0), 600);
        Edges.due("ready at 600", rakes.worker(0, 2), 600);
        Edges.due("DONE from 600 on", rakes.part(0, 1), 600);
        Edges.due("not SEEN in the day", rakes.seen(599), 0);
        Edges.due("nothing more can be", rakes.send(0, 0), -2);
        Edges.due("a minute more", Edges.told(text + "542 600;").send(0, 0), -2);
        Edges.due("the last minute alone", Edges.told("part a 0 1 9 1;worker w 0 1 1;holds 600 600;").send(0, 0), 600);
    }

    private static void noSuchMinute() {
        Edges.sentence(11, "If there is no such t, nothing happens.");
        Edges.dueNothing("send", DayEdges::manyDone, rakes -> Edges.due("to what is always COVERED", rakes.send(1, 2), -2));
        Edges.dueNothing("send", DayEdges::manyDone, rakes -> Edges.due("by him who did it", rakes.send(0, 2), -2));
        Edges.dueNothing("send", () -> Edges.told("part a 9 1 1 1;worker w 0 1 1;holds 1 9;"),
            rakes -> Edges.due("too late", rakes.send(0, 0), -2));
    }

    /** A PART raked, crossed, mended, crossed, another raked; c is COVERED all day, s can't come to a in time to mend it. */
    private static TideRakes manyDone() {
        TideRakes rakes = Edges.told("part a 0 1 9 3;part b 5 1 7 4;part c 1 0 5 2;worker w 0 0 9;worker u 9 9 3;worker s 99 99 1;peg 4 4;");
        Edges.due("a", rakes.send(0, 0), 4);
        Edges.due("cross a", rakes.cross(0), true);
        Edges.due("mend a", rakes.mend(1, 0), 7);
        Edges.due("cross a again", rakes.cross(0), true);
        Edges.due("b", rakes.send(1, 1), 13);
        return rakes;
    }

    private static void notAgain() {
        Edges.sentence(11, "A PART that was DONE is not raked again (nothing happens)");
        Edges.dueNothing("send", DayEdges::manyDone, rakes -> Edges.due("b by him who raked it", rakes.send(1, 1), -2));
        Edges.dueNothing("send", DayEdges::manyDone, rakes -> Edges.due("b by another", rakes.send(0, 1), -2));
        Edges.dueNothing("send", DayEdges::manyDone, rakes -> Edges.due("a, CROSSED, by another", rakes.send(2, 0), -2));
        TideRakes rakes = manyDone();
        Edges.due("still CROSSED", rakes.send(2, 0) == -2 && rakes.part(0, 2) == 1, true);
    }

    /** COVERED in one minute alone. */
    private static String wave(int minute) {
        return "high=5;tide=if minute<" + minute + " then 0 else if minute<" + (minute + 1) + " then 5 else 0;";
    }

    private static void washed() {
        Edges.sentence(11, "if it was WASHED by the minute at which he comes: COVERED in that or one ahead of it, from the minute on in which it was DONE");
        // when it is COVERED, when he comes, DONE then; u has it DONE in minute 2
        int[][] rows = {{10, 9, -2}, {10, 10, 13}, {10, 11, 13}, {10, 20, 22}, {3, 2, -2}, {3, 3, 6}, {2, 1, -2}, {2, 2, 5}, {2, 3, 5}, {2, 0, -2},
            {599, 99, -2}};
        for (int[] row : rows) {
            TideRakes rakes = Edges.told(wave(row[0]) + "part a 0 0 9 2;worker u 0 0 1;worker v " + row[1] + " 0 1;");
            Edges.due("u", rakes.send(0, 0), 2);
            Edges.due("COVERED in " + row[0] + ", coming at " + row[1], rakes.send(1, 0), row[2]);
            Edges.due("by whom", rakes.part(0, 5), row[2] < 0 ? 0 : 1);
            Edges.due("DONE", rakes.part(0, 1), row[2] < 0 ? 2 : row[2]);
        }
        // COVERED in 0 .. 4 and 20: what was COVERED ahead of DONE does not count
        TideRakes rakes = Edges.told("high=5;tide=if minute<5 then 5 else if minute<20 then 0 else if minute<21 then 5 else 0;"
            + "part a 0 0 9 2;worker u 0 0 1;worker v 4 0 1;worker t 19 0 1;");
        Edges.due("u", rakes.send(0, 0), 7);
        Edges.due("coming in a minute in which it is COVERED", rakes.send(1, 0), -2);
        Edges.due("coming a minute ahead", rakes.send(2, 0), -2);
        // MENDED sand is washed all the same
        rakes = Edges.told(wave(10) + "part a 0 0 9 2;worker u 0 0 1;worker v 10 0 1;worker t 30 0 1;");
        rakes.send(0, 0);
        rakes.cross(0);
        Edges.due("MENDED behind the water", rakes.mend(2, 0), 31);
        Edges.due("raked again", rakes.send(1, 0), 13);
    }

    private static void againUncrossed() {
        Edges.sentence(11, "raked again it is not CROSSED any more");
        TideRakes rakes = Edges.told(wave(10) + "part a 0 0 9 2;worker u 0 0 1;worker v 10 0 1;");
        rakes.send(0, 0);
        rakes.cross(0);
        Edges.due("CROSSED", rakes.count(5), 1);
        Edges.due("again", rakes.send(1, 0), 13);
        Edges.due("not CROSSED", rakes.part(0, 2), 0);
        Edges.due("none is", rakes.count(5), 0);
        Edges.due("SEEN", rakes.seen(13), 1);
        Edges.due("nothing to mend", rakes.mend(0, 0), -2);
        Edges.due("it can be CROSSED again", rakes.cross(0), true);
        Edges.due("one DONE, not two", rakes.count(4), 1);
    }

    private static void sendOfNone() {
        Edges.sentence(11, "-2, and nothing happens: it can't be, or it was DONE and not WASHED; NONE: no such ones.");
        for (int no : new int[] {-1, 3, 8, Edges.LEAST, Edges.MOST}) {
            Edges.dueNothing("send", DayEdges::manyDone, rakes -> Edges.due("no such WORKER", rakes.send(no, 2), -1));
            Edges.dueNothing("send", DayEdges::manyDone, rakes -> Edges.due("no such PART", rakes.send(0, no), -1));
            Edges.dueNothing("send", DayEdges::manyDone, rakes -> Edges.due("neither", rakes.send(no, no), -1));
        }
    }

    // ---- promises 12 and 13

    private static void crossing() {
        Edges.sentence(12, "CROSSED: true; false, and nothing happens: it never was DONE, is CROSSED already, no such one.");
        Edges.dueNothing("cross", DayEdges::manyDone, rakes -> Edges.due("never DONE", rakes.cross(2), false));
        Edges.dueNothing("cross", DayEdges::manyDone, rakes -> Edges.due("CROSSED already", rakes.cross(0), false));
        TideRakes rakes = manyDone();
        Edges.due("b", rakes.cross(1), true);
        Edges.due("b again", rakes.cross(1), false);
        Edges.due("two of them", rakes.count(5), 2);
        rakes = Edges.told(wave(10) + "part a 0 0 9 2;worker u 0 0 1;");
        Edges.due("ahead of all", rakes.cross(0), false);
        rakes.send(0, 0);
        rakes.undo();
        Edges.due("what was undone never was DONE", rakes.cross(0), false);
        rakes.send(0, 0);
        Edges.due("what is WASHED was DONE", rakes.cross(0), true);
        rakes.mend(0, 0);
        Edges.due("what was MENDED", rakes.cross(0), true);
    }

    private static void crossOfNone() {
        Edges.sentence(12, "is CROSSED already, no such one.");
        for (int no : new int[] {-1, 3, 8, Edges.LEAST, Edges.MOST}) {
            Edges.dueNothing("cross", DayEdges::manyDone, rakes -> Edges.due("no such PART", rakes.cross(no), false));
        }
        Edges.due("without a text", new TideRakes().cross(0), false);
    }

    private static void mending() {
        Edges.sentence(13, "goes there and takes a third of its MINUTES (rounded up)");
        int[][] rows = {{1, 1}, {2, 1}, {3, 1}, {4, 2}, {5, 2}, {6, 2}, {7, 3}, {57, 19}, {58, 20}, {59, 20}, {60, 20}};
        for (int[] row : rows) {
            TideRakes rakes = Edges.told("part a 0 1 9 " + row[0] + ";worker u 0 1 1;worker v 0 6 2;");
            Edges.due("DONE", rakes.send(0, 0), row[0]);
            rakes.cross(0);
            Edges.due("a third of " + row[0], rakes.mend(0, 0), row[0] + row[1]);
            Edges.due("not yet MENDED", rakes.seen(row[0] + row[1] - 1), 0);
            Edges.due("MENDED from then on", rakes.seen(row[0] + row[1]), 1);
            rakes.cross(0);
            Edges.due("a way of 3 ahead", rakes.mend(1, 0), 3 + row[1]);
            Edges.dueRow("v is there, ready then", what -> rakes.worker(1, what), 0, 1, 3 + row[1], 2, 0);
        }
    }

    private static void mendingAnyhow() {
        Edges.sentence(13, "whether it HOLDS or not; he is there, ready then; it is MENDED from that minute on");
        TideRakes rakes = Edges.told("part a 0 1 9 2;worker u 0 1 1;holds 1 2;");
        rakes.send(0, 0);
        rakes.cross(0);
        Edges.due("it HOLDS no more", rakes.mend(0, 0), 3);
        Edges.due("SEEN", rakes.seen(3), 1);
        rakes = Edges.told(wave(2) + "part a 0 0 9 2;worker u 0 0 1;");
        rakes.send(0, 0);
        rakes.cross(0);
        Edges.due("COVERED, WASHED", rakes.mend(0, 0), 3);
        Edges.due("not CROSSED", rakes.part(0, 2), 0);
        Edges.due("WASHED all the same", rakes.seen(3), 0);
    }

    private static void beyondTheDay() {
        Edges.sentence(13, "(if that is beyond 600, nothing happens)");
        TideRakes rakes = lateMender(97);
        Edges.due("at 600", rakes.mend(0, 1), 600);
        Edges.due("ready at 600", rakes.worker(0, 2), 600);
        Edges.due("not CROSSED", rakes.part(1, 2), 0);
        Edges.due("but SEEN in no minute", rakes.seen(599), 1);
        Edges.dueNothing("mend", () -> lateMender(98), late -> Edges.due("at 601", late.mend(0, 1), -2));
        Edges.due("still CROSSED", lateMender(98).part(1, 2), 1);
    }

    /** w is ready at 401 and has 99 and y - 1 to go, by 1 a minute; the third takes 4. */
    private static TideRakes lateMender(int y) {
        TideRakes rakes = Edges.told("part a 0 1 1 1;part b 99 " + y + " 1 12;worker w 0 1 1;worker u 0 1 1;holds 401 600;");
        Edges.due("a", rakes.send(0, 0), 401);
        Edges.due("b", rakes.send(1, 1), 412);
        Edges.due("cross b", rakes.cross(1), true);
        return rakes;
    }

    private static void mendOfNone() {
        Edges.sentence(13, "-2, and nothing happens: it is not CROSSED, beyond 600; NONE: no such ones.");
        Edges.dueNothing("mend", DayEdges::manyDone, rakes -> Edges.due("DONE, not CROSSED", rakes.mend(0, 1), -2));
        Edges.dueNothing("mend", DayEdges::manyDone, rakes -> Edges.due("never DONE", rakes.mend(0, 2), -2));
        for (int no : new int[] {-1, 3, 8, Edges.LEAST, Edges.MOST}) {
            Edges.dueNothing("mend", DayEdges::manyDone, rakes -> Edges.due("no such WORKER", rakes.mend(no, 0), -1));
            Edges.dueNothing("mend", DayEdges::manyDone, rakes -> Edges.due("no such PART", rakes.mend(0, no), -1));
            Edges.dueNothing("mend", DayEdges::manyDone, rakes -> Edges.due("neither", rakes.mend(no, no), -1));
        }
        TideRakes rakes = manyDone();
        Edges.due("CROSSED", rakes.mend(2, 0) > 0, true);
        Edges.due("MENDED already", rakes.mend(1, 0), -2);
    }

    // ---- promise 14

    private static void undoing() {
        Edges.sentence(14, "The last thing done (send, cross, mend) is undone: true");
        TideRakes rakes = manyDone();
        Edges.due("send of b", rakes.undo(), true);
        Edges.due("b never DONE", rakes.part(1, 1), -2);
        Edges.due("b by none", rakes.part(1, 5), -2);
        Edges.dueRow("u where he mended", what -> rakes.worker(1, what), 0, 1, 7, 3, 0);
        Edges.due("cross of a", rakes.undo(), true);
        Edges.due("a is SEEN", rakes.seen(7), 1);
        Edges.due("from when it was MENDED", rakes.seen(6), 0);
        Edges.due("mend of a", rakes.undo(), true);
        Edges.due("a is CROSSED", rakes.part(0, 2), 1);
        Edges.dueRow("u at his place", what -> rakes.worker(1, what), 9, 9, 0, 3, 0);
        Edges.due("the first cross of a", rakes.undo(), true);
        Edges.due("a is SEEN as it was", rakes.seen(4), 1);
        Edges.due("send of a", rakes.undo(), true);
        Edges.dueRow("w at his place", what -> rakes.worker(0, what), 0, 0, 0, 9, 0);
        Edges.due("a never DONE", rakes.part(0, 1), -2);
        Edges.due("no acts", rakes.count(6), 0);
        // what was raked again is as it was raked first
        TideRakes again = Edges.told(wave(10) + "part a 0 0 9 2;worker u 0 0 1;worker v 10 0 1;");
        again.send(0, 0);
        again.cross(0);
        again.send(1, 0);
        Edges.due("the second raking", again.undo(), true);
        Edges.dueRow("a", what -> again.part(0, what), 5, 2, 1, 9, 2, 0);
        TideRakes both = Edges.told("part a 0 1 9 3;part b 0 2 7 3;worker w 0 1 1;");
        both.send(0, 0);
        both.send(0, 1);
        Edges.due("WORTH of both", both.worker(0, 4), 16);
        Edges.due("b", both.undo(), true);
        Edges.dueRow("w by a alone", what -> both.worker(0, what), 0, 1, 3, 1, 9);
        both.cross(0);
        both.mend(0, 0);
        Edges.due("the mending", both.undo(), true);
        Edges.dueRow("w by a still", what -> both.worker(0, what), 0, 1, 3, 1, 9);
        both.mend(0, 0);
        both.cross(0);
        Edges.due("MENDED again", both.mend(0, 0), 5);
        both.undo();
        both.undo();
        Edges.due("MENDED from 4 on", both.seen(4) == 1 && both.seen(3) == 0, true);
    }

    private static void undoOfNone() {
        Edges.sentence(14, "false: there is none (the last 40 can be)");
        Edges.due("a new object", new TideRakes().undo(), false);
        TideRakes rakes = Edges.told("part a 0 1 1 1;worker w 0 1 1;");
        Edges.due("a new text", rakes.undo(), false);
        rakes.send(0, 0);
        Edges.due("one", rakes.undo(), true);
        Edges.due("no more", rakes.undo(), false);
        rakes.send(0, 9);
        rakes.mend(0, 0);
        rakes.cross(0);
        Edges.due("nothing was done", rakes.undo(), false);
    }

    private static void lastForty() {
        Edges.sentence(14, "(the last 40 can be)");
        for (int acts : new int[] {38, 39, 40, 41, 42, 43, 80, 81, 82, 83, 121, 122, 123, 200}) {
            TideRakes rakes = manyActs(acts);
            Edges.due("acts", rakes.count(6), acts);
            Edges.due("that can be undone", rakes.count(8), Math.min(acts, 40));
            // what can't be done takes no one's place
            Edges.due("refused", rakes.send(0, 0), -2);
            Edges.due("refused", acts % 2 == 0 ? !rakes.cross(0) : rakes.mend(0, 0) == -2, true);
            for (int i = 1; i <= Math.min(acts, 40); i++) {
                Edges.due("undo " + i + " of " + acts, rakes.undo(), true);
                dueActs(rakes, acts - i);
            }
            Edges.due("undo of one more", rakes.undo(), false);
            dueActs(rakes, Math.max(0, acts - 40));
        }
        // undone and done anew, over and over
        TideRakes rakes = manyActs(1);
        for (int i = 0; i < 100; i++) {
            Edges.due("undo " + i, rakes.undo(), true);
            Edges.due("no more", rakes.undo(), false);
            Edges.due("done anew", rakes.send(0, 0), 1);
        }
        dueActs(rakes, 1);
    }

    /** A send, then crossings and mendings in turn, a minute each. */
    private static TideRakes manyActs(int acts) {
        TideRakes rakes = Edges.told("part a 0 1 1 1;worker w 0 1 1;");
        Edges.due("send", rakes.send(0, 0), 1);
        for (int i = 1; i < acts; i++) {
            Edges.due("act " + i, i % 2 == 1 ? rakes.cross(0) : rakes.mend(0, 0) == 1 + i / 2, true);
        }
        return rakes;
    }

    private static void dueActs(TideRakes rakes, int acts) {
        Edges.due("acts left", rakes.count(6), acts);
        Edges.due("a DONE", rakes.part(0, 1), acts > 0 ? 1 : -2);
        Edges.due("a CROSSED", rakes.part(0, 2), acts > 0 && acts % 2 == 0 ? 1 : 0);
        Edges.due("a by whom", rakes.part(0, 5), acts > 0 ? 0 : -2);
        Edges.due("w ready", rakes.worker(0, 2), acts > 0 ? 1 + (acts - 1) / 2 : 0);
        Edges.due("w's WORTH", rakes.worker(0, 4), acts > 0 ? 1 : 0);
    }

    // ---- promises 15 to 18

    private static void seenFrom() {
        Edges.sentence(15, "SEEN in a minute: a PART that is DONE by then (MENDED by then, if it was)");
        TideRakes rakes = Edges.told("part a 0 1 1 5;part b 0 1 1 5;worker u 0 1 1;worker v 0 1 1;");
        rakes.send(0, 0);
        Edges.due("ahead of DONE", rakes.seen(4), 0);
        Edges.due("DONE", rakes.seen(5), 1);
        Edges.due("the last minute", rakes.seen(599), 1);
        rakes.cross(0);
        Edges.due("MENDED ahead of DONE", rakes.mend(1, 0), 2);
        Edges.due("not DONE", rakes.seen(4), 0);
        Edges.due("DONE and MENDED", rakes.seen(5), 1);
        rakes.cross(0);
        Edges.due("MENDED behind DONE", rakes.mend(0, 0), 7);
        Edges.due("not MENDED", rakes.seen(6), 0);
        Edges.due("MENDED and DONE", rakes.seen(7), 1);
    }

    private static void seenTill() {
        Edges.sentence(15, "not WASHED by then (that minute, too)");
        TideRakes rakes = Edges.told(wave(10) + "part a 0 0 9 2;worker u 0 0 1;");
        rakes.send(0, 0);
        Edges.due("a minute ahead", rakes.seen(9), 1);
        Edges.due("COVERED", rakes.seen(10), 0);
        Edges.due("from then on", rakes.seen(11), 0);
        Edges.due("up to the day's end", rakes.seen(599), 0);
        rakes = Edges.told(wave(2) + "part a 0 0 9 2;worker u 0 0 1;");
        rakes.send(0, 0);
        Edges.due("COVERED in the minute from which it is DONE", rakes.seen(2), 0);
        Edges.due("never SEEN", rakes.seen(3), 0);
        rakes = Edges.told(wave(1) + "part a 0 0 9 2;worker u 0 0 1;");
        Edges.due("raked behind the water", rakes.send(0, 0), 4);
        Edges.due("COVERED ahead of DONE", rakes.seen(4), 1);
    }

    private static void seenUncrossed() {
        Edges.sentence(15, "not CROSSED (in no minute, till MENDED)");
        TideRakes rakes = Edges.told("part a 0 1 1 5;part b 1 1 1 5;worker u 0 1 1;");
        rakes.send(0, 0);
        rakes.send(0, 1);
        rakes.cross(0);
        for (int minute : new int[] {0, 5, 11, 599}) {
            Edges.due("in " + minute, rakes.seen(minute), minute < 11 ? 0 : 2);
        }
        Edges.due("MENDED", rakes.mend(0, 0), 14);
        Edges.due("a minute ahead", rakes.seen(13), 2);
        Edges.due("from then on", rakes.seen(14), 3);
    }

    private static void seenOfNone() {
        Edges.sentence(15, "PARTS that are SEEN in a minute (bits); NONE: no such minute.");
        TideRakes rakes = allRaked();
        Edges.due("all eight", rakes.seen(8), 255);
        Edges.due("but the last", rakes.seen(7), 127);
        Edges.due("the first", rakes.seen(1), 1);
        Edges.due("none", rakes.seen(0), 0);
        for (int minute : NO_MINUTES) {
            Edges.due("seen in " + minute, rakes.seen(minute), -1);
        }
    }

    /** Eight PARTS of the greatest WORTH, each DONE a minute behind the one ahead. */
    private static TideRakes allRaked() {
        StringBuilder text = new StringBuilder("worker w 1 1 1;");
        for (char c = 'a'; c <= 'h'; c++) {
            text.append("part p").append(c).append(" 1 1 99 1;");
        }
        TideRakes rakes = Edges.told(text.toString());
        for (int part = 0; part < 8; part++) {
            Edges.due("send", rakes.send(0, part), part + 1);
        }
        return rakes;
    }

    private static void photographs() {
        Edges.sentence(16, "What a PHOTOGRAPH is worth in a minute; NONE: no such minute.");
        TideRakes rakes = allRaked();
        Edges.due("the most", rakes.photo(8), 8 * 99 * 100);
        Edges.due("the first PART alone", rakes.photo(1), 9900);
        Edges.due("nothing", rakes.photo(0), 0);
        for (int minute : NO_MINUTES) {
            Edges.due("photo in " + minute, rakes.photo(minute), -1);
        }
        Edges.sentence(16, "A PHOTOGRAPH in a minute: WORTH of all SEEN, together, times SUN.");
        rakes = Edges.told("part a 0 1 7 1;worker w 0 1 1;sun=if minute<5 then 0 else if minute<6 then 1 else 300;");
        rakes.send(0, 0);
        Edges.due("without SUN", rakes.photo(4), 0);
        Edges.due("least SUN", rakes.photo(5), 7);
        Edges.due("SUN held to 100", rakes.photo(6), 700);
    }

    private static void bestMinute() {
        Edges.sentence(17, "in which a PHOTOGRAPH is worth most; of alike ones the first");
        Edges.due("nothing told", new TideRakes().bestMinute(), 0);
        String text = "part a 0 1 7 3;worker w 0 1 1;";
        TideRakes rakes = Edges.told(text);
        Edges.due("nothing DONE: all alike", rakes.bestMinute(), 0);
        rakes.send(0, 0);
        Edges.due("the first of alike ones", rakes.bestMinute(), 3);
        rakes = Edges.told(text + "sun=if minute<599 then 1 else 2;");
        rakes.send(0, 0);
        Edges.due("the last minute", rakes.bestMinute(), 599);
        rakes = Edges.told(text + "sun=0;");
        rakes.send(0, 0);
        Edges.due("without SUN: all alike", rakes.bestMinute(), 0);
        rakes = Edges.told(text + "sun=if minute<9 then 4 else if minute<10 then 5 else if minute<50 then 4 else 5;");
        rakes.send(0, 0);
        Edges.due("two as good", rakes.bestMinute(), 9);
        rakes = Edges.told("part a 0 1 0 3;worker w 0 1 1;");
        rakes.send(0, 0);
        Edges.due("worth nothing", rakes.bestMinute(), 0);
        rakes = Edges.told("part a 0 1 1 3;worker w 0 1 1;sun=1;");
        rakes.send(0, 0);
        Edges.due("worth 1", rakes.bestMinute(), 3);
    }

    private static void staying() {
        Edges.sentence(18, "STAYS of a PART from a minute (0 .. 599): how many minutes it is FREE one after the other, that one the first.");
        TideRakes rakes = Edges.told("part a 0 0 1 1;" + TWO_WAVES);
        Edges.dueRow("stays from", minute -> rakes.stays(0, minute), 3, 2, 1, 0, 2, 1, 0, 593, 592);
        Edges.due("the last minute", rakes.stays(0, 599), 1);
        Edges.due("all day", Edges.told("part a 0 1 1 1;").stays(0, 0), 600);
        Edges.due("COVERED all day", Edges.told("part a 0 0 1 1;").stays(0, 0), 0);
        Edges.due("COVERED in the last minute", Edges.told("part a 0 0 1 1;" + wave(599)).stays(0, 598), 1);
        Edges.due("in it", Edges.told("part a 0 0 1 1;" + wave(599)).stays(0, 599), 0);
    }

    private static void staysOfNone() {
        Edges.sentence(18, "STAYS; NONE: no such ones.");
        TideRakes rakes = Edges.told("part a 0 1 1 1;");
        for (int minute : NO_MINUTES) {
            Edges.due("minute " + minute, rakes.stays(0, minute), -1);
        }
        for (int part : new int[] {-1, 1, 8, Edges.LEAST, Edges.MOST}) {
            Edges.due("part " + part, rakes.stays(part, 0), -1);
        }
    }
}
