/** Answers worked out by hand from the document, promise by promise. */
public final class PromisesTest {
    /**
     * HIGH: a and b 10, c 19. COVERED: a and b in 0 .. 9 and 40 .. 49, c never. It HOLDS: a and b in 11 .. 34 and
     * 51 .. 74, c in 1 .. 24. WAYS of u: a 0, b 2, c 3, of v: a 6, b 3, c 5, of t: a 40, b 34, c 49.
     */
    private static final String BEACH = "part a 0 0 10 3; part b 6 0 20 4; part c 0 9 5 2;"
        + "worker u 0 0 3; worker v 6 6 2; worker t 40 0 1; high = 10 + y;"
        + "tide = if minute < 10 then 10 else if minute < 40 then 0 else if minute < 50 then 15 else 5;"
        + "sun = minute; holds 2 25; seed 3; peg 3 0; slip = far * far; dog = x;";
    private static final int LEAST = Integer.MIN_VALUE;
    private static final int MOST = Integer.MAX_VALUE;

    private PromisesTest() {
    }

    public static void main(String[] args) {
        newObject();
        tape();
        faults();
        roomFaults();
        milderFaults();
        textInPlace();
        lawsOfTexts();
        partsAndWorkers();
        minutesAndSand();
        sending();
        washedAndRakedAgain();
        crossingAndMending();
        undoing();
        undoingAfterRefusals();
        photographs();
        plans();
        sharedPlans();
        spareAndQuickest();
        mendsAndAfter();
        windows();
        sizes();
        dogs();
        errors();
        errorsThatGrow();
        tellings();
        lateOnes();
        slots();
        counts();
        wrongOnes();
        Bench.end();
    }

    private static void due(String what, int got, int want) {
        Bench.due(what, got, want);
    }

    private static void due(String what, boolean got, boolean want) {
        Bench.due(what, got, want);
    }

    private static void dueFault(String text, int number, int place) {
        TideRakes rakes = new TideRakes();
        due("read of [" + text + "]", Bench.read(rakes, text), number);
        due("place in [" + text + "]", rakes.place(), place);
        due("tape behind [" + text + "]", rakes.count(7), 0);
    }

    private static TideRakes beach() {
        return Bench.told(BEACH);
    }

    // ---- promise 1

    private static void newObject() {
        TideRakes rakes = new TideRakes();
        int[] counts = {0, 0, 1, 600, 0, 0, 0, 0, 0, 0, 0};
        for (int what = 0; what < counts.length; what++) {
            due("count of a new one " + what, rakes.count(what), counts[what]);
        }
        due("place of a new one", rakes.place(), TideRakes.NONE);
        due("tide of a new one", rakes.minute(300, 0), 0);
        due("sun of a new one", rakes.minute(300, 1), 100);
        due("hands of a new one", rakes.hands(0, 1), 0);
        due("large of a new one", rakes.large(0), 16);
        due("late of a new one", rakes.late(0, -1), 0);
        due("fails of a new one", rakes.fails(0), 0);
    }

    // ---- promises 2 to 5

    private static void tape() {
        TideRakes rakes = new TideRakes();
        for (int i = 1; i <= 100; i++) {
            due("feed " + i, rakes.feed(0x20202020, 0x20202020, 0x20202020, 0x20202020, 0x20202020), 20 * i);
        }
        due("feed beyond 2000", rakes.feed(0, 0, 0, 0, 0), -1);
        due("full tape", rakes.count(7), 2000);
        due("back 1", rakes.back(1), 1999);
        due("feed 20 to 1999", rakes.feed(0, 0, 0, 0, 0), -1);
        due("back 19", rakes.back(19), 1980);
        due("feed 20 to 1980", rakes.feed(0x20202020, 0x20202020, 0x20202020, 0x20202020, 0x20202020), 2000);
        due("read blanks", rakes.read(), 0);
        due("back on an empty tape", rakes.back(1), -1);
        due("back 0", rakes.back(0), 0);
        due("back below 0", rakes.back(-1), -1);
        due("back far below 0", rakes.back(LEAST), -1);
        due("back too far", rakes.back(MOST), -1);
        // "seed 1 ;peg 2 3 ;   ": the highest byte of a comes first
        due("bytes", rakes.feed(0x73656564, 0x2031203b, 0x70656720, 0x32203320, 0x3b202020), 20);
        due("read bytes", rakes.read(), 0);
    }

    private static void faults() {
        dueFault("", 0, -1);
        dueFault(" \t\r\n ", 0, -1);
        dueFault("\u000b", 1, 0);
        dueFault("part", 1, 4);
        dueFault("part a 1 1 1 1  ", 1, 16);
        dueFault("part a 1 1 1 1;x", 1, 15);
        dueFault("part a1 1 1 1;", 0, -1);
        dueFault("parta 1 1 1 1;", 1, 0);
        dueFault("part abcdefgh 1 1 1 1;", 0, -1);
        dueFault("part abcdefghi 1 1 1 1;", 1, 5);
        dueFault("part partpart 1 1 1 1;", 0, -1);
        dueFault("part far 1 1 1 1;", 1, 5);
        dueFault("part x 1 1 1 1;", 1, 5);
        dueFault("part A 1 1 1 1;", 1, 5);
        dueFault("part a 1 1 1 -1;", 1, 13);
        dueFault("part a 1 1 1 1 1;", 1, 15);
        dueFault("worker a 1 1 1;", 0, -1);
        dueFault("worker a 1 1 1 1;", 1, 15);
        dueFault("seed 00001;", 1, 5);
        dueFault("seed 0001;", 0, -1);
        dueFault("seed 1", 1, 6);
        dueFault("seed 1;;", 1, 7);
        dueFault("high 1;", 1, 5);
        dueFault("high = ;", 1, 7);
        dueFault("high = 1 +;", 1, 10);
        dueFault("high = - 1;", 1, 7);
        dueFault("high = (1;", 1, 9);
        dueFault("high = 1);", 1, 8);
        dueFault("high = if 1 < 2 then 3;", 1, 22);
        dueFault("high = if 1 then 3 else 4;", 1, 12);
        dueFault("high = 1 if 1 < 2 then 3 else 4;", 1, 9);
        dueFault("high = (if 1 < 2 then 3 else 4);", 1, 8);
        dueFault("high = if 1 < 2 then if 1 < 2 then 3 else 4 else 5;", 1, 21);
        dueFault("high = a;", 1, 7);
        dueFault("high = minute;tide=far*off/x-y+minute;", 0, -1);
        dueFault("high=1;\u00ff", 1, 7);
    }

    private static void roomFaults() {
        String ifs = "if 1 < 2 then 3 else ";
        dueFault("sun = " + ifs.repeat(4) + "5;", 0, -1);
        dueFault("sun = " + ifs.repeat(5) + "5;", 2, 6 + 4 * ifs.length());
        dueFault("sun = ((((((1))))));", 0, -1);
        dueFault("sun = (((((((1)))))));", 2, 12);
        dueFault("sun = ((((((1)))))) + ((((((1))))));", 0, -1);
        String parts = "";
        for (char c = 'a'; c <= 'h'; c++) {
            parts += "part p" + c + " 1 1 1 1;";
        }
        dueFault(parts, 0, -1);
        dueFault(parts + "part", 2, parts.length());
        String workers = "worker wa 1 1 1;worker wb 1 1 1;worker wc 1 1 1;";
        dueFault(workers + parts, 0, -1);
        dueFault(workers + "worker wd 1 1 1;", 2, workers.length());
        dueFault("sun=" + "1+".repeat(197) + "1;seed", 1, 4 + 394 + 6);
        // 394 TOKENS: six more are too few for three seeds
        String full = "sun=1" + "+1".repeat(195) + ";";
        dueFault(full + "peg", 1, full.length() + 3);
        dueFault(full + "seed 1;", 0, -1);
        dueFault(full + "seed 1;seed", 1, full.length() + 11);
        dueFault(full + "seed 1;seed 1;", 0, -1);
        dueFault(full + "seed 1;seed 1;seed 1;", 2, full.length() + 14);
        dueFault(full + "seed 1;seed 1;12345", 1, full.length() + 14);
        dueFault(full + "seed 1;seed 1;+", 1, full.length() + 14);
    }

    private static void milderFaults() {
        dueFault("part a 1 1 1 1;part a 1 1 1 1;", 3, 20);
        dueFault("part a 1 1 1 1;worker a 1 1 1;", 3, 22);
        dueFault("part a 1 1 1 0;part a 1 1 1 1;", 5, 13);
        dueFault("part a 1 1 1 1;part a 100 1 1 1;", 3, 20);
        dueFault("part a 1 1 1 0;part a 1 1 1 1", 1, 29);
        dueFault("part a 0 0 0 1;part b 99 99 99 60;", 0, -1);
        dueFault("part a 100 0 0 1;", 5, 7);
        dueFault("part a 0 100 0 1;", 5, 9);
        dueFault("part a 0 0 100 1;", 5, 11);
        dueFault("part a 0 0 0 0;", 5, 13);
        dueFault("part a 0 0 0 61;", 5, 13);
        dueFault("worker a 99 99 20;", 0, -1);
        dueFault("worker a 100 0 1;", 5, 9);
        dueFault("worker a 0 100 1;", 5, 11);
        dueFault("worker a 0 0 0;", 5, 13);
        dueFault("worker a 0 0 21;", 5, 13);
        dueFault("holds 600 1;holds 1 600;", 0, -1);
        dueFault("holds 0 1;", 5, 6);
        dueFault("holds 601 1;", 5, 6);
        dueFault("holds 1 0;", 5, 8);
        dueFault("holds 1 601;", 5, 8);
        dueFault("peg 99 99;", 0, -1);
        dueFault("peg 100 0;", 5, 4);
        dueFault("peg 0 100;", 5, 6);
        dueFault("seed 9999;", 0, -1);
    }

    private static void textInPlace() {
        TideRakes rakes = beach();
        rakes.send(0, 0);
        rakes.hold(1);
        rakes.tell(0, 1, true);
        due("faulty read", Bench.read(rakes, "seed"), 1);
        due("place of it", rakes.place(), 4);
        int[] kept = {3, 3, 2, 25, 1, 0, 1, 0, 1, 1, 1};
        int[] fresh = {1, 0, 1, 600, 0, 0, 0, 0, 0, 0, 0};
        for (int what = 0; what < kept.length; what++) {
            due("count kept " + what, rakes.count(what), kept[what]);
        }
        due("read", Bench.read(rakes, "part q 1 1 1 1;"), 0);
        due("place after it", rakes.place(), -1);
        for (int what = 0; what < fresh.length; what++) {
            due("count of the new text " + what, rakes.count(what), fresh[what]);
        }
        due("part of the new text", rakes.part(0, 1), -2);
        due("law of the new text", rakes.part(0, 0), 1);
        due("restore after a text", rakes.restore(1), false);
    }

    private static void lawsOfTexts() {
        TideRakes rakes = Bench.told("part a 3 7 1 1;high=x*1000+y;tide=minute*minute*minute*9999*9999;sun=0-minute;");
        due("high", rakes.part(0, 0), 3007);
        due("tide that wraps", rakes.minute(5, 0), Math.max(-9999, Math.min(9999, 125 * 9999 * 9999)));
        due("sun held", rakes.minute(5, 1), 0);
        rakes = Bench.told("tide=(0-7)/2;sun=if minute<5 then 1/0 else if 5/(minute-9)<1 then 20 else 30/(minute-8);"
            + "part a 1 2 3 4;high=minute+far+off+1;dog=x+y+minute+far+off;");
        due("rounded towards 0", rakes.minute(0, 0), -3);
        due("divided by 0 in a then", rakes.minute(4, 1), 0);
        due("a then without it", rakes.minute(5, 1), 20);
        due("divided by 0 in an if", rakes.minute(9, 1), 0);
        due("the last one", rakes.minute(10, 1), 15);
        due("divided by 0 that is not looked at", rakes.minute(8, 1), 20);
        due("what is no variable of high", rakes.part(0, 0), 1);
        due("variables of dog", rakes.dog(0, 50), 53);
        rakes = Bench.told("tide=9999+1;tide=0-9999-1;sun=101;part a 0 0 0 1;high=9999*2;dog=minute+x*y;");
        due("the last tide", rakes.minute(0, 0), -9999);
        due("sun of more", rakes.minute(0, 1), 100);
        due("high of more", rakes.part(0, 0), 9999);
        due("dog of more", rakes.dog(0, 101), 100);
        rakes = Bench.told("tide=2-3-4*5/3+12/(2*3);");
        due("from the left", rakes.minute(0, 0), -5);
    }

    // ---- promises 6 to 10 and 18

    private static void partsAndWorkers() {
        TideRakes rakes = beach();
        int[] part = {19, -2, 0, 5, 2, -2, -10000};
        for (int what = 0; what < part.length; what++) {
            due("part " + what, rakes.part(2, what), part[what]);
        }
        int[] worker = {6, 6, 0, 2, 0, -1};
        for (int what = 0; what < worker.length; what++) {
            due("worker " + what, rakes.worker(1, what), worker[what]);
        }
    }

    private static void minutesAndSand() {
        TideRakes rakes = beach();
        due("tide", rakes.minute(9, 0), 10);
        due("tide later", rakes.minute(599, 0), 5);
        due("sun", rakes.minute(99, 1), 99);
        due("sun held to 100", rakes.minute(101, 1), 100);
        int[][] free = {{0, 9, 0}, {0, 10, 1}, {0, 39, 30}, {0, 40, 0}, {0, 50, 1}, {0, 599, 550}, {2, 0, 1}, {2, 599, 600}};
        for (int[] row : free) {
            due("free", rakes.free(row[0], row[1]), row[2]);
        }
        int[][] when = {{0, 0, 11}, {0, 11, 11}, {0, 32, 32}, {0, 33, 51}, {0, 72, 72}, {0, 73, -2}, {2, 0, 1}, {2, 23, 23},
            {2, 24, -2}, {1, 31, 31}, {1, 32, 51}};
        for (int[] row : when) {
            due("when " + row[0] + " from " + row[1], rakes.when(row[0], row[1]), row[2]);
        }
        int[][] stays = {{0, 9, 0}, {0, 10, 30}, {0, 39, 1}, {0, 40, 0}, {0, 50, 550}, {2, 5, 595}, {2, 599, 1}};
        for (int[] row : stays) {
            due("stays", rakes.stays(row[0], row[1]), row[2]);
        }
        TideRakes dayLong = Bench.told("part a 0 1 1 60;");
        due("up to the day's end", dayLong.when(0, 540), 540);
        due("beyond the day's end", dayLong.when(0, 541), -2);
    }

    // ---- promises 11 to 14

    private static void sending() {
        TideRakes rakes = beach();
        due("send u a", rakes.send(0, 0), 14);
        due("a done", rakes.part(0, 1), 14);
        due("a by whom", rakes.part(0, 5), 0);
        due("u ready", rakes.worker(0, 2), 14);
        due("u worth", rakes.worker(0, 4), 10);
        due("a again", rakes.send(1, 0), -2);
        due("send u b", rakes.send(0, 1), 20);
        due("u at b", rakes.worker(0, 0), 6);
        due("u comes too late for c", rakes.send(0, 2), -2);
        due("u as he was", rakes.worker(0, 2), 20);
        due("send v c", rakes.send(1, 2), 7);
        due("v at c by y", rakes.worker(1, 1), 9);
        TideRakes end = Bench.told("part a 0 1 1 60; worker w 0 1 1; holds 541 600;");
        due("done at the day's end", end.send(0, 0), 600);
        due("never seen", end.seen(599), 0);
        due("done by 600", end.count(4), 1);
    }

    private static void washedAndRakedAgain() {
        TideRakes rakes = beach();
        due("send u a", rakes.send(0, 0), 14);
        due("cross a", rakes.cross(0), true);
        due("t comes when it is washed", rakes.send(2, 0), 54);
        due("a by t", rakes.part(0, 5), 2);
        due("a not crossed any more", rakes.part(0, 2), 0);
        due("a seen", rakes.seen(54), 1);
        due("a not seen ahead", rakes.seen(53), 0);
        due("u keeps the worth", rakes.worker(0, 4), 10);
        due("t has it too", rakes.worker(2, 4), 10);
        // v comes at 62 and mends a for a minute; t rakes it again ahead of that: what was MENDED is no more
        rakes = Bench.told(BEACH.replace("worker v 6 6 2", "worker v 62 0 1"));
        due("send u a", rakes.send(0, 0), 14);
        due("cross a", rakes.cross(0), true);
        due("v mends a", rakes.mend(1, 0), 63);
        due("t rakes a", rakes.send(2, 0), 54);
        due("a seen ahead of the mending", rakes.seen(54), 1);
        rakes = Bench.told(BEACH.replace("worker t 40 0 1", "worker t 39 0 1"));
        due("send u a", rakes.send(0, 0), 14);
        due("t comes a minute ahead", rakes.send(2, 0), -2);
        rakes = Bench.told(BEACH + "tide = if minute < 14 then 0 else if minute < 15 then 10 else 0;");
        due("send u a", rakes.send(0, 0), 4);
        due("washed in the first minute that counts", rakes.seen(14), 0);
        due("seen ahead of it", rakes.seen(13), 1);
    }

    private static void crossingAndMending() {
        TideRakes rakes = beach();
        due("cross what was not done", rakes.cross(0), false);
        due("send u b", rakes.send(0, 1), 15);
        due("mend what is not crossed", rakes.mend(0, 1), -2);
        due("cross b", rakes.cross(1), true);
        due("b crossed", rakes.part(1, 2), 1);
        due("cross b twice", rakes.cross(1), false);
        due("crossed is not seen", rakes.seen(15), 0);
        due("crossed is not raked again", rakes.send(1, 1), -2);
        due("v mends b", rakes.mend(1, 1), 5);
        due("mended, but not yet done", rakes.seen(14), 0);
        due("mended and done", rakes.seen(15), 2);
        due("v ready", rakes.worker(1, 2), 5);
        due("v has no worth of it", rakes.worker(1, 4), 0);
        due("v at b", rakes.worker(1, 1), 0);
        due("cross b again", rakes.cross(1), true);
        due("u mends b", rakes.mend(0, 1), 17);
        due("not yet mended", rakes.seen(16), 0);
        due("mended", rakes.seen(17), 2);
        due("by whom it was raked", rakes.part(1, 5), 0);
        TideRakes slow = Bench.told("part a 0 1 1 4; part b 99 99 1 1; worker w 0 1 1; worker u 0 1 1; holds 401 600;");
        due("send w a", slow.send(0, 0), 404);
        due("send w b", slow.send(0, 1), -2);
        due("send u b", slow.send(1, 1), 401);
        due("cross b", slow.cross(1), true);
        due("mended at 602", slow.mend(0, 1), -2);
        due("w as he was", slow.worker(0, 2), 404);
        slow = Bench.told("part a 0 1 1 1; part b 99 97 1 12; worker w 0 1 1; worker u 0 1 1; holds 401 600;");
        due("send w a", slow.send(0, 0), 401);
        due("send u b", slow.send(1, 1), 412);
        due("cross b", slow.cross(1), true);
        due("mended at 600", slow.mend(0, 1), 600);
        due("b is not seen in the day", slow.seen(599), 1);
    }

    private static void undoing() {
        TideRakes rakes = beach();
        due("nothing to undo", rakes.undo(), false);
        rakes.send(0, 1);
        rakes.send(0, 1);
        rakes.cross(1);
        rakes.mend(0, 1);
        due("three acts", rakes.count(6), 3);
        due("three to undo", rakes.count(8), 3);
        due("undo mend", rakes.undo(), true);
        due("crossed again", rakes.part(1, 2), 1);
        due("u ready", rakes.worker(0, 2), 15);
        due("undo cross", rakes.undo(), true);
        due("not crossed", rakes.part(1, 2), 0);
        due("seen", rakes.seen(15), 2);
        due("undo send", rakes.undo(), true);
        due("not done", rakes.part(1, 1), -2);
        due("by none", rakes.part(1, 5), -2);
        due("u at his place", rakes.worker(0, 0), 0);
        due("u without worth", rakes.worker(0, 4), 0);
        due("no acts", rakes.count(6), 0);
        due("no more", rakes.undo(), false);
        rakes.send(0, 0);
        for (int i = 0; i < 25; i++) {
            due("cross " + i, rakes.cross(0), true);
            due("mend " + i, rakes.mend(0, 0), 15 + i);
        }
        due("51 acts", rakes.count(6), 51);
        due("40 to undo", rakes.count(8), 40);
        for (int i = 0; i < 40; i++) {
            due("undo " + i, rakes.undo(), true);
        }
        due("the 41st", rakes.undo(), false);
        due("11 acts", rakes.count(6), 11);
        due("five mendings are left", rakes.worker(0, 2), 19);
    }

    /** Each act that can't be done, asked for while 40 things can be undone, must leave what undo brings back. */
    private static void undoingAfterRefusals() {
        TideRakes rakes = fortyDone();
        due("send of what is done", rakes.send(0, 0), -2);
        allUndone("send of the same part and worker", rakes);
        rakes = fortyDone();
        due("send of another worker", rakes.send(1, 0), -2);
        allUndone("send of another worker", rakes);
        rakes = fortyDone();
        due("send to what is always covered", rakes.send(1, 1), -2);
        allUndone("send of another part and worker", rakes);
        rakes = fortyDone();
        due("cross of what is crossed", rakes.cross(0), false);
        allUndone("cross of the same part", rakes);
        rakes = fortyDone();
        due("cross of what never was done", rakes.cross(1), false);
        allUndone("cross of another part", rakes);
        rakes = fortyDone();
        due("mend of what is not crossed", rakes.mend(0, 1), -2);
        due("mend by another worker", rakes.mend(1, 2), -2);
        allUndone("mend of other parts", rakes);
        rakes = fortyDone();
        due("mend beyond 600", rakes.mend(2, 0), -2);
        allUndone("mend of the same part", rakes);
        rakes = fortyDone();
        due("no such ones", rakes.send(3, 0) + rakes.send(0, 3) + rakes.mend(-1, 0) + rakes.mend(0, -1), -4);
        due("no such part to cross", rakes.cross(3), false);
        allUndone("acts of no such ones", rakes);
        undoingTheLastFortyOfMore();
    }

    /** Behind s, whom c keeps too long to mend a: a send and 39 crossings and mendings in turn; b is COVERED all day. */
    private static TideRakes fortyDone() {
        String text = "part a 0 9 9 1; part b 5 0 7 1; part c 99 9 5 2; worker w 0 0 9; worker u 9 9 3; worker s 99 9 1; ";
        String laws = "high = if x < 5 then 9 else if x < 6 then 0 else 2; tide = if minute < 560 then 3 else 1;";
        TideRakes rakes = Bench.told(text + laws);
        due("s is at c till late", rakes.send(2, 2), 562);
        due("a is done", rakes.send(0, 0), 2);
        for (int i = 0; i < 19; i++) {
            due("cross " + i, rakes.cross(0), true);
            due("mend " + i, rakes.mend(0, 0), 3 + i);
        }
        due("cross", rakes.cross(0), true);
        due("40 can be undone", rakes.count(8), 40);
        return rakes;
    }

    private static void allUndone(String what, TideRakes rakes) {
        due(what + ": 41 acts", rakes.count(6), 41);
        due(what + ": 40 to undo", rakes.count(8), 40);
        due(what + ": the last cross", rakes.undo(), true);
        for (int i = 18; i >= 0; i--) {
            due(what + ": not crossed", rakes.part(0, 2), 0);
            due(what + ": w ready", rakes.worker(0, 2), 3 + i);
            due(what + ": mend " + i, rakes.undo(), true);
            due(what + ": crossed", rakes.part(0, 2), 1);
            due(what + ": cross " + i, rakes.undo(), true);
        }
        due(what + ": done", rakes.part(0, 1), 2);
        due(what + ": send", rakes.undo(), true);
        due(what + ": never done", rakes.part(0, 1), -2);
        due(what + ": by none", rakes.part(0, 5), -2);
        due(what + ": w at his x", rakes.worker(0, 0), 0);
        due(what + ": w at his y", rakes.worker(0, 1), 0);
        due(what + ": w ready from the beginning", rakes.worker(0, 2), 0);
        due(what + ": w without worth", rakes.worker(0, 4), 0);
        due(what + ": u at his place", rakes.worker(1, 0), 9);
        due(what + ": s as he was", rakes.worker(2, 2), 562);
        due(what + ": the 41st back", rakes.undo(), false);
        due(what + ": c stays done", rakes.part(2, 1), 562);
        due(what + ": one act", rakes.count(6), 1);
    }

    private static void undoingTheLastFortyOfMore() {
        TideRakes rakes = fortyDone();
        due("one more", rakes.mend(0, 0), 22);
        due("refused", rakes.mend(0, 0), -2);
        due("refused again", rakes.send(0, 0), -2);
        for (int i = 0; i < 40; i++) {
            due("one of the last 40", rakes.undo(), true);
        }
        due("not more than 40", rakes.undo(), false);
        due("the send stays", rakes.part(0, 1), 2);
        due("not crossed", rakes.part(0, 2), 0);
        due("two acts", rakes.count(6), 2);
        due("w ready as after the send", rakes.worker(0, 2), 2);
    }

    // ---- promises 15 to 17

    private static void photographs() {
        TideRakes rakes = beach();
        due("best minute of nothing", rakes.bestMinute(), 0);
        rakes.send(0, 0);
        rakes.send(0, 1);
        due("photo of a", rakes.photo(14), 140);
        due("photo of a and b", rakes.photo(20), 600);
        due("photo when washed", rakes.photo(40), 0);
        due("best minute", rakes.bestMinute(), 39);
        rakes.send(1, 2);
        due("photo of all", rakes.photo(39), 1365);
        due("photo of c", rakes.photo(40), 200);
        due("best minute of all", rakes.bestMinute(), 39);
        rakes.cross(1);
        rakes.cross(0);
        due("best minute of c: the first with sun 100", rakes.bestMinute(), 100);
        due("seen", rakes.seen(20), 4);
    }

    // ---- promises 19 to 26

    private static void duePlan(TideRakes rakes, int worker, int b, int worth, int ready, int bits) {
        due("plan of " + worker + " by " + b + ": worth", rakes.plan(worker, b, 0), worth);
        due("plan of " + worker + " by " + b + ": ready", rakes.plan(worker, b, 1), ready);
        due("plan of " + worker + " by " + b + ": bits", rakes.plan(worker, b, 2), bits);
    }

    private static void plans() {
        TideRakes rakes = beach();
        duePlan(rakes, 0, 600, 35, 20, 7);
        int[] row = {2, 1, 0, -2, -2};
        for (int i = 0; i < row.length; i++) {
            due("row at " + i, rakes.planAt(0, 600, i), row[i]);
        }
        duePlan(rakes, 0, 20, 35, 20, 7);
        duePlan(rakes, 0, 19, 25, 15, 6);
        duePlan(rakes, 0, 14, 15, 14, 5);
        duePlan(rakes, 0, 13, 5, 5, 4);
        duePlan(rakes, 0, 4, 0, 0, 0);
        due("row of none", rakes.planAt(0, 4, 0), -2);
        rakes.send(0, 1);
        // from b at 15: a 20, then c 25, or c 22, then a 28
        duePlan(rakes, 0, 600, 15, 25, 5);
        due("row behind b", rakes.planAt(0, 600, 0), 0);
        due("row behind a", rakes.planAt(0, 600, 1), 2);
        duePlan(rakes, 0, 3, 0, 15, 0);
        TideRakes alike = Bench.told("part a 0 1 5 1;part b 1 1 5 1;part c 1 1 0 1;worker w 1 1 1;");
        duePlan(alike, 0, 1, 5, 1, 2);
        duePlan(alike, 0, 600, 10, 3, 3);
        alike = Bench.told("part a 1 1 5 1;part b 1 1 5 1;worker w 1 1 1;");
        duePlan(alike, 0, 1, 5, 1, 1);
        // d waits for the water till 300: c, b, a would be in time for it too, but b, c, a has a DONE sooner
        TideRakes waiting = Bench.told("part a 30 9 1 1;part b 10 9 1 1;part c 20 9 1 1;part d 40 5 1 1;worker w 0 9 1;"
            + "tide = if minute < 300 then 7 else 1;");
        duePlan(waiting, 0, 600, 4, 301, 15);
        int[] prompt = {1, 2, 0, 3, -2};
        for (int i = 0; i < prompt.length; i++) {
            due("prompt row at " + i, waiting.planAt(0, 600, i), prompt[i]);
        }
        due("a is seen by 33", waiting.after(0, 600, 33), 300);
        due("not ahead of it", waiting.after(0, 600, 32), 200);
    }

    private static void sharedPlans() {
        TideRakes rakes = beach();
        int[][] twos = {{600, 35, 0, 7}, {14, 15, 1, 4}, {15, 35, 2, 5}, {4, 0, 0, 0}};
        for (int[] two : twos) {
            for (int what = 0; what < 3; what++) {
                due("two by " + two[0] + ": " + what, rakes.two(0, 1, two[0], what), two[what + 1]);
            }
        }
        due("hands by 15", rakes.hands(15, 0), 35);
        due("hands by 15: bits", rakes.hands(15, 1), 7);
        due("hands by 14", rakes.hands(14, 0), 15);
        due("hands by 14: bits", rakes.hands(14, 1), 5);
        due("hands by 5", rakes.hands(5, 1), 4);
        due("hands by 4", rakes.hands(4, 1), 0);
        rakes.send(0, 1);
        due("hands without what is done", rakes.hands(600, 1), 5);
        due("two without what is done", rakes.two(0, 1, 600, 2), 5);
        TideRakes first = Bench.told("part a 0 1 5 1;part b 0 1 5 1;worker w 0 1 20;worker u 99 99 1;");
        due("the first one does all", first.two(0, 1, 50, 1), 3);
        due("the other one nothing", first.two(0, 1, 50, 2), 0);
        TideRakes none = Bench.told("part a 0 1 5 1;");
        due("hands of nobody", none.hands(600, 0), 0);
        TideRakes empty = Bench.told("part a 0 1 0 1;worker w 0 1 1;");
        due("least bits: what is worth nothing is left", empty.hands(600, 1), 0);
    }

    private static void spareAndQuickest() {
        TideRakes rakes = beach();
        due("spare", rakes.spare(0, 600), 20);
        due("spare by 20", rakes.spare(0, 20), 3);
        due("spare of nothing", rakes.spare(0, 4), 599);
        due("quickest", rakes.quickest(0, 0), 2);
        due("quickest: when", rakes.quickest(0, 1), 5);
        due("quickest of t: b at 51", rakes.quickest(2, 0), 0);
        due("quickest of t: when", rakes.quickest(2, 1), 54);
        rakes.send(0, 2);
        due("quickest behind c: a", rakes.quickest(0, 0), 0);
        rakes.send(0, 0);
        due("quickest of t: a again, washed", rakes.quickest(2, 0), 0);
        TideRakes alike = Bench.told("part a 9 1 1 1;part b 0 2 1 1;part c 1 1 1 1;worker w 0 1 1;");
        due("quickest of alike ones", alike.quickest(0, 0), 1);
        TideRakes covered = Bench.told("part a 0 0 1 1;worker w 0 0 1;");
        due("quickest of none", covered.quickest(0, 0), -2);
        due("quickest of none: when", covered.quickest(0, 1), -2);
    }

    private static void mendsAndAfter() {
        TideRakes rakes = beach();
        due("after u's plan, ahead of it", rakes.after(0, 600, 4), 0);
        due("after: c", rakes.after(0, 600, 5), 25);
        due("after: c and b", rakes.after(0, 600, 15), 375);
        due("after: all", rakes.after(0, 600, 20), 700);
        due("after: washed", rakes.after(0, 600, 40), 200);
        due("nothing happened", rakes.count(4), 0);
        rakes.send(0, 2);
        rakes.send(0, 0);
        rakes.send(0, 1);
        due("after: what is there stays there", rakes.after(1, 600, 20), 700);
        rakes.cross(0);
        rakes.cross(1);
        // u is at b, ready at 20: b 22, then a 25; v: b 5, then a 9, or a 7, then b 12
        int[] ofU = {30, 25, 3};
        int[] ofV = {30, 9, 3};
        for (int what = 0; what < 3; what++) {
            due("mends of u " + what, rakes.mends(0, 600, what), ofU[what]);
            due("mends of v " + what, rakes.mends(1, 600, what), ofV[what]);
        }
        due("mends by 24", rakes.mends(0, 24, 2), 2);
        due("mends by 21", rakes.mends(0, 21, 2), 0);
        due("mends by 21: ready", rakes.mends(0, 21, 1), 20);
        TideRakes slow = Bench.told("part a 0 1 1 1; part b 99 97 1 12; worker w 0 1 1; worker u 0 1 1; holds 401 600;");
        slow.send(0, 0);
        slow.send(1, 1);
        slow.cross(1);
        due("mended at 600", slow.mends(0, 600, 1), 600);
        due("mended by 599", slow.mends(0, 599, 2), 0);
    }

    // ---- promises 27 to 33

    private static void windows() {
        TideRakes rakes = beach();
        due("how many", rakes.window(0, -1, true), 2);
        due("first", rakes.window(0, 0, false), 11);
        due("its last", rakes.window(0, 0, true), 34);
        due("second", rakes.window(0, 1, false), 51);
        due("its last", rakes.window(0, 1, true), 74);
        due("third", rakes.window(0, 2, false), -1);
        due("c", rakes.window(2, 0, true), 24);
        due("up to the day's end", Bench.told("part a 0 1 1 1;holds 599 600;").window(0, 0, true), 599);
    }

    private static void sizes() {
        TideRakes rakes = Bench.told("part a 4 0 1 4;worker w 0 0 1;high=1;");
        due("large by 600", rakes.large(600), 16);
        due("large by 32", rakes.large(32), 16);
        due("large by 31", rakes.large(31), 15);
        due("large by 2", rakes.large(2), 1);
        due("large by 1", rakes.large(1), 0);
        rakes.send(0, 0);
        due("large as if nothing was raked", rakes.large(32), 16);
        // by x 7 to the left: 1, 3, 5, 7, .. of it; 3 quarters of 3 minutes are 3 minutes
        rakes = Bench.told("part a 3 0 1 3;worker w 10 0 1;peg 10 0;high=1;");
        due("1 and 1", rakes.large(2), 1);
        due("3 and 2", rakes.large(5), 2);
        due("5 and 3", rakes.large(8), 3);
        due("7 and 3", rakes.large(10), 4);
        rakes = Bench.told("part a 4 0 1 1;worker w 0 0 20;high=if x<5 then 1 else if x<9 then 0 else if x<10 then 1 else 0;");
        due("as high as that place", rakes.large(600), 9);
        // by y 8 above the peg: 2 of it a quarter, up to 7 HIGH enough
        rakes = Bench.told("part a 3 2 1 1;worker w 3 10 20;peg 3 10;high=if y<4 then 0 else 1;");
        due("by y, from the peg", rakes.large(600), 3);
        due("nobody", Bench.told("part a 4 0 1 1;high=1;").large(600), 0);
        rakes = Bench.told("part a 0 0 0 5;part b 0 0 0 5;worker w 0 0 1;worker u 0 0 1;high=1;");
        due("shared, and what is worth nothing too", rakes.large(5), 4);
    }

    private static void dogs() {
        TideRakes rakes = beach();
        due("dog", rakes.dog(1, 300), 6);
        rakes.send(0, 1);
        int over = 0;
        for (int seed = 3; seed < 53; seed++) {
            boolean runOver = false;
            for (int u = 15; u <= 39; u++) {
                runOver |= Model.lot(100, seed, 8 * u + 1) < 6;
            }
            over += runOver ? 1 : 0;
        }
        due("some are run over", over > 0 && over < 50, true);
        due("hopes", rakes.hopes(39, 20 * 39, 50), 50 - over);
        due("hopes of more", rakes.hopes(39, 20 * 39 + 1, 50), 0);
        due("hopes of nothing", rakes.hopes(39, 0, 50), 50);
        due("hope", rakes.hope(39, 50), (50 - over) * 20 * 39);
        due("seen all the same", rakes.seen(39), 2);
        due("the minute itself counts", Bench.read(rakes, BEACH + "dog=if minute<39 then 0 else 100;"), 0);
        rakes.send(0, 1);
        due("not yet run over", rakes.hopes(38, 1, 5), 5);
        due("run over in it", rakes.hopes(39, 1, 5), 0);
        due("a text without a seed", Bench.read(rakes, BEACH.replace("seed 3;", "")), 0);
        rakes.send(0, 1);
        TideRakes zero = Bench.told(BEACH + "seed 0;");
        zero.send(0, 1);
        for (int n = 1; n <= 50; n++) {
            due("seeds from 0 on, " + n, rakes.hopes(30, 1, n), zero.hopes(30, 1, n));
        }
        due("a LOT", Model.lot(100, 0, 0), lotByLong(100, 0, 0));
        due("another LOT", Model.lot(100, 9999, 4807), lotByLong(100, 9999, 4807));
    }

    private static int lotByLong(int n, long seed, long which) {
        long h = seed;
        for (long it : new long[] {29, which}) {
            h = ((h ^ it) * 1103515245L + 12345L) & 0xffffffffL;
            h = h ^ h / 32768;
        }
        return (int) (h / 2 % n);
    }

    private static void errors() {
        TideRakes rakes = beach();
        int[] errors = {9, 9, 90};
        int[] from = {-2, -2, 0};
        for (int part = 0; part < 3; part++) {
            due("error of " + part, rakes.error(part, false), errors[part]);
            due("from of " + part, rakes.error(part, true), from[part]);
        }
        due("fails 8", rakes.fails(8), 7);
        due("fails 9", rakes.fails(9), 4);
        due("fails 90", rakes.fails(90), 0);
        due("fails at most", rakes.fails(MOST), 0);
        // c is 2 from the peg, a and b hang on it alike; the peg goes ahead of all
        rakes = Bench.told("part a 4 0 1 1;part b 0 4 1 1;part c 1 1 1 1;part d 2 0 1 1;slip=if far<4 then far/2 else 9-off;");
        due("c", rakes.error(2, false), 1);
        due("c from the peg", rakes.error(2, true), -2);
        due("d", rakes.error(3, false), 1);
        due("d from the peg", rakes.error(3, true), -2);
        due("a from d", rakes.error(0, true), 3);
        due("a", rakes.error(0, false), 2);
        due("b: 9 from the peg, from c, from a, from d", rakes.error(1, true), -2);
        due("b", rakes.error(1, false), 9);
    }

    private static void errorsThatGrow() {
        // a 2 from the peg; b from a: far 3, off 2 make 8, which is less than from the peg: 25
        TideRakes rakes = Bench.told("part b 5 0 1 1;part a 2 0 1 1;slip=if off<1 then far*far-far/2*2+far/5*4 else far*off;");
        due("a", rakes.error(1, false), 2);
        due("b", rakes.error(0, false), 8);
        due("b from a", rakes.error(0, true), 1);
    }

    // ---- promises 34 to 36

    private static void tellings() {
        TideRakes rakes = beach();
        for (int i = 0; i < 20; i++) {
            due("tell " + i, rakes.tell(i % 3, 599 - i, i % 2 == 0), i);
        }
        due("the 21st", rakes.tell(0, 0, true), -1);
        due("20 told", rakes.count(9), 20);
        due("forget", rakes.forget(), 20);
        due("forget again", rakes.forget(), 0);
        due("tell anew", rakes.tell(0, 0, false), 0);
    }

    private static void lateOnes() {
        TideRakes rakes = beach();
        rakes.send(0, 0);
        rakes.tell(0, 14, true);
        rakes.tell(0, 13, false);
        due("as nothing is known", rakes.late(0, -1), 181);
        due("the first", rakes.late(0, 0), 0);
        due("the 61st", rakes.late(0, 60), 60);
        due("the 62nd", rakes.late(0, 61), 101);
        due("the last", rakes.late(0, 180), 260);
        due("no more", rakes.late(0, 181), -1);
        due("a was there", rakes.late(1, -1), 12 + 120);
        due("u by 11", rakes.late(1, 11), 11);
        due("v by 1", rakes.late(1, 12), 101);
        due("t by 60", rakes.late(2, 131), 260);
        due("not so many", rakes.late(2, 132), -1);
        rakes.forget();
        rakes.tell(0, 14, false);
        due("a was not there", rakes.late(1, -1), 49);
        due("u by 12", rakes.late(1, 0), 12);
        due("u by 60", rakes.late(1, 48), 60);
        rakes.tell(0, 14, true);
        due("there and not there", rakes.late(2, -1), 0);
        due("none of none", rakes.late(2, 0), -1);
        due("no such k", rakes.late(3, -1), -1);
        due("k below 0", rakes.late(-1, -1), -1);
        due("i below NONE", rakes.late(0, -2), -1);
        rakes.forget();
        rakes.send(0, 1);
        for (int i = 0; i < 14; i++) {
            rakes.cross(0);
            rakes.mend(1, 0);
        }
        due("30 acts", rakes.count(6), 30);
        due("late of 30 acts", rakes.late(0, -1), 181);
        rakes.cross(0);
        due("late of 31 acts", rakes.late(0, -1), -2);
        due("k is looked at first", rakes.late(1, 0), -1);
        due("i is looked at first", rakes.late(0, -2), -1);
        due("the i-th of 31 acts", rakes.late(0, 500), -2);
        rakes.undo();
        due("late of 30 acts again", rakes.late(0, -1), 181);
    }

    // ---- promises 37 to 39

    private static void slots() {
        TideRakes rakes = beach();
        due("restore nothing", rakes.restore(0), false);
        rakes.send(0, 0);
        due("hold", rakes.hold(2), true);
        rakes.send(0, 1);
        rakes.cross(0);
        rakes.tell(0, 3, true);
        Bench.feed(rakes, "abc");
        due("restore", rakes.restore(2), true);
        int[] counts = {3, 3, 2, 25, 1, 0, 1, 3, 0, 1, 1};
        for (int what = 0; what < counts.length; what++) {
            due("count behind restore " + what, rakes.count(what), counts[what]);
        }
        due("u", rakes.worker(0, 2), 14);
        due("nothing can be undone", rakes.undo(), false);
        due("send b", rakes.send(0, 1), 20);
        due("late goes on from what was held", rakes.late(0, -1), 181);
        due("undo of what came after", rakes.undo(), true);
        due("no more", rakes.undo(), false);
        rakes.send(0, 1);
        due("it stays there", rakes.restore(2), true);
        due("a is done, b not", rakes.count(4), 1);
        due("another slot", rakes.restore(1), false);
        heldPlans();
        heldActs();
    }

    private static void heldPlans() {
        TideRakes rakes = beach();
        rakes.hold(0);
        rakes.send(0, 1);
        due("plan without b", rakes.plan(0, 600, 2), 5);
        due("hands without b", rakes.hands(600, 1), 5);
        rakes.restore(0);
        due("plan with b again", rakes.plan(0, 600, 2), 7);
        due("hands with b again", rakes.hands(600, 1), 7);
        rakes.send(0, 1);
        due("plan without b", rakes.plan(0, 600, 2), 5);
        rakes.undo();
        due("plan with b once more", rakes.plan(0, 600, 2), 7);
    }

    private static void heldActs() {
        TideRakes rakes = beach();
        rakes.send(1, 0);
        rakes.hold(0);
        rakes.undo();
        rakes.send(0, 1);
        rakes.restore(0);
        rakes.tell(0, 14, true);
        // v comes at 6: by 5 he is still in time
        due("ways by what was held", rakes.late(1, -1), 61 + 5 + 60);
        due("v by 5", rakes.late(1, 61 + 4), 105);
    }

    private static void counts() {
        TideRakes rakes = beach();
        rakes.send(0, 0);
        rakes.send(1, 2);
        rakes.cross(0);
        rakes.hold(0);
        rakes.hold(1);
        rakes.hold(1);
        Bench.feed(rakes, "seed");
        rakes.tell(1, 1, true);
        int[] counts = {3, 3, 2, 25, 2, 1, 3, 4, 3, 1, 2, -1};
        for (int what = 0; what < counts.length; what++) {
            due("count " + what, rakes.count(what), counts[what]);
        }
        due("count below 0", rakes.count(-1), -1);
    }

    // ---- wrong inputs of all

    private static void wrongOnes() {
        TideRakes rakes = beach();
        for (int no : new int[] {-1, 3, LEAST, MOST}) {
            due("part", rakes.part(no, 0), -10000);
            due("worker", rakes.worker(no, 0), -1);
            due("free", rakes.free(no, 0), -1);
            due("when", rakes.when(no, 0), -1);
            due("send worker", rakes.send(no, 0), -1);
            due("send part", rakes.send(0, no), -1);
            due("cross", rakes.cross(no), false);
            due("mend worker", rakes.mend(no, 0), -1);
            due("mend part", rakes.mend(0, no), -1);
            due("stays", rakes.stays(no, 0), -1);
            due("plan worker", rakes.plan(no, 0, 0), -1);
            due("plan what", rakes.plan(0, 600, no), -1);
            due("planAt worker", rakes.planAt(no, 0, 0), -1);
            due("two worker", rakes.two(no, 0, 0, 0), -1);
            due("two other", rakes.two(0, no, 0, 0), -1);
            due("two what", rakes.two(0, 1, 600, no), -1);
            due("hands what", rakes.hands(600, no), -1);
            due("spare worker", rakes.spare(no, 0), -1);
            due("quickest worker", rakes.quickest(no, 0), -1);
            due("quickest what", rakes.quickest(0, no), -1);
            due("mends worker", rakes.mends(no, 0, 0), -1);
            due("mends what", rakes.mends(0, 600, no), -1);
            due("after worker", rakes.after(no, 0, 0), -1);
            due("window part", rakes.window(no, -1, false), -1);
            due("dog part", rakes.dog(no, 0), -1);
            due("error part", rakes.error(no, true), -1);
            due("tell part", rakes.tell(no, 0, true), -1);
            due("hold", rakes.hold(no), false);
            due("restore", rakes.restore(no), false);
        }
        due("hands what 2", rakes.hands(600, 2), -1);
        due("quickest what 2", rakes.quickest(0, 2), -1);
        due("two and the same", rakes.two(1, 1, 600, 0), -1);
        due("window i below NONE", rakes.window(0, -2, false), -1);
        due("window i", rakes.window(0, MOST, false), -1);
        due("planAt i", rakes.planAt(0, 600, -1), -1);
        due("planAt i at most", rakes.planAt(0, 600, MOST), -2);
        due("hopes v", rakes.hopes(0, -1, 1), -1);
        due("fails", rakes.fails(-1), -1);
        due("fails least", rakes.fails(LEAST), -1);
        for (int n : new int[] {0, 51, -1, LEAST, MOST}) {
            due("hopes n", rakes.hopes(0, 0, n), -1);
            due("hope n", rakes.hope(0, n), -1);
        }
        wrongMinutes(rakes);
        due("nothing was done", rakes.count(6), 0);
        due("nothing was told", rakes.count(9), 0);
    }

    private static void wrongMinutes(TideRakes rakes) {
        for (int m : new int[] {-1, 600, LEAST, MOST}) {
            due("minute", rakes.minute(m, 0), -10000);
            due("free", rakes.free(0, m), -1);
            due("when", rakes.when(0, m), -1);
            due("seen", rakes.seen(m), -1);
            due("photo", rakes.photo(m), -1);
            due("stays", rakes.stays(0, m), -1);
            due("after", rakes.after(0, 600, m), -1);
            due("hopes", rakes.hopes(m, 0, 1), -1);
            due("hope", rakes.hope(m, 1), -1);
            due("dog", rakes.dog(0, m), -1);
            due("tell", rakes.tell(0, m, true), -1);
        }
        due("minute what", rakes.minute(0, 2), -10000);
        due("minute what below", rakes.minute(0, -1), -10000);
        for (int b : new int[] {-1, 601, LEAST, MOST}) {
            due("plan", rakes.plan(0, b, 0), -1);
            due("planAt", rakes.planAt(0, b, 0), -1);
            due("two", rakes.two(0, 1, b, 0), -1);
            due("hands", rakes.hands(b, 0), -1);
            due("spare", rakes.spare(0, b), -1);
            due("mends", rakes.mends(0, b, 0), -1);
            due("after", rakes.after(0, b, 0), -1);
            due("large", rakes.large(b), -1);
        }
    }
}
