/** Edges of dogs, errors, what is TOLD and what is held: promises 29 to 39. */
final class ToldEdges {
    private static final int[] NO_MINUTES = {-1, 600, Edges.LEAST, Edges.MOST};
    private static final int[] NO_SEEDS = {0, -1, 51, Edges.LEAST, Edges.MOST};
    private static final String ONE = "part a 0 1 5 3;worker w 0 1 1;";

    private ToldEdges() {
    }

    static void tryAll() {
        lessThanLot();
        lots();
        dogMinutes();
        dogsOfMended();
        seeds();
        worthOrMore();
        hopesOfNone();
        hopeOfSeeds();
        hopeOfNone();
        dogAnswers();
        leastErrors();
        settledOnes();
        firstSettled();
        measuredFrom();
        errorOfNone();
        above();
        telling();
        tellOfNone();
        forgetting();
        lateOnes();
        everyWay();
        lateInTheBeginning();
        lateByNobody();
        lateInOrder();
        lateThatCannot();
        lateActs();
        lateOfNone();
        holding();
        holdOfNone();
        restoring();
        restoreOfNone();
        counting();
        countOfNone();
    }

    /** LOT 100, in numbers that do not wrap. */
    static int lot(long seed, long which) {
        long h = seed;
        for (long it : new long[] {29, which}) {
            h = ((h ^ it) * 1103515245L + 12345L) % 4294967296L;
            h = h ^ h / 32768;
        }
        return (int) (h / 2 % 100);
    }

    // ---- promises 29 to 31

    /** Eight PARTS at one place of which one is raked by him who comes in a minute; it is DONE in the next. */
    private static TideRakes oneOfEight(int part, int comes, String more) {
        StringBuilder text = new StringBuilder("worker w ").append(comes).append(" 1 1;");
        for (char c = 'a'; c <= 'h'; c++) {
            text.append("part p").append(c).append(" 0 1 2 1;");
        }
        TideRakes rakes = Edges.told(text + more);
        Edges.due("send", rakes.send(0, part), comes + 1);
        return rakes;
    }

    private static void lessThanLot() {
        Edges.sentence(29, "it is run over if LOT 100 of a SEED and 8 * u + its number is less than DOG tells: then it is not SEEN in m.");
        for (int told : new int[] {0, 1, 4711, 9999}) {
            for (int part : new int[] {0, 3, 7}) {
                for (int comes : new int[] {0, 9, 98}) {
                    int lot = lot(told, 8 * (comes + 1) + part);
                    String more = "seed " + told + ";dog=";
                    Edges.due("LOT as much as DOG", oneOfEight(part, comes, more + lot + ";").hopes(comes + 1, 1, 1), 1);
                    Edges.due("LOT less than DOG", oneOfEight(part, comes, more + (lot + 1) + ";").hopes(comes + 1, 1, 1), 0);
                }
            }
        }
        int seed = 0;
        while (lot(seed, 8) != 0) {
            seed++;
        }
        Edges.due("the least LOT and DOG 1", oneOfEight(0, 0, "dog=1;seed " + seed + ";").hopes(1, 1, 1), 0);
        Edges.due("the least LOT and DOG 0", oneOfEight(0, 0, "dog=0;seed " + seed + ";").hopes(1, 1, 1), 1);
        while (lot(seed, 8) != 99) {
            seed++;
        }
        Edges.due("the greatest LOT and DOG 100", oneOfEight(0, 0, "dog=100;seed " + seed + ";").hopes(1, 1, 1), 0);
        Edges.due("the greatest LOT and DOG 99", oneOfEight(0, 0, "dog=99;seed " + seed + ";").hopes(1, 1, 1), 1);
        Edges.due("DOG 0", oneOfEight(0, 0, "dog=0;").hopes(599, 1, 50), 50);
        Edges.due("DOG 100", oneOfEight(0, 0, "dog=100;").hopes(1, 1, 50), 0);
        Edges.due("DOG of more", oneOfEight(0, 0, "dog=101;").hopes(1, 0, 50), 50);
        TideRakes seen = oneOfEight(0, 0, "dog=100;");
        Edges.due("SEEN is told without dogs", seen.seen(9), 1);
        Edges.due("a PHOTOGRAPH too", seen.photo(9), 200);
    }

    private static void lots() {
        Edges.sentence(29, "then h and h moved 15 bits down (zeros come in), likewise; the rest of h, moved 1 bit down likewise, by n (32 bits that wrap).");
        // SEED, minute, PART, LOT 100: h begins with a 1 in the first step, in the second one, in both or in none
        int[][] rows = {{0, 1, 0, 60}, {0, 1, 7, 4}, {0, 300, 3, 58}, {0, 599, 7, 54}, {1, 599, 0, 62}, {29, 1, 0, 54}, {29, 599, 7, 24},
            {4711, 300, 3, 63}, {9999, 1, 0, 13}, {9999, 300, 3, 95}, {9999, 599, 0, 47}, {9999, 599, 7, 39}};
        for (int[] row : rows) {
            String ahead = "seed " + row[0] + ";dog=if minute<" + row[1] + " then 0 else ";
            Edges.due("DOG as much as LOT", oneOfEight(row[2], 0, ahead + row[3] + ";").hopes(row[1], 1, 1), 1);
            Edges.due("DOG 1 more", oneOfEight(row[2], 0, ahead + (row[3] + 1) + ";").hopes(row[1], 1, 1), 0);
        }
        // SEEDS go on beyond 9999: the 50th is 10048, whose LOT is 0; the 49 ahead of it are not
        TideRakes last = oneOfEight(7, 0, "seed 9999;dog=if minute<599 then 0 else 1;");
        int left = 0;
        for (int seed = 9999; seed < 10048; seed++) {
            left += lot(seed, 8 * 599 + 7) > 0 ? 1 : 0;
        }
        Edges.due("of 49", last.hopes(599, 1, 49), left);
        Edges.due("of 50", last.hopes(599, 1, 50), left);
    }

    private static void dogMinutes() {
        Edges.sentence(29, "in each minute u from that on in which a PART that is SEEN in minute m is DONE (and MENDED) to m");
        // DONE in minute 4; DOG in one minute alone
        dueDog(3, 20, 1);
        dueDog(4, 20, 0);
        dueDog(5, 20, 0);
        dueDog(19, 20, 0);
        dueDog(20, 20, 0);
        dueDog(21, 20, 1);
        dueDog(4, 4, 0);
        dueDog(5, 4, 1);
        dueDog(599, 599, 0);
        dueDog(599, 598, 1);
    }

    private static String dogIn(int minute) {
        return "dog=if minute<" + minute + " then 0 else if minute<" + (minute + 1) + " then 100 else 0;";
    }

    private static void dueDog(int dog, int asked, int want) {
        TideRakes rakes = oneOfEight(2, 3, dogIn(dog));
        Edges.due("DOG in " + dog + ", asked in " + asked, rakes.hopes(asked, 200, 1), want);
        Edges.due("all of them together", rakes.hope(asked, 3), 3 * 200 * want);
    }

    private static void dogsOfMended() {
        Edges.sentence(30, "is DONE (and MENDED) to m");
        for (int dog = 1; dog <= 4; dog++) {
            TideRakes rakes = oneOfEight(0, 0, dogIn(dog));
            rakes.cross(0);
            Edges.due("MENDED", rakes.mend(0, 0), 2);
            Edges.due("DOG in " + dog, rakes.hope(3, 1), dog == 2 || dog == 3 ? 0 : 200);
        }
        // MENDED ahead of DONE: only DONE counts
        for (int dog = 1; dog <= 6; dog++) {
            TideRakes rakes = Edges.told("part a 0 1 2 4;worker w 0 1 1;worker u 0 1 1;" + dogIn(dog));
            rakes.send(0, 0);
            rakes.cross(0);
            Edges.due("MENDED", rakes.mend(1, 0), 2);
            Edges.due("DOG in " + dog, rakes.hope(5, 1), dog == 4 || dog == 5 ? 0 : 200);
        }
        TideRakes crossed = oneOfEight(0, 0, "dog=0;");
        crossed.cross(0);
        Edges.due("what is CROSSED is not SEEN", crossed.hope(9, 9), 0);
    }

    private static void seeds() {
        Edges.sentence(29, "HOPES: with how many of SEEDS, n (1 .. 50) from the text's SEED on, a PHOTOGRAPH in m is worth v or more");
        for (int seed : new int[] {0, 77, 9980, 9999}) {
            TideRakes rakes = oneOfEight(5, 0, "dog=50;seed " + seed + ";");
            int left = 0;
            for (int n = 1; n <= 50; n++) {
                left += lot(seed + n - 1, 8 + 5) < 50 ? 0 : 1;
                Edges.due("hopes of " + n + " from " + seed, rakes.hopes(1, 1, n), left);
                Edges.due("hope of " + n + " from " + seed, rakes.hope(1, n), left * 200);
            }
        }
    }

    private static void worthOrMore() {
        Edges.sentence(29, "a PHOTOGRAPH in m is worth v or more");
        TideRakes rakes = oneOfEight(0, 0, "");
        int[][] rows = {{0, 7}, {1, 7}, {199, 7}, {200, 7}, {201, 0}, {Edges.MOST, 0}};
        for (int[] row : rows) {
            Edges.due("v " + row[0], rakes.hopes(1, row[0], 7), row[1]);
        }
        Edges.due("nothing SEEN, v 0", rakes.hopes(0, 0, 7), 7);
        Edges.due("nothing SEEN, v 1", rakes.hopes(0, 1, 7), 0);
        // SUN of that minute: 0, 3, 6 ..
        TideRakes sunny = oneOfEight(0, 0, "sun=minute*3-3;");
        int[][] suns = {{1, 0}, {2, 3}, {3, 6}, {34, 99}, {35, 100}, {599, 100}};
        for (int[] row : suns) {
            Edges.due("as much in " + row[0], sunny.hopes(row[0], 2 * row[1], 7), 7);
            Edges.due("more in " + row[0], sunny.hopes(row[0], 2 * row[1] + 1, 7), 0);
            Edges.due("together in " + row[0], sunny.hope(row[0], 7), 7 * 2 * row[1]);
        }
        // of two PARTS one is run over
        TideRakes two = Edges.told("part a 0 1 2 1;part b 9 1 3 1;worker w 0 1 1;worker u 9 1 1;dog=if x<1 then 100 else 0;");
        two.send(0, 0);
        two.send(1, 1);
        Edges.due("what is left", two.hopes(1, 300, 50), 50);
        Edges.due("not both", two.hopes(1, 301, 50), 0);
        Edges.due("all PHOTOGRAPHS", two.hope(1, 50), 15000);
    }

    private static void hopesOfNone() {
        Edges.sentence(29, "HOPES; NONE: no such ones (v 0 and more).");
        TideRakes rakes = oneOfEight(0, 0, "");
        Edges.due("the first minute", rakes.hopes(0, 0, 1), 1);
        Edges.due("the last minute", rakes.hopes(599, 1, 1), 1);
        for (int minute : NO_MINUTES) {
            Edges.due("minute " + minute, rakes.hopes(minute, 0, 1), -1);
        }
        for (int v : new int[] {-1, -200, Edges.LEAST}) {
            Edges.due("v " + v, rakes.hopes(1, v, 1), -1);
        }
        for (int n : NO_SEEDS) {
            Edges.due("n " + n, rakes.hopes(1, 0, n), -1);
        }
        Edges.due("n 50", rakes.hopes(1, 0, 50), 50);
        Edges.due("nothing told", new TideRakes().hopes(0, 0, 1), 1);
    }

    private static void hopeOfSeeds() {
        Edges.sentence(30, "HOPE: all these PHOTOGRAPHS together");
        StringBuilder text = new StringBuilder("worker w 0 1 1;");
        for (char c = 'a'; c <= 'h'; c++) {
            text.append("part p").append(c).append(" 0 1 99 1;");
        }
        TideRakes rakes = Edges.told(text.toString());
        for (int part = 0; part < 8; part++) {
            rakes.send(0, part);
        }
        Edges.due("the most there can be", rakes.hope(8, 50), 50 * 8 * 99 * 100);
        Edges.due("of one", rakes.hope(8, 1), 8 * 99 * 100);
        Edges.due("ahead of all", rakes.hope(0, 50), 0);
    }

    private static void hopeOfNone() {
        Edges.sentence(30, "HOPE; NONE: no such ones.");
        TideRakes rakes = oneOfEight(0, 0, "");
        for (int minute : NO_MINUTES) {
            Edges.due("minute " + minute, rakes.hope(minute, 1), -1);
        }
        for (int n : NO_SEEDS) {
            Edges.due("n " + n, rakes.hope(1, n), -1);
        }
        Edges.due("n 1", rakes.hope(1, 1), 200);
        Edges.due("n 50", rakes.hope(599, 50), 10000);
    }

    private static void dogAnswers() {
        Edges.sentence(31, "What DOG tells of a PART in a minute; NONE: no such ones.");
        TideRakes rakes = Edges.told("part a 3 4 1 1;part b 0 0 1 1;dog=minute-x-y;");
        int[][] rows = {{0, 0, 0}, {0, 6, 0}, {0, 7, 0}, {0, 8, 1}, {0, 106, 99}, {0, 107, 100}, {0, 108, 100}, {0, 599, 100}, {1, 1, 1}};
        for (int[] row : rows) {
            Edges.due("dog of " + row[0] + " in " + row[1], rakes.dog(row[0], row[1]), row[2]);
        }
        for (int minute : NO_MINUTES) {
            Edges.due("minute " + minute, rakes.dog(0, minute), -1);
        }
        for (int part : new int[] {-1, 2, 8, Edges.LEAST, Edges.MOST}) {
            Edges.due("part " + part, rakes.dog(part, 0), -1);
        }
        Edges.due("DOG as not told", Edges.told("part a 3 4 1 1;").dog(0, 599), 0);
    }

    // ---- promises 32 and 33

    private static void dueErrors(TideRakes rakes, int... errorsAndFrom) {
        for (int i = 0; i < errorsAndFrom.length; i++) {
            Edges.due((i % 2 == 0 ? "ERROR of " : "FROM of ") + i / 2, rakes.error(i / 2, i % 2 == 1), errorsAndFrom[i]);
        }
    }

    private static void leastErrors() {
        Edges.sentence(32, "measured from the PEG (ERROR 0) or from another PART it has the ERROR of that and what SLIP tells"
            + " of how FAR they are (by x and by y together) and of that ERROR (off), together.");
        dueErrors(Edges.told("part a 5 5 1 1;peg 5 5;slip=far;"), 0, -2);
        dueErrors(Edges.told("part a 2 3 1 1;peg 5 5;slip=far;"), 5, -2);
        dueErrors(Edges.told("part a 2 3 1 1;peg 5 5;slip=far+off;"), 5, -2);
        dueErrors(Edges.told("part a 2 3 1 1;slip=0-1;"), 0, -2);
        dueErrors(Edges.told("part a 99 99 1 1;slip=9999*2;"), 9999, -2);
        // b by way of a: 4, and 4 of far and 4 of off; from the PEG 64
        dueErrors(Edges.told("part a 2 0 1 1;part b 4 4 1 1;slip=if 0<off then far-2+off else far*far;"), 4, -2, 12, 0);
        dueErrors(Edges.told("part b 4 4 1 1;part a 2 0 1 1;slip=if 0<off then far-2+off else far*far;"), 12, 1, 4, -2);
        // a row of three, each from the one ahead
        dueErrors(Edges.told("part a 1 0 1 1;part b 2 0 1 1;part c 3 0 1 1;slip=far*far;"), 1, -2, 2, 0, 3, 1);
        dueErrors(Edges.told("part a 3 0 1 1;part b 2 0 1 1;part c 1 0 1 1;slip=far*far;"), 3, 1, 2, 2, 1, -2);
    }

    private static void settledOnes() {
        Edges.sentence(32, "PARTS are settled one by one");
        // eight in a row, a step each: each is measured from the one ahead, however they are numbered
        int[][] orders = {{1, 2, 3, 4, 5, 6, 7, 8}, {8, 7, 6, 5, 4, 3, 2, 1}, {5, 2, 8, 1, 7, 4, 3, 6}};
        for (int[] order : orders) {
            StringBuilder text = new StringBuilder("slip=far*far;");
            int[] numbers = new int[9];
            numbers[0] = -2;
            for (int i = 0; i < 8; i++) {
                text.append("part p").append((char) ('a' + i)).append(" 0 ").append(order[i]).append(" 1 1;");
                numbers[order[i]] = i;
            }
            TideRakes rakes = Edges.told(text.toString());
            for (int i = 0; i < 8; i++) {
                Edges.due("ERROR of " + i, rakes.error(i, false), order[i]);
                Edges.due("FROM of " + i, rakes.error(i, true), numbers[order[i] - 1]);
            }
            Edges.due("all above 0", rakes.fails(0), 255);
        }
    }

    private static void firstSettled() {
        Edges.sentence(32, "always the one, of those not settled, that has least, measured from the PEG or from one that is settled (of alike ones the first by numbers)");
        // p and q have 3 from s alike: p is settled first, so that q has 3 from p, too, and p is ahead of s
        String slip = "slip=if 2<off then 0 else if 0<off then 2 else if far<2 then 1 else 99;";
        dueErrors(Edges.told("part p 5 5 1 1;part q 6 6 1 1;part s 1 0 1 1;" + slip), 3, 2, 3, 0, 1, -2);
        dueErrors(Edges.told("part q 6 6 1 1;part p 5 5 1 1;part s 1 0 1 1;" + slip), 3, 2, 3, 0, 1, -2);
        // b would have less from c, but it is settled ahead of c: 5 from the PEG, c 9
        dueErrors(Edges.told("part b 5 0 1 1;part c 9 0 1 1;slip=if 8<off then 0 else if 0<off then 99 else far;"), 5, -2, 9, -2);
    }

    private static void measuredFrom() {
        Edges.sentence(32, "FROM is the first by which it has that (the PEG ahead of all, then by numbers)");
        dueErrors(Edges.told("part a 1 0 1 1;part b 2 0 1 1;slip=far;"), 1, -2, 2, -2);
        dueErrors(Edges.told("part a 1 0 1 1;part b 2 0 1 1;slip=0;"), 0, -2, 0, -2);
        String slip = "slip=if far<4 then far else 99;";
        dueErrors(Edges.told("part a 0 2 1 1;part b 2 0 1 1;part t 2 2 1 1;" + slip), 2, -2, 2, -2, 4, 0);
        // t has 4 from a (2 and 2) and from b (1 and 3): b is settled first, but a is the first by numbers
        dueErrors(Edges.told("part a 0 2 1 1;part b 1 0 1 1;part t 2 2 1 1;" + slip), 2, -2, 1, -2, 4, 0);
        dueErrors(Edges.told("part b 1 0 1 1;part a 0 2 1 1;part t 2 2 1 1;" + slip), 1, -2, 2, -2, 4, 0);
        dueErrors(Edges.told("part t 2 2 1 1;part a 0 2 1 1;part b 1 0 1 1;" + slip), 4, 1, 2, -2, 1, -2);
    }

    private static void errorOfNone() {
        Edges.sentence(32, "ERROR of a PART (from: FROM, -2 the PEG); NONE: no such one.");
        TideRakes rakes = Edges.told("part a 1 0 1 1;part b 2 0 1 1;");
        for (int part : new int[] {-1, 2, 8, Edges.LEAST, Edges.MOST}) {
            Edges.due("ERROR of " + part, rakes.error(part, false), -1);
            Edges.due("FROM of " + part, rakes.error(part, true), -1);
        }
        Edges.due("nothing told", new TideRakes().error(0, true), -1);
    }

    private static void above() {
        Edges.sentence(33, "PARTS (bits) whose ERROR is above a number (0 and more); NONE: below 0.");
        TideRakes rakes = Edges.told("part a 5 0 1 1;part b 0 0 1 1;part c 2 0 1 1;slip=far;");
        int[][] rows = {{0, 5}, {1, 5}, {2, 1}, {4, 1}, {5, 0}, {6, 0}, {Edges.MOST, 0}, {-1, -1}, {-2, -1}, {Edges.LEAST, -1}};
        for (int[] row : rows) {
            Edges.due("fails " + row[0], rakes.fails(row[0]), row[1]);
        }
        StringBuilder text = new StringBuilder("slip=9999;");
        for (char c = 'a'; c <= 'h'; c++) {
            text.append("part p").append(c).append(" 1 1 1 1;");
        }
        Edges.due("all eight above 9998", Edges.told(text.toString()).fails(9998), 255);
        Edges.due("none above 9999", Edges.told(text.toString()).fails(9999), 0);
        Edges.due("nothing told", new TideRakes().fails(0), 0);
        Edges.due("nothing told, below 0", new TideRakes().fails(-1), -1);
    }

    // ---- promises 34 and 35

    private static void telling() {
        Edges.sentence(34, "TOLD: whether a PART was SEEN in a minute (0 .. 599), 20 at most, numbered from 0 on");
        TideRakes rakes = Edges.told(ONE);
        rakes.send(0, 0);
        for (int i = 0; i < 20; i++) {
            Edges.due("tell " + i, rakes.tell(0, i % 2 == 0 ? 599 : 0, i % 2 == 0), i);
            Edges.due("TOLD ones", rakes.count(9), i + 1);
        }
        Edges.due("the 21st", rakes.tell(0, 3, false), -1);
        Edges.due("20 stay", rakes.count(9), 20);
        Edges.due("nothing happens: all is so", rakes.late(20, -1), 61);
        Edges.due("KNOWN by 21", rakes.late(21, -1), -1);
    }

    private static void tellOfNone() {
        Edges.sentence(34, "It is TOLD: its number; NONE, and nothing happens: 20 are there, no such ones.");
        TideRakes rakes = Edges.told(ONE);
        for (int minute : NO_MINUTES) {
            Edges.due("minute " + minute, rakes.tell(0, minute, true), -1);
        }
        for (int part : new int[] {-1, 1, 8, Edges.LEAST, Edges.MOST}) {
            Edges.due("part " + part, rakes.tell(part, 0, true), -1);
        }
        Edges.due("nothing is TOLD", rakes.count(9), 0);
        Edges.due("the first number", rakes.tell(0, 0, false), 0);
        Edges.due("none in between", rakes.tell(0, 600, false), -1);
        Edges.due("the second number", rakes.tell(0, 599, false), 1);
    }

    private static void forgetting() {
        Edges.sentence(35, "All that was TOLD is forgotten: how many there were.");
        TideRakes rakes = Edges.told(ONE);
        Edges.due("none", rakes.forget(), 0);
        rakes.tell(0, 5, true);
        Edges.due("one", rakes.forget(), 1);
        Edges.due("none any more", rakes.forget(), 0);
        Edges.due("TOLD ones", rakes.count(9), 0);
        Edges.due("KNOWN by 1", rakes.late(1, -1), -1);
        for (int i = 0; i < 21; i++) {
            rakes.tell(0, 5, true);
        }
        Edges.due("20", rakes.forget(), 20);
        Edges.due("numbers from 0 on again", rakes.tell(0, 5, false), 0);
        Edges.due("what was forgotten does not count", rakes.late(1, -1), 61);
    }

    // ---- promise 36

    private static void lateOnes() {
        Edges.sentence(36, "a WORKER and by how many minutes (0 .. 60; 0 told once, as WORKER 0 by 0; without WORKERS no way)");
        String part = "part a 0 1 9 2;";
        Edges.due("one WORKER", Edges.told(part + "worker w 0 1 1;").late(0, -1), 61);
        Edges.due("two", Edges.told(part + "worker w 0 1 1;worker u 5 1 1;").late(0, -1), 121);
        dueWays(Edges.told(part + "worker w 0 1 1;worker u 5 1 1;worker t 5 1 1;"), 181, 0, 0, 60, 60, 61, 101, 120, 160, 121, 201, 180, 260);
        TideRakes rakes = Edges.told(part + "worker w 0 1 1;worker u 5 1 1;");
        Edges.due("a DONE", rakes.send(0, 0), 2);
        // DONE from 2 and his minutes on
        rakes.tell(0, 2, true);
        dueWays(rakes, 61, 0, 0, 1, 101, 60, 160);
        rakes.forget();
        rakes.tell(0, 2, false);
        dueWays(rakes, 60, 0, 1, 59, 60);
        rakes.forget();
        rakes.tell(0, 61, false);
        dueWays(rakes, 1, 0, 60);
        rakes.forget();
        rakes.tell(0, 62, false);
        dueWays(rakes, 0);
        rakes.forget();
        rakes.tell(0, 62, true);
        dueWays(rakes, 121, 0, 0, 60, 60, 61, 101, 120, 160);
        // by the other one: DONE from 7 on
        rakes = Edges.told(part + "worker w 0 1 1;worker u 5 1 1;");
        rakes.send(1, 0);
        rakes.tell(0, 8, true);
        dueWays(rakes, 61 + 1, 0, 0, 60, 60, 61, 101);
        rakes.forget();
        rakes.tell(0, 66, false);
        dueWays(rakes, 1, 0, 160);
    }

    private static void dueWays(TideRakes rakes, int many, int... iAndWay) {
        int known = rakes.count(9);
        Edges.due("how many ways", rakes.late(known, -1), many);
        for (int i = 0; i < iAndWay.length; i += 2) {
            Edges.due("way " + iAndWay[i], rakes.late(known, iAndWay[i]), iAndWay[i + 1]);
        }
        Edges.due("not so many", rakes.late(known, many), -1);
        Edges.due("far too many", rakes.late(known, Edges.MOST), -1);
    }

    private static void everyWay() {
        Edges.sentence(36, "how many ways (i NONE), else the i-th by WORKERS, then minutes: 100 * the WORKER + how many");
        TideRakes rakes = Edges.told("part a 0 1 9 2;worker w 0 1 1;worker u 5 1 1;worker t 5 1 1;");
        Edges.due("how many", rakes.late(0, TideRakes.NONE), 181);
        Edges.dueRow("without delay", i -> rakes.late(0, i), 0);
        for (int i = 1; i <= 60; i++) {
            Edges.due("way " + i, rakes.late(0, i), i);
            Edges.due("way " + (60 + i), rakes.late(0, 60 + i), 100 + i);
            Edges.due("way " + (120 + i), rakes.late(0, 120 + i), 200 + i);
        }
        Edges.due("no more", rakes.late(0, 181), -1);
    }

    private static void lateInTheBeginning() {
        Edges.sentence(36, "he was ready later in the beginning: with all that was done by hand since the text");
        // a is FREE from 30 on: who is late by 30 at most waits for it all the same, and b follows
        TideRakes rakes = Edges.told("part a 0 5 9 2;part b 0 9 9 2;worker w 0 5 1;high=y;tide=if minute<30 then 5 else 0;");
        Edges.due("a", rakes.send(0, 0), 32);
        Edges.due("b", rakes.send(0, 1), 38);
        rakes.tell(0, 32, true);
        dueWays(rakes, 31, 0, 0, 30, 30);
        rakes.tell(1, 38, true);
        dueWays(rakes, 31, 0, 0, 30, 30);
        rakes.forget();
        rakes.tell(1, 39, true);
        rakes.tell(1, 38, false);
        dueWays(rakes, 1, 0, 31);
        Edges.due("he is ready as he was", rakes.worker(0, 2), 38);
        Edges.due("and PARTS DONE as they were", rakes.part(0, 1) + rakes.part(1, 1), 70);
    }

    private static void lateByNobody() {
        Edges.sentence(36, "without WORKERS no way");
        TideRakes rakes = Edges.told("part a 0 1 9 2;");
        dueWays(rakes, 0);
        rakes.tell(0, 5, false);
        dueWays(rakes, 0);
        dueWays(new TideRakes(), 0);
        TideRakes idle = Edges.told("part a 0 1 9 2;worker w 0 1 1;");
        idle.tell(0, 5, true);
        dueWays(idle, 0);
        Edges.due("as nothing is KNOWN", idle.late(0, -1), 61);
    }

    private static void lateInOrder() {
        Edges.sentence(36, "KNOWN by k: the first k.");
        TideRakes rakes = Edges.told("part a 0 1 9 2;worker w 0 1 1;");
        rakes.send(0, 0);
        rakes.tell(0, 12, true);
        rakes.tell(0, 6, false);
        rakes.tell(0, 8, true);
        rakes.tell(0, 8, false);
        Edges.due("by 0", rakes.late(0, -1), 61);
        Edges.due("by 1: 0 .. 10", rakes.late(1, -1), 11);
        Edges.due("by 2: 5 .. 10", rakes.late(2, -1), 6);
        Edges.due("the first", rakes.late(2, 0), 5);
        Edges.due("by 3: 5 and 6", rakes.late(3, -1), 2);
        Edges.due("the second", rakes.late(3, 1), 6);
        Edges.due("by 4: it can't be", rakes.late(4, -1), 0);
        Edges.due("by 5: no such k", rakes.late(5, -1), -1);
    }

    private static void lateThatCannot() {
        Edges.sentence(36, "told again in that order (what cannot be done then is not)");
        // a is COVERED from 10 on; from a to b he goes 8, from his place too
        String text = "part a 0 1 9 2;part b 0 9 9 2;worker w 0 1 1;tide=if minute<10 then 0 else 5;";
        TideRakes rakes = Edges.told(text);
        rakes.send(0, 0);
        Edges.due("b", rakes.send(0, 1), 12);
        // by 8: a in 10, b in 20; by 9: a can't be raked, b in 19
        rakes.tell(1, 19, true);
        rakes.tell(1, 18, false);
        dueWays(rakes, 2, 0, 7, 1, 9);
        TideRakes mended = Edges.told(text);
        mended.send(0, 0);
        mended.cross(0);
        Edges.due("a MENDED", mended.mend(0, 0), 3);
        // SEEN from 3 and his minutes on till 9; from 9 on it can't be raked, crossed or mended
        mended.tell(0, 9, true);
        dueWays(mended, 7, 0, 0, 6, 6);
        mended.forget();
        mended.tell(0, 9, false);
        dueWays(mended, 54, 0, 7, 53, 60);
        // the same of another PART
        TideRakes second = Edges.told("part z 9 1 0 1;" + text);
        second.send(0, 1);
        second.cross(1);
        Edges.due("a MENDED as the second PART", second.mend(0, 1), 3);
        second.tell(1, 9, true);
        dueWays(second, 7, 0, 0, 6, 6);
        // raked again only if it is WASHED by then: it is not if he comes ahead of the water
        TideRakes again = Edges.told("part a 0 0 9 2;worker w 0 0 1;worker u 10 0 1;high=5;"
            + "tide=if minute<10 then 0 else if minute<11 then 5 else 0;");
        again.send(0, 0);
        Edges.due("a again", again.send(1, 0), 13);
        again.tell(0, 13, true);
        // w by 9 or more is behind the water himself, and u comes to what is not WASHED: by 10 and 11 he has it in 13
        dueWays(again, 9 + 3 + 1, 0, 0, 8, 8, 9, 9, 10, 10, 11, 11, 12, 101);
    }

    private static void lateActs() {
        Edges.sentence(36, "(SENT, CROSSED, MENDED; 30 acts at most, else -2)");
        TideRakes rakes = Edges.told("part a 0 1 9 2;worker w 0 1 1;");
        rakes.send(0, 0);
        for (int i = 1; i < 30; i++) {
            Edges.due("act " + i, i % 2 == 1 ? rakes.cross(0) : rakes.mend(0, 0) > 0, true);
        }
        Edges.due("30 acts", rakes.count(6), 30);
        Edges.due("CROSSED at last: never SEEN", rakes.tell(0, 300, false), 0);
        Edges.due("late of 30", rakes.late(1, -1), 61);
        Edges.due("the last way of 30", rakes.late(1, 60), 60);
        Edges.due("what can't be done is no act", rakes.cross(0) || rakes.send(0, 0) >= 0, false);
        Edges.due("still", rakes.late(1, -1), 61);
        Edges.due("the 31st act", rakes.mend(0, 0), 17);
        Edges.due("late of 31", rakes.late(1, -1), -2);
        Edges.due("a way of 31", rakes.late(1, 0), -2);
        Edges.due("as nothing is KNOWN", rakes.late(0, -1), -2);
        Edges.due("a way that there is not", rakes.late(0, 1000), -2);
        rakes.undo();
        Edges.due("30 again", rakes.late(1, -1), 61);
        rakes.undo();
        Edges.due("29: SEEN at last", rakes.late(1, -1), 0);
    }

    private static void lateOfNone() {
        Edges.sentence(36, "-2: more than 30 acts; NONE (looked at first): no such k, i below NONE; NONE: not so many.");
        TideRakes rakes = Edges.told("part a 0 1 9 2;worker w 0 1 1;");
        rakes.tell(0, 0, false);
        dueNoLate(rakes);
        rakes.send(0, 0);
        for (int i = 0; i < 15; i++) {
            rakes.cross(0);
            rakes.mend(0, 0);
        }
        Edges.due("31 acts", rakes.late(1, -1), -2);
        dueNoLate(rakes);
    }

    private static void dueNoLate(TideRakes rakes) {
        for (int k : new int[] {-1, 2, 20, 21, Edges.LEAST, Edges.MOST}) {
            Edges.due("k " + k, rakes.late(k, -1), -1);
            Edges.due("k " + k + ", i 0", rakes.late(k, 0), -1);
        }
        for (int i : new int[] {-2, -3, Edges.LEAST}) {
            Edges.due("i " + i, rakes.late(1, i), -1);
            Edges.due("i " + i + ", k 0", rakes.late(0, i), -1);
        }
    }

    // ---- promises 37 to 39

    private static void holding() {
        Edges.sentence(37, "All that goes on (not what is TOLD, nor the tape) is held in a SLOT (0 .. 2): true");
        for (int slot = 0; slot < 3; slot++) {
            TideRakes rakes = aDay();
            Edges.due("hold " + slot, rakes.hold(slot), true);
            Edges.due("one SLOT", rakes.count(10), 1);
            for (int i = 0; i < 4; i++) {
                rakes.undo();
            }
            // acts of other kinds, WORKERS and PARTS in their places
            rakes.send(1, 1);
            rakes.send(0, 0);
            rakes.cross(1);
            rakes.mend(0, 1);
            rakes.cross(0);
            Edges.look(rakes);
            Edges.due("restore " + slot, rakes.restore(slot), true);
            // a is MENDED from 6 on, and b DONE by 14 only if w was not late
            dueWays(rakes, 61, 0, 0, 1, 101, 60, 160);
            TideRakes still = aDay();
            still.hold(slot);
            still.restore(slot);
            Edges.due("goes on as it was", Edges.look(rakes).equals(Edges.look(still)), true);
        }
        TideRakes rakes = aDay();
        rakes.hold(1);
        rakes.forget();
        rakes.tell(0, 9, true);
        Bench.feed(rakes, "abc");
        Edges.due("restore", rakes.restore(1), true);
        Edges.due("what is TOLD stays", rakes.count(9), 1);
        Edges.due("the tape stays", rakes.count(7), 3);
    }

    /** a raked, crossed, mended; b raked; two TOLD. */
    private static TideRakes aDay() {
        TideRakes rakes = Edges.told("part a 0 1 5 3;part b 9 1 7 2;worker w 0 1 1;worker u 9 1 2;");
        Edges.due("a", rakes.send(0, 0), 3);
        Edges.due("cross a", rakes.cross(0), true);
        Edges.due("mend a", rakes.mend(1, 0), 6);
        Edges.due("b", rakes.send(0, 1), 14);
        rakes.tell(0, 5, false);
        rakes.tell(1, 14, true);
        return rakes;
    }

    private static void holdOfNone() {
        Edges.sentence(37, "(0 .. 2): true; false: no such one.");
        for (int slot : new int[] {-1, 3, 4, Edges.LEAST, Edges.MOST}) {
            Edges.dueNothing("hold", ToldEdges::aDay, rakes -> Edges.due("hold " + slot, rakes.hold(slot), false));
        }
        TideRakes rakes = new TideRakes();
        Edges.dueRow("hold nothing", slot -> rakes.hold(slot) ? 1 : 0, 1, 1, 1, 0);
        Edges.due("three SLOTS", rakes.count(10), 3);
        Edges.due("the same again", rakes.hold(0), true);
        Edges.due("three SLOTS still", rakes.count(10), 3);
    }

    private static void restoring() {
        Edges.sentence(38, "It goes on from what a SLOT holds (that stays there; nothing can be undone then): true");
        TideRakes rakes = aDay();
        rakes.hold(0);
        rakes.undo();
        rakes.hold(2);
        Edges.due("restore", rakes.restore(0), true);
        Edges.due("nothing can be undone", rakes.count(8), 0);
        Edges.due("undo", rakes.undo(), false);
        Edges.due("b DONE", rakes.part(1, 1), 14);
        Edges.due("four acts", rakes.count(6), 4);
        Edges.due("cross b", rakes.cross(1), true);
        Edges.due("what came then can be undone", rakes.undo(), true);
        Edges.due("no more", rakes.undo(), false);
        rakes.cross(1);
        Edges.due("that stays there", rakes.restore(0), true);
        Edges.due("not CROSSED", rakes.part(1, 2), 0);
        Edges.due("the other SLOT", rakes.restore(2), true);
        Edges.due("b never DONE", rakes.part(1, 1), -2);
        Edges.due("three acts", rakes.count(6), 3);
        Edges.due("SLOTS", rakes.count(10), 2);
        Edges.due("b by the other one", rakes.send(1, 1), 13);
        Edges.due("held anew", rakes.hold(0), true);
        rakes.undo();
        Edges.due("what is held last", rakes.restore(0) && rakes.part(1, 5) == 1, true);
        Edges.due("plans go on from there", rakes.plan(0, 600, 1), 3);
        Edges.due("nothing to plan", rakes.plan(0, 600, 2) + rakes.hands(600, 1), 0);
        rakes.restore(2);
        Edges.due("plans with b again", rakes.plan(0, 600, 2), 2);
        Edges.due("hands with b again", rakes.hands(600, 1), 2);
    }

    private static void restoreOfNone() {
        Edges.sentence(38, "false, and nothing happens: no such one, nothing is held.");
        for (int slot : new int[] {-1, 0, 1, 2, 3, Edges.LEAST, Edges.MOST}) {
            Edges.dueNothing("restore", ToldEdges::aDay, rakes -> Edges.due("restore " + slot, rakes.restore(slot), false));
        }
        TideRakes rakes = aDay();
        rakes.hold(1);
        Edges.dueRow("only what is held", slot -> rakes.restore(slot) ? 1 : 0, 0, 1, 0, 0);
        Edges.due("a text", Bench.read(rakes, ONE), 0);
        Edges.dueRow("nothing is held behind it", slot -> rakes.restore(slot) ? 1 : 0, 0, 0, 0, 0);
    }

    private static void counting() {
        Edges.sentence(39, "0 PARTS, 1 WORKERS, 2 HOLDS' from, 3 its to, 4 PARTS that were DONE, 5 CROSSED ones, 6 acts by hand since the text,"
            + " 7 bytes on the tape, 8 things that can be undone,"
            + " 9 TOLD ones, 10 SLOTS that hold something.");
        TideRakes rakes = aDay();
        Edges.dueRow("count", rakes::count, 2, 2, 1, 600, 2, 0, 4, 0, 4, 2, 0, -1);
        rakes.cross(1);
        rakes.hold(0);
        Bench.feed(rakes, "holds 5 6;");
        Edges.dueRow("count then", rakes::count, 2, 2, 1, 600, 2, 1, 5, 10, 5, 2, 1, -1);
        rakes.send(0, 0);
        rakes.mend(0, 0);
        Edges.dueRow("count of what can't be", rakes::count, 2, 2, 1, 600, 2, 1, 5, 10, 5, 2, 1, -1);
        rakes.undo();
        rakes.undo();
        rakes.forget();
        Edges.dueRow("count of what was undone", rakes::count, 2, 2, 1, 600, 1, 0, 3, 10, 3, 0, 1, -1);
        rakes.read();
        Edges.dueRow("count of the text", rakes::count, 0, 0, 5, 6, 0, 0, 0, 0, 0, 0, 0, -1);
        TideRakes many = Edges.told(ONE);
        many.send(0, 0);
        for (int i = 0; i < 25; i++) {
            many.cross(0);
            many.mend(0, 0);
        }
        Edges.due("acts", many.count(6), 51);
        Edges.due("that can be undone", many.count(8), 40);
    }

    private static void countOfNone() {
        Edges.sentence(39, "NONE for others.");
        for (int what : new int[] {-1, 11, 12, Edges.LEAST, Edges.MOST}) {
            Edges.due("count " + what, aDay().count(what), -1);
            Edges.due("count " + what + " of nothing", new TideRakes().count(what), -1);
        }
    }
}
