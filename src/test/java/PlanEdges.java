/** Edges of what would be: promises 19 to 28. */
final class PlanEdges {
    private static final int[] NO_BOUNDS = {-1, 601, Edges.LEAST, Edges.MOST};
    private static final int[] NO_MINUTES = {-1, 600, Edges.LEAST, Edges.MOST};
    /** All at one place, FREE all day; c is worth nothing. */
    private static final String ALIKE = "part a 0 1 5 1;part b 0 1 5 1;part c 0 1 0 1;worker w 0 1 1;worker u 0 1 1;";
    private static final String ONE = "part a 0 1 5 3;worker w 0 1 1;";

    private PlanEdges() {
    }

    static void tryAll() {
        bounds();
        doneByThen();
        mostWorth();
        leastMinute();
        leastBits();
        notDone();
        emptyPlan();
        planOfNone();
        lastOnesFirst();
        promptRows();
        planAtOfNone();
        twoShared();
        twoOfNone();
        handsShared();
        handsOfNone();
        spareMinutes();
        spareOfNone();
        quickestOne();
        quickestOfNone();
        mendsLikewise();
        mendsByThen();
        mendsOfNone();
        photographAfter();
        afterOfNone();
        windows();
        windowOfNone();
        sizes();
        sizedPlaces();
        sizedMinutes();
        sizedSand();
        sizedAnew();
        largeOfNone();
    }

    // ---- promises 19 and 20

    private static void duePlan(TideRakes rakes, int worker, int b, int... want) {
        Edges.dueRow("plan of " + worker + " by " + b, what -> rakes.plan(worker, b, what), want);
    }

    private static void bounds() {
        Edges.sentence(19, "What would be (nothing happens), by minute b (0 .. 600)");
        TideRakes rakes = Edges.told(ONE);
        duePlan(rakes, 0, 0, 0, 0, 0);
        duePlan(rakes, 0, 600, 5, 3, 1);
        for (int b : NO_BOUNDS) {
            duePlan(rakes, 0, b, -1, -1, -1);
            Edges.due("planAt by " + b, rakes.planAt(0, b, 0), -1);
        }
        Edges.dueNothing("plan", () -> Edges.told(ALIKE), asked -> duePlan(asked, 0, 600, 10, 2, 3));
    }

    private static void doneByThen() {
        Edges.sentence(19, "to which he is SENT one after the other, all DONE by minute b");
        duePlan(Edges.told(ONE), 0, 3, 5, 3, 1);
        duePlan(Edges.told(ONE), 0, 2, 0, 0, 0);
        TideRakes late = Edges.told(ONE + "holds 598 600;");
        duePlan(late, 0, 600, 5, 600, 1);
        duePlan(late, 0, 599, 0, 0, 0);
        duePlan(Edges.told(ONE + "holds 599 600;"), 0, 600, 0, 0, 0);
    }

    private static void mostWorth() {
        Edges.sentence(19, "the most WORTH; of alike ones the least minute at which he is ready then, then the least bits");
        TideRakes rakes = Edges.told("part a 0 1 5 1;part b 0 1 6 9;part c 0 1 12 20;worker w 0 1 1;");
        duePlan(rakes, 0, 8, 5, 1, 1);
        duePlan(rakes, 0, 9, 6, 9, 2);
        duePlan(rakes, 0, 10, 11, 10, 3);
        duePlan(rakes, 0, 20, 12, 20, 4);
        duePlan(rakes, 0, 21, 17, 21, 5);
        duePlan(rakes, 0, 29, 18, 29, 6);
        duePlan(rakes, 0, 30, 23, 30, 7);
    }

    private static void leastMinute() {
        Edges.sentence(19, "of alike ones the least minute at which he is ready then");
        duePlan(Edges.told("part a 0 1 5 3;part b 0 1 5 2;worker w 0 1 1;"), 0, 4, 5, 2, 2);
        duePlan(Edges.told("part a 0 1 5 3;part b 0 1 5 2;worker w 0 1 1;"), 0, 5, 10, 5, 3);
        // a and b make 10 by 4, c by 3, d by 5
        duePlan(Edges.told("part a 0 1 5 2;part b 0 1 5 2;part c 0 1 10 3;part d 0 1 10 5;worker w 0 1 1;"), 0, 6, 15, 5, 5);
        duePlan(Edges.told("part a 0 1 5 2;part b 0 1 5 2;part c 0 1 10 3;part d 0 1 10 5;worker w 0 1 1;"), 0, 4, 10, 3, 4);
        duePlan(Edges.told("part a 0 1 0 1;worker w 0 1 1;"), 0, 600, 0, 0, 0);
    }

    private static void leastBits() {
        Edges.sentence(19, "then the least bits; the row");
        duePlan(Edges.told("part a 0 1 5 2;part b 0 1 5 2;worker w 0 1 1;"), 0, 3, 5, 2, 1);
        duePlan(Edges.told("part a 0 1 5 1;part b 0 1 5 1;part c 0 1 10 2;worker w 0 1 1;"), 0, 2, 10, 2, 3);
        duePlan(Edges.told("part c 0 1 10 2;part a 0 1 5 1;part b 0 1 5 1;worker w 0 1 1;"), 0, 2, 10, 2, 1);
        // z, worth nothing, could be raked while he waits for a
        String wait = "high=if x<1 then 9 else 1;tide=if minute<10 then 5 else 0;worker w 0 0 1;";
        duePlan(Edges.told("part z 0 0 0 1;part a 1 0 5 1;" + wait), 0, 600, 5, 11, 2);
        duePlan(Edges.told("part a 1 0 5 1;part z 0 0 0 1;" + wait), 0, 600, 5, 11, 1);
        duePlan(Edges.told("part z 0 0 1 1;part a 1 0 5 1;" + wait), 0, 600, 6, 11, 3);
    }

    private static void notDone() {
        Edges.sentence(19, "a row of PARTS, none of which is DONE");
        TideRakes rakes = Edges.told(ALIKE);
        rakes.send(1, 0);
        duePlan(rakes, 0, 600, 5, 1, 2);
        rakes.cross(0);
        duePlan(rakes, 0, 600, 5, 1, 2);
        rakes.send(1, 1);
        duePlan(rakes, 0, 600, 0, 0, 0);
        rakes.undo();
        duePlan(rakes, 0, 600, 5, 1, 2);
        TideRakes washed = Edges.told("high=5;tide=if minute<1 then 0 else if minute<2 then 5 else 0;part a 0 0 5 1;worker w 0 0 1;");
        Edges.due("a", washed.send(0, 0), 1);
        Edges.due("a could be raked again", washed.quickest(0, 0), 0);
        duePlan(washed, 0, 600, 0, 1, 0);
    }

    private static void emptyPlan() {
        Edges.sentence(19, "1 at which minute he is ready then, 2 the PARTS (bits); NONE: no such ones.");
        TideRakes rakes = Edges.told("part a 0 1 5 3;part b 0 1 5 3;worker w 0 1 1;");
        rakes.send(0, 0);
        duePlan(rakes, 0, 6, 5, 6, 2);
        duePlan(rakes, 0, 5, 0, 3, 0);
        duePlan(rakes, 0, 0, 0, 3, 0);
        duePlan(Edges.told("worker w 0 0 1;"), 0, 600, 0, 0, 0);
    }

    private static void planOfNone() {
        Edges.sentence(19, "PLAN: what 0 WORTH, 1 at which minute he is ready then, 2 the PARTS (bits); NONE: no such ones.");
        TideRakes rakes = Edges.told(ALIKE);
        for (int no : new int[] {-1, 2, 3, Edges.LEAST, Edges.MOST}) {
            duePlan(rakes, no, 600, -1, -1, -1);
        }
        for (int what : new int[] {-1, 3, Edges.LEAST, Edges.MOST}) {
            Edges.due("what " + what, rakes.plan(0, 600, what), -1);
            Edges.due("what " + what + " by 0", rakes.plan(0, 0, what), -1);
        }
        Edges.due("without WORKERS", Edges.told("part a 0 1 5 3;").plan(0, 600, 0), -1);
    }

    private static void dueOrder(TideRakes rakes, int b, int... want) {
        Edges.dueRow("row by " + b, i -> rakes.planAt(0, b, i), want);
    }

    private static void lastOnesFirst() {
        Edges.sentence(20, "the row: its last PART the first by numbers with which it can be so, then likewise the one ahead of it, and so on");
        dueOrder(Edges.told("part a 0 1 5 1;part b 0 1 5 1;worker w 0 1 1;"), 600, 1, 0, -2);
        dueOrder(Edges.told("part a 0 1 5 1;part b 0 1 5 1;part c 0 1 5 1;worker w 0 1 1;"), 600, 2, 1, 0, -2);
        // b can't be ahead of a: he would come too late to c; c must be the last one
        dueOrder(Edges.told("part a 1 1 5 1;part b 2 1 5 1;part c 3 1 5 1;worker w 0 1 1;"), 600, 0, 1, 2, -2);
        TideRakes rakes = Edges.told("worker w 0 1 1;" + eight());
        dueOrder(rakes, 600, 7, 6, 5, 4, 3, 2, 1, 0, -2);
        dueOrder(rakes, 8, 7, 6, 5, 4, 3, 2, 1, 0, -2);
        dueOrder(rakes, 7, 6, 5, 4, 3, 2, 1, 0, -2);
        dueOrder(rakes, 1, 0, -2);
        dueOrder(rakes, 0, -2);
    }

    /** Eight PARTS that take a minute each, all at one place. */
    private static String eight() {
        StringBuilder all = new StringBuilder();
        for (char c = 'a'; c <= 'h'; c++) {
            all.append("part p").append(c).append(" 0 1 5 1;");
        }
        return all.toString();
    }

    private static void promptRows() {
        Edges.sentence(20, "each row up to a PART DONE as soon as it can be");
        // d waits till 300, so that a, b, c have time in every order; a as the one ahead of it is soonest behind b, c
        TideRakes rakes = Edges.told("part a 30 9 1 1;part b 10 9 1 1;part c 20 9 1 1;part d 40 5 1 1;worker w 0 9 1;"
            + "tide=if minute<300 then 7 else 1;");
        duePlan(rakes, 0, 600, 4, 301, 15);
        dueOrder(rakes, 600, 1, 2, 0, 3, -2);
        // of a row that waits only its own PARTS count: a, worth nothing, is not among them
        TideRakes waiting = Edges.told("part a 30 9 0 1;part b 10 9 1 1;part c 40 5 1 1;worker w 0 9 1;tide=if minute<300 then 7 else 1;");
        duePlan(waiting, 0, 600, 2, 301, 6);
        dueOrder(waiting, 600, 1, 2, -2);
    }

    private static void planAtOfNone() {
        Edges.sentence(20, "The i-th PART of its row; -2: not so many; NONE (looked at first): no such ones, i below 0.");
        TideRakes rakes = Edges.told(ALIKE);
        dueOrder(rakes, 600, 1, 0, -2, -2);
        Edges.due("i at most", rakes.planAt(0, 600, Edges.MOST), -2);
        for (int i : new int[] {-1, -2, Edges.LEAST}) {
            Edges.due("i " + i, rakes.planAt(0, 600, i), -1);
            Edges.due("i " + i + " of an empty row", rakes.planAt(0, 0, i), -1);
        }
        Edges.due("an empty row", rakes.planAt(0, 0, 0), -2);
        for (int i : new int[] {0, 9, Edges.MOST}) {
            Edges.due("no such WORKER", rakes.planAt(2, 600, i), -1);
            Edges.due("WORKER -1", rakes.planAt(-1, 600, i), -1);
            for (int b : NO_BOUNDS) {
                Edges.due("b " + b, rakes.planAt(0, b, i), -1);
            }
        }
    }

    // ---- promises 21 and 22

    private static void dueTwo(TideRakes rakes, int b, int... want) {
        Edges.dueRow("two by " + b, what -> rakes.two(0, 1, b, what), want);
        if (want[0] >= 0) {
            Edges.due("WORTH the other way round", rakes.two(1, 0, b, 0), want[0]);
        }
    }

    private static void twoShared() {
        Edges.sentence(21, "the most WORTH together; of alike ones the least bits of the first one, then of the other one");
        TideRakes rakes = Edges.told(ALIKE);
        dueTwo(rakes, 0, 0, 0, 0);
        dueTwo(rakes, 1, 10, 1, 2);
        dueTwo(rakes, 2, 10, 0, 3);
        dueTwo(rakes, 600, 10, 0, 3);
        TideRakes three = Edges.told("part a 0 1 5 1;part b 0 1 5 1;part c 0 1 5 1;worker w 0 1 1;worker u 0 1 1;");
        dueTwo(three, 1, 10, 1, 2);
        dueTwo(three, 2, 15, 1, 6);
        dueTwo(three, 3, 15, 0, 7);
        // more WORTH goes ahead of fewer bits
        TideRakes more = Edges.told("part a 0 1 5 1;part b 0 1 6 1;worker w 0 1 1;worker u 9 1 1;");
        dueTwo(more, 1, 6, 2, 0);
        dueTwo(more, 10, 11, 1, 2);
        // u can do either by 2; w none: the least bits of the other one
        TideRakes other = Edges.told("part a 0 1 5 2;part b 0 1 5 2;worker w 99 99 1;worker u 0 1 1;");
        dueTwo(other, 2, 5, 0, 1);
        rakes.send(0, 0);
        dueTwo(rakes, 600, 5, 0, 2);
        // u is far: all by the first one; and the other way round
        TideRakes alone = Edges.told("part a 0 1 5 1;part b 0 1 5 1;worker w 0 1 1;worker u 99 99 1;");
        dueTwo(alone, 2, 10, 3, 0);
        Edges.dueRow("by the other one", what -> alone.two(1, 0, 2, what), 10, 0, 3);
        dueTwo(Edges.told("part a 0 1 1 1;worker w 99 99 1;worker u 0 1 1;"), 1, 1, 0, 1);
        dueTwo(Edges.told("part a 0 1 1 1;worker w 0 1 1;worker u 99 99 1;"), 1, 1, 1, 0);
        // w is ready behind b: his row is empty
        TideRakes busy = Edges.told("part a 0 1 5 1;part b 0 1 5 5;worker w 0 1 1;worker u 0 1 1;");
        Edges.due("w", busy.send(0, 1), 5);
        dueTwo(busy, 3, 5, 0, 1);
        Edges.dueRow("the busy one second", what -> busy.two(1, 0, 3, what), 5, 1, 0);
    }

    private static void twoOfNone() {
        Edges.sentence(21, "2 of the other one (bits); NONE: no such ones, one and the same.");
        TideRakes rakes = Edges.told(ALIKE);
        for (int no : new int[] {-1, 2, 3, Edges.LEAST, Edges.MOST}) {
            Edges.due("first " + no, rakes.two(no, 0, 600, 0), -1);
            Edges.due("other " + no, rakes.two(0, no, 600, 0), -1);
            Edges.due("both " + no, rakes.two(no, no, 600, 0), -1);
        }
        for (int what = 0; what < 3; what++) {
            Edges.due("0 and 0", rakes.two(0, 0, 600, what), -1);
            Edges.due("1 and 1", rakes.two(1, 1, 600, what), -1);
            for (int b : NO_BOUNDS) {
                Edges.due("b " + b, rakes.two(0, 1, b, what), -1);
            }
        }
        for (int what : new int[] {-1, 3, Edges.LEAST, Edges.MOST}) {
            Edges.due("what " + what, rakes.two(0, 1, 600, what), -1);
        }
        Edges.due("a WORKER alone", Edges.told(ONE).two(0, 1, 600, 0), -1);
    }

    private static void dueHands(TideRakes rakes, int b, int... want) {
        Edges.dueRow("hands by " + b, what -> rakes.hands(b, what), want);
    }

    private static void handsShared() {
        Edges.sentence(22, "the most WORTH, and all these PARTS: of alike ones the least bits");
        String three = "part a 0 1 5 1;part b 0 1 5 1;part c 0 1 5 1;part d 0 1 10 2;";
        TideRakes two = Edges.told(three + "worker w 0 1 1;worker u 0 1 1;");
        dueHands(two, 0, 0, 0);
        dueHands(two, 1, 10, 3);
        dueHands(two, 2, 20, 11);
        dueHands(two, 3, 25, 15);
        TideRakes all = Edges.told(three + "worker w 0 1 1;worker u 0 1 1;worker t 0 1 1;");
        dueHands(all, 1, 15, 7);
        dueHands(all, 2, 25, 15);
        dueHands(Edges.told(three + "worker w 0 1 1;"), 1, 5, 1);
        dueHands(Edges.told(three + "worker w 0 1 1;"), 2, 10, 3);
        dueHands(Edges.told("part z 0 1 0 1;part a 0 1 1 1;worker w 0 1 1;"), 600, 1, 2);
        TideRakes done = Edges.told(ALIKE);
        dueHands(done, 1, 10, 3);
        done.send(1, 0);
        dueHands(done, 1, 5, 2);
        dueHands(done, 600, 5, 2);
        done.undo();
        dueHands(done, 600, 10, 3);
        TideRakes busy = Edges.told("part a 0 1 5 1;part b 0 1 5 5;worker w 0 1 1;worker u 0 1 1;");
        busy.send(0, 1);
        dueHands(busy, 3, 5, 1);
        TideRakes most = Edges.told(eight() + "worker w 0 1 1;worker u 0 1 1;worker t 0 1 1;");
        dueHands(most, 1, 15, 7);
        dueHands(most, 2, 30, 63);
        dueHands(most, 3, 40, 255);
        dueTwo(most, 2, 20, 3, 12);
        dueTwo(most, 8, 40, 0, 255);
        dueQuickest(most, 0, 1);
        TideRakes late = Edges.told(ONE + "holds 598 600;");
        dueHands(late, 600, 5, 1);
        dueHands(late, 599, 0, 0);
    }

    private static void handsOfNone() {
        Edges.sentence(22, "HANDS: what 0 WORTH, 1 the PARTS (bits); NONE: no such ones.");
        TideRakes rakes = Edges.told(ALIKE);
        for (int b : NO_BOUNDS) {
            dueHands(rakes, b, -1, -1);
        }
        for (int what : new int[] {-1, 2, Edges.LEAST, Edges.MOST}) {
            Edges.due("what " + what, rakes.hands(600, what), -1);
        }
        dueHands(Edges.told("part a 0 1 5 3;"), 600, 0, 0);
        dueHands(Edges.told("worker w 0 1 1;"), 600, 0, 0);
        dueHands(new TideRakes(), 0, 0, 0);
    }

    // ---- promises 23 and 24

    private static void spareMinutes() {
        Edges.sentence(23, "the greatest number of minutes (0 .. 599) by which he could be ready later than he is, so that his PLAN has as much WORTH");
        TideRakes rakes = Edges.told(ONE);
        Edges.due("by 600", rakes.spare(0, 600), 597);
        Edges.due("by 4", rakes.spare(0, 4), 1);
        Edges.due("by 3", rakes.spare(0, 3), 0);
        Edges.due("by 2: nothing to lose", rakes.spare(0, 2), 599);
        Edges.due("by 0", rakes.spare(0, 0), 599);
        Edges.due("a minute at the day's end", Edges.told("part a 0 1 5 1;worker w 0 1 1;").spare(0, 600), 599);
        Edges.due("without PARTS", Edges.told("worker w 0 1 1;").spare(0, 600), 599);
        Edges.due("worth nothing", Edges.told("part a 0 1 0 9;worker w 0 1 1;").spare(0, 600), 599);
        // it HOLDS in 2, 3, 4
        Edges.due("till it HOLDS no more", Edges.told("part a 0 1 5 1;worker w 0 1 1;holds 3 5;").spare(0, 600), 4);
        TideRakes later = Edges.told("part a 0 1 5 3;part b 0 1 5 3;worker w 0 1 1;");
        later.send(0, 0);
        Edges.due("than he is", later.spare(0, 600), 594);
        Edges.due("than he is, by 6", later.spare(0, 6), 0);
        Edges.due("worth 1", Edges.told("part a 0 1 1 3;worker w 0 1 1;").spare(0, 600), 597);
        // a way of 4 minutes by 3 a minute
        Edges.due("with a way", Edges.told("part a 10 1 5 3;worker w 0 1 3;").spare(0, 600), 593);
        // by 7 he does a or b, each worth 5, and b takes less
        Edges.due("by another row", Edges.told("part a 0 1 5 6;part b 0 1 5 2;worker w 0 1 1;").spare(0, 7), 5);
    }

    private static void spareOfNone() {
        Edges.sentence(23, "SPARE; NONE: no such ones.");
        TideRakes rakes = Edges.told(ALIKE);
        for (int no : new int[] {-1, 2, 3, Edges.LEAST, Edges.MOST}) {
            Edges.due("worker " + no, rakes.spare(no, 600), -1);
        }
        for (int b : NO_BOUNDS) {
            Edges.due("b " + b, rakes.spare(0, b), -1);
        }
    }

    private static void dueQuickest(TideRakes rakes, int part, int done) {
        Edges.due("quickest", rakes.quickest(0, 0), part);
        Edges.due("quickest: DONE", rakes.quickest(0, 1), done);
    }

    private static void quickestOne() {
        Edges.sentence(24, "the PART that would be DONE soonest if he were SENT there now; of alike ones the first");
        dueQuickest(Edges.told("part a 3 1 1 2;part b 0 1 1 5;part c 4 1 1 1;worker w 0 1 1;"), 0, 5);
        dueQuickest(Edges.told("part a 3 1 1 3;part b 0 1 1 5;part c 4 1 1 1;worker w 0 1 1;"), 1, 5);
        dueQuickest(Edges.told("part a 3 1 1 3;part b 0 1 1 6;part c 4 1 0 1;worker w 0 1 1;"), 2, 5);
        TideRakes rakes = Edges.told("part a 0 1 1 2;part b 1 1 1 2;worker w 0 1 1;");
        rakes.send(0, 0);
        dueQuickest(rakes, 1, 5);
        dueQuickest(Edges.told("part a 0 1 1 1;worker w 0 1 1;holds 600 600;"), 0, 600);
    }

    private static void quickestOfNone() {
        Edges.sentence(24, "1 from which minute it would be DONE; -2: none; NONE: no such ones.");
        dueQuickest(Edges.told("worker w 0 1 1;"), -2, -2);
        dueQuickest(Edges.told("part a 0 0 1 1;worker w 0 1 1;"), -2, -2);
        TideRakes rakes = Edges.told(ONE);
        rakes.send(0, 0);
        dueQuickest(rakes, -2, -2);
        TideRakes washed = Edges.told("high=5;tide=if minute<1 then 0 else if minute<2 then 5 else 0;part a 0 0 5 1;worker w 0 0 1;");
        washed.send(0, 0);
        dueQuickest(washed, 0, 3);
        TideRakes asked = Edges.told(ALIKE);
        for (int no : new int[] {-1, 2, 3, Edges.LEAST, Edges.MOST}) {
            Edges.due("worker " + no, asked.quickest(no, 0), -1);
            Edges.due("what " + no, asked.quickest(0, no), -1);
        }
        Edges.due("without WORKERS", Edges.told("part a 0 1 1 1;").quickest(0, 0), -1);
    }

    // ---- promises 25 and 26

    private static void dueMends(TideRakes rakes, int worker, int b, int... want) {
        Edges.dueRow("mends of " + worker + " by " + b, what -> rakes.mends(worker, b, what), want);
    }

    /** All raked by w, who is there, and CROSSED. */
    private static TideRakes crossed(String text, int parts) {
        TideRakes rakes = Edges.told(text);
        for (int part = 0; part < parts; part++) {
            rakes.send(0, part);
            Edges.due("cross", rakes.cross(part), true);
        }
        return rakes;
    }

    private static void mendsLikewise() {
        Edges.sentence(25, "MENDS of a WORKER likewise: a row of CROSSED PARTS that he goes to MEND one after the other");
        TideRakes rakes = crossed("part a 0 1 5 3;part b 0 1 5 2;part c 0 1 0 3;part d 0 1 9 3;worker w 0 1 1;worker u 0 1 1;", 3);
        dueMends(rakes, 1, 0, 0, 0, 0);
        dueMends(rakes, 1, 1, 5, 1, 1);
        dueMends(rakes, 1, 2, 10, 2, 3);
        dueMends(rakes, 1, 600, 10, 2, 3);
        // a takes 2, b 1
        TideRakes sooner = crossed("part a 0 1 5 6;part b 0 1 5 3;worker w 0 1 1;worker u 0 1 1;", 2);
        dueMends(sooner, 1, 2, 5, 1, 2);
        dueMends(sooner, 1, 3, 10, 3, 3);
        Edges.due("a is MENDED", sooner.mend(0, 0), 11);
        dueMends(sooner, 1, 600, 5, 1, 2);
        Edges.dueNothing("mends", () -> crossed("part a 0 1 5 3;worker w 0 1 1;", 1), asked -> dueMends(asked, 0, 600, 5, 4, 1));
        dueMends(Edges.told(ALIKE), 0, 600, 0, 0, 0);
    }

    private static void mendsByThen() {
        Edges.sentence(25, "all MENDED by minute b");
        // w is ready at 3; a takes 1
        TideRakes rakes = crossed("part a 0 1 5 3;worker w 0 1 1;", 1);
        dueMends(rakes, 0, 4, 5, 4, 1);
        dueMends(rakes, 0, 3, 0, 3, 0);
        dueMends(rakes, 0, 0, 0, 3, 0);
        TideRakes late = Edges.told("part a 0 1 1 1;part b 99 97 1 12;worker w 0 1 1;worker u 0 1 1;holds 401 600;");
        late.send(0, 0);
        late.send(1, 1);
        late.cross(1);
        dueMends(late, 0, 600, 1, 600, 2);
        dueMends(late, 0, 599, 0, 401, 0);
        TideRakes later = Edges.told("part a 0 1 1 1;part b 99 98 1 12;worker w 0 1 1;worker u 0 1 1;holds 401 600;");
        later.send(0, 0);
        later.send(1, 1);
        later.cross(1);
        dueMends(later, 0, 600, 0, 401, 0);
    }

    private static void mendsOfNone() {
        Edges.sentence(25, "MENDS: what 0 WORTH, 1 at which minute he is ready then, 2 the PARTS (bits); NONE: no such ones.");
        TideRakes rakes = crossed("part a 0 1 5 3;worker w 0 1 1;", 1);
        for (int no : new int[] {-1, 1, 3, Edges.LEAST, Edges.MOST}) {
            dueMends(rakes, no, 600, -1, -1, -1);
        }
        for (int b : NO_BOUNDS) {
            dueMends(rakes, 0, b, -1, -1, -1);
        }
        for (int what : new int[] {-1, 3, Edges.LEAST, Edges.MOST}) {
            Edges.due("what " + what, rakes.mends(0, 600, what), -1);
        }
    }

    private static void photographAfter() {
        Edges.sentence(26, "AFTER: what a PHOTOGRAPH in a minute would be worth if he were SENT by the row of his PLAN by b.");
        TideRakes rakes = Edges.told(ONE + "part b 9 1 7 2;worker u 9 1 1;");
        Edges.due("ahead of DONE", rakes.after(0, 3, 2), 0);
        Edges.due("DONE", rakes.after(0, 3, 3), 500);
        Edges.due("not by 2", rakes.after(0, 2, 3), 0);
        Edges.due("by 0", rakes.after(0, 0, 599), 0);
        Edges.due("the last minute", rakes.after(0, 600, 599), 1200);
        Edges.due("b by u", rakes.send(1, 1), 2);
        Edges.due("what is there, too", rakes.after(0, 3, 3), 1200);
        Edges.due("what is there by 0", rakes.after(0, 0, 2), 700);
        rakes.cross(1);
        Edges.due("but what is CROSSED", rakes.after(0, 3, 3), 500);
        // b in 11, c in 22, a in 33, d in 301
        TideRakes four = Edges.told("part a 30 9 1 1;part b 10 9 2 1;part c 20 9 4 1;part d 40 5 8 1;worker w 0 9 1;"
            + "tide=if minute<300 then 7 else 1;");
        int[][] rows = {{10, 0}, {11, 2}, {21, 2}, {22, 6}, {32, 6}, {33, 7}, {300, 7}, {301, 15}};
        for (int[] row : rows) {
            Edges.due("of four in " + row[0], four.after(0, 600, row[0]), 100 * row[1]);
        }
        TideRakes sunny = Edges.told(ONE + "sun=if minute<4 then 0 else minute*3;");
        Edges.due("without SUN", sunny.after(0, 600, 3), 0);
        Edges.due("times SUN of that minute", sunny.after(0, 600, 4), 5 * 12);
        Edges.due("times the most SUN", sunny.after(0, 600, 599), 5 * 100);
        TideRakes waves = Edges.told("part a 0 0 5 2;worker w 0 0 1;high=5;tide=if minute<4 then 0 else if minute<5 then 5 else 0;");
        Edges.due("ahead of the water", waves.after(0, 600, 3), 500);
        Edges.due("WASHED", waves.after(0, 600, 4), 0);
        Edges.due("from then on", waves.after(0, 600, 5), 0);
        Edges.dueNothing("after", () -> Edges.told(ONE), asked -> Edges.due("after", asked.after(0, 600, 3), 500));
    }

    private static void afterOfNone() {
        Edges.sentence(26, "AFTER; NONE: no such ones.");
        TideRakes rakes = Edges.told(ONE);
        for (int no : new int[] {-1, 1, 3, Edges.LEAST, Edges.MOST}) {
            Edges.due("worker " + no, rakes.after(no, 600, 0), -1);
        }
        for (int b : NO_BOUNDS) {
            Edges.due("b " + b, rakes.after(0, b, 0), -1);
        }
        for (int minute : NO_MINUTES) {
            Edges.due("minute " + minute, rakes.after(0, 600, minute), -1);
        }
    }

    // ---- promise 27

    /** COVERED in minutes 3 and 6 alone. */
    private static TideRakes waves(String holds) {
        return Edges.told("part a 0 0 1 1;high=10;tide=if minute<3 then 9 else if minute<4 then 10 else if minute<6 then 9 else if minute<7"
            + " then 11 else 9;" + holds);
    }

    private static void dueWindows(String holds, int... ends) {
        TideRakes rakes = waves(holds);
        Edges.due(holds + " how many", rakes.window(0, -1, false), ends.length / 2);
        Edges.due(holds + " how many, last", rakes.window(0, -1, true), ends.length / 2);
        for (int i = 0; i < ends.length; i++) {
            Edges.due(holds + " window " + i / 2, rakes.window(0, i / 2, i % 2 == 1), ends[i]);
        }
        Edges.due(holds + " no more", rakes.window(0, ends.length / 2, false), -1);
        Edges.due(holds + " no more, last", rakes.window(0, ends.length / 2, true), -1);
    }

    private static void windows() {
        Edges.sentence(27, "WINDOWS of a PART: runs of minutes in which it HOLDS, from minute 0 on.");
        dueWindows("", 0, 2, 4, 5, 7, 599);
        dueWindows("holds 2 2;", 1, 1, 5, 5, 8, 8);
        dueWindows("holds 2 3;", 1, 2, 5, 5, 8, 9);
        dueWindows("holds 1 1;", 0, 0, 4, 4, 7, 7);
        dueWindows("holds 3 600;", 2, 2, 9, 599);
        dueWindows("holds 593 600;", 599, 599);
        dueWindows("holds 594 600;");
        dueWindows("holds 3 2;");
    }

    private static void windowOfNone() {
        Edges.sentence(27, "how many (i NONE), else the i-th's first minute (last: the last one); NONE: no such ones, not so many.");
        TideRakes rakes = waves("");
        for (int i : new int[] {-2, -3, 3, 600, Edges.LEAST, Edges.MOST}) {
            Edges.due("i " + i, rakes.window(0, i, false), -1);
            Edges.due("i " + i + ", last", rakes.window(0, i, true), -1);
        }
        for (int part : new int[] {-1, 1, 8, Edges.LEAST, Edges.MOST}) {
            Edges.due("part " + part, rakes.window(part, 0, false), -1);
            Edges.due("part " + part + ", how many", rakes.window(part, -1, false), -1);
        }
        Edges.due("COVERED all day: none", Edges.told("part a 0 0 1 1;").window(0, -1, false), 0);
    }

    // ---- promise 28

    private static void sizes() {
        Edges.sentence(28, "the greatest k (1 .. 16; 0 if by none) with which all WORKERS");
        // k to go, k minutes to rake
        TideRakes rakes = Edges.told("part a 4 1 1 4;worker w 0 1 1;peg 0 1;");
        for (int k = 0; k <= 16; k++) {
            Edges.due("by " + 2 * k, rakes.large(2 * k), k);
            Edges.due("by " + (2 * k + 1), rakes.large(2 * k + 1), k);
        }
        Edges.due("by 600", rakes.large(600), 16);
        Edges.due("without PARTS", Edges.told("worker w 0 1 1;").large(0), 16);
        Edges.due("without WORKERS", Edges.told("part a 4 1 1 4;").large(600), 0);
        Edges.due("neither", new TideRakes().large(0), 16);
        Edges.due("COVERED all day", Edges.told("part a 0 0 1 4;worker w 0 0 1;").large(600), 0);
        Edges.due("what is worth nothing, too", Edges.told("part a 0 1 0 4;worker w 0 1 1;peg 0 1;").large(3), 3);
    }

    private static void sizedPlaces() {
        Edges.sentence(28, "if each PART were at the PEG's place and k quarters of how far it is from it by x, by y (rounded towards 0)");
        // by x 7 to the left: 1, 3, 5, 7, 8 of it; a minute to rake, 2 from the fifth quarter on
        TideRakes left = Edges.told("part a 3 0 1 1;worker w 10 0 1;peg 10 0;high=1;");
        dueLarge(left, 1, 0, 2, 1, 3, 1, 4, 2, 6, 3, 8, 4, 9, 4, 10, 5);
        TideRakes right = Edges.told("part a 17 0 1 1;worker w 10 0 1;peg 10 0;high=1;");
        dueLarge(right, 1, 0, 2, 1, 3, 1, 4, 2, 6, 3, 8, 4, 9, 4, 10, 5);
        TideRakes up = Edges.told("part a 0 3 1 1;worker w 0 10 1;peg 0 10;high=1;");
        dueLarge(up, 1, 0, 2, 1, 3, 1, 4, 2, 6, 3, 8, 4, 9, 4, 10, 5);
        // beyond the greatest place: 371 and 396 to go by 20, 4 minutes each
        dueLarge(Edges.told("part a 99 0 1 1;worker w 0 0 20;high=1;"), 22, 14, 23, 15, 24, 16);
        dueLarge(Edges.told("part a 0 0 1 1;worker w 99 0 20;peg 99 0;high=1;"), 22, 14, 23, 15, 24, 16);
        dueLarge(Edges.told("part a 0 99 1 1;worker w 0 0 20;high=1;"), 22, 14, 23, 15, 24, 16);
    }

    private static void dueLarge(TideRakes rakes, int... pairs) {
        for (int i = 0; i < pairs.length; i += 2) {
            Edges.due("large by " + pairs[i], rakes.large(pairs[i]), pairs[i + 1]);
        }
    }

    private static void sizedMinutes() {
        Edges.sentence(28, "took k quarters of its MINUTES (rounded up)");
        dueLarge(Edges.told("part a 0 1 1 1;worker w 0 1 1;peg 0 1;"), 0, 0, 1, 4, 2, 8, 3, 12, 4, 16);
        dueLarge(Edges.told("part a 0 1 1 3;worker w 0 1 1;peg 0 1;"), 0, 0, 1, 1, 2, 2, 3, 4, 4, 5, 5, 6, 6, 8, 12, 16);
        dueLarge(Edges.told("part a 0 1 1 60;worker w 0 1 1;peg 0 1;"), 14, 0, 15, 1, 239, 15, 240, 16);
        dueLarge(Edges.told("part a 0 1 1 60;worker w 0 1 1;peg 0 1;holds 1 240;"), 600, 16);
        dueLarge(Edges.told("part a 0 1 1 60;worker w 0 1 1;peg 0 1;holds 1 239;"), 600, 15);
    }

    private static void sizedSand() {
        Edges.sentence(28, "as HIGH as that place is");
        // by k quarters at x = k
        String text = "part a 4 0 1 1;worker w 0 0 20;high=";
        Edges.due("HIGH at 9 at most", Edges.told(text + "if x<10 then 1 else 0;").large(600), 9);
        Edges.due("HIGH at 16", Edges.told(text + "if x<16 then 0 else 1;").large(600), 16);
        Edges.due("HIGH at 17", Edges.told(text + "if x<17 then 0 else 1;").large(600), 0);
        Edges.due("below 0", Edges.told("part a 0 0 1 1;worker w 4 0 20;peg 4 0;high=if x<0 then 0 else 1;").large(600), 4);
        Edges.due("by y", Edges.told("part a 0 4 1 1;worker w 0 0 20;high=if y<6 then 1 else 0;").large(600), 5);
    }

    private static void sizedAnew() {
        Edges.sentence(28, "at their places from minute 0 on, nothing being raked, could have all PARTS DONE by b (shared as for HANDS)");
        TideRakes rakes = Edges.told("part a 0 1 5 4;part b 0 1 0 4;worker w 0 1 1;worker u 0 1 1;worker t 99 1 1;peg 0 1;");
        Edges.due("shared by two", rakes.large(4), 4);
        Edges.due("a fifth quarter", rakes.large(5), 5);
        rakes.send(0, 0);
        rakes.send(0, 1);
        rakes.cross(1);
        Edges.due("as if nothing was raked", rakes.large(4), 4);
        Edges.due("a text of one WORKER", Bench.read(rakes, "part a 0 1 5 4;part b 0 1 0 4;worker w 0 1 1;peg 0 1;"), 0);
        Edges.due("one does both", rakes.large(4), 2);
        Edges.due("eight PARTS by three WORKERS", Edges.told(eight() + "worker w 0 1 1;worker u 0 1 1;worker t 0 1 1;peg 0 1;").large(6), 8);
        Edges.due("eight PARTS by one", Edges.told(eight() + "worker w 0 1 1;peg 0 1;").large(16), 8);
        TideRakes three = Edges.told("part a 0 1 5 4;part b 0 1 0 4;part c 0 1 1 4;worker w 0 1 1;worker u 0 1 1;worker t 0 1 1;peg 0 1;");
        Edges.due("shared by three", three.large(4), 4);
    }

    private static void largeOfNone() {
        Edges.sentence(28, "LARGE; NONE: no such b.");
        TideRakes rakes = Edges.told(ONE);
        for (int b : NO_BOUNDS) {
            Edges.due("b " + b, rakes.large(b), -1);
            Edges.due("b " + b + " of nothing", new TideRakes().large(b), -1);
        }
        Edges.due("by 0", rakes.large(0), 0);
        TideRakes late = Edges.told("part a 0 1 5 4;worker w 0 1 1;holds 600 600;peg 0 1;");
        Edges.due("by 600", late.large(600), 1);
        Edges.due("by 599", late.large(599), 0);
    }
}
