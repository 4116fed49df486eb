import java.util.LinkedHashMap;
import java.util.Map;

/** The last of eight PARTS and of three WORKERS answers like the only ones of a text: promises 6 to 38. */
final class LastEdges {
    /** The PART h is COVERED in 10 and 11 and HOLDS in 1 .. 9 and 13 .. 61; the way to it takes 3 minutes. */
    private static final String SHORE = "high=y;tide=if minute<10 then 0 else if minute<12 then 30 else 0;sun=minute;"
        + "dog=if minute<40 then 0 else x*2+y;holds 2 50;peg 41 20;slip=far*9;";
    private static final String LAST = "part h 40 20 9 4;worker w 40 14 2;";
    /** The first PART, worth nothing, is far away; those in between are COVERED all day. */
    private static final String OTHERS = "part a 90 90 0 5;part b 0 0 7 1;part c 0 0 7 1;part d 0 0 7 1;part e 0 0 7 1;part f 0 0 7 1;"
        + "part g 0 0 7 1;worker u 99 99 1;worker v 0 99 1;";
    private static final int PART = 7;
    private static final int WORKER = 2;
    private static final int STEPS = 12;
    /** Those of a PART or a WORKER by its number. */
    private static final int[] PROMISES = {6, 7, 9, 10, 11, 12, 13, 14, 15, 16, 17, 18, 19, 20, 22, 23, 24, 25, 26, 27, 29, 30, 31, 32, 33, 36, 37, 38};
    private static final int[] MINUTES = {0, 1, 6, 7, 8, 9, 10, 11, 12, 13, 17, 18, 39, 40, 599};
    private static final int[] BOUNDS = {0, 6, 7, 9, 16, 17, 19, 600};

    private LastEdges() {
    }

    static void tryAll() {
        for (int steps = 0; steps <= STEPS; steps++) {
            for (int ahead = 0; ahead <= 3; ahead++) {
                for (int promise : PROMISES) {
                    Edges.sentence(promise, "numbered each from 0 on as they stand");
                    dueAlike(promise, steps, ahead);
                }
            }
        }
        sharedByPlace();
        waysBetween();
        sizesOfEach();
    }

    private static void dueAlike(int promise, int steps, int ahead) {
        TideRakes only = Edges.told(SHORE + LAST);
        TideRakes last = Edges.told(SHORE + OTHERS + LAST);
        prepare(last, ahead);
        for (int step = 1; step <= steps; step++) {
            Edges.due("step " + step, take(last, step, WORKER, PART), take(only, step, 0, 0));
        }
        Map<String, Integer> want = asked(promise, only, 0, 0);
        Map<String, Integer> got = asked(promise, last, WORKER, PART);
        for (Map.Entry<String, Integer> one : want.entrySet()) {
            Edges.due(one.getKey() + " behind " + steps + " steps, " + ahead + " ahead", got.get(one.getKey()), one.getValue());
        }
    }

    /** What is done with the first PART by the first WORKER. */
    private static void prepare(TideRakes rakes, int ahead) {
        if (ahead > 0) {
            Edges.due("a", rakes.send(0, 0), 23);
        }
        if (ahead > 1) {
            Edges.due("cross a", rakes.cross(0), true);
        }
        if (ahead > 2) {
            Edges.due("mend a", rakes.mend(0, 0), 25);
        }
    }

    private static int take(TideRakes rakes, int step, int worker, int part) {
        switch (step) {
            case 1:
                return rakes.send(worker, part);
            case 2:
            case 8:
                return rakes.cross(part) ? 1 : 0;
            case 3:
                return rakes.hold(1) ? 1 : 0;
            case 4:
            case 6:
            case 9:
                return rakes.mend(worker, part);
            case 5:
                return rakes.undo() ? 1 : 0;
            case 7:
                // what was held is CROSSED; MENDED again from there
                return rakes.restore(1) && rakes.mend(worker, part) > 0 ? 1 : 0;
            case 10:
                return rakes.send(worker, part);
            case 11:
                return rakes.undo() ? 1 : 0;
            default:
                return rakes.hold(2) && rakes.cross(part) && rakes.restore(2) ? 1 : 0;
        }
    }

    /** The answers of the calls of a promise, with the numbers as if these were the only ones. */
    private static Map<String, Integer> asked(int promise, TideRakes rakes, int worker, int part) {
        Map<String, Integer> all = new LinkedHashMap<>();
        if (promise < 19) {
            askNow(all, promise, rakes, worker, part);
        } else if (promise < 27) {
            askPlans(all, promise, rakes, worker, part);
        } else {
            askMore(all, promise, rakes, worker, part);
        }
        return all;
    }

    private static int less(int number, int by) {
        return number < 0 ? number : number - by;
    }

    private static void askNow(Map<String, Integer> all, int promise, TideRakes rakes, int worker, int part) {
        if (promise == 6) {
            for (int what = 0; what < 5; what++) {
                all.put("part " + what, rakes.part(part, what));
            }
            all.put("by whom", less(rakes.part(part, 5), worker));
        } else if (promise == 7) {
            for (int what = 0; what < 5; what++) {
                all.put("worker " + what, rakes.worker(worker, what));
            }
        } else if (promise == 11) {
            all.put("send", rakes.send(worker, part));
            all.put("DONE", rakes.part(part, 1));
        } else if (promise == 12) {
            all.put("cross", rakes.cross(part) ? 1 : 0);
            all.put("CROSSED", rakes.part(part, 2));
        } else if (promise == 13) {
            all.put("mend", rakes.mend(worker, part));
            all.put("CROSSED", rakes.part(part, 2));
        } else if (promise == 14) {
            all.put("seen ahead of it", rakes.seen(11) >> part);
            all.put("DONE", rakes.part(part, 1));
            rakes.send(worker, part);
            rakes.cross(part);
            rakes.mend(worker, part);
            rakes.undo();
            all.put("CROSSED", rakes.part(part, 2));
            all.put("ready", rakes.worker(worker, 2));
            rakes.undo();
            all.put("CROSSED a step back", rakes.part(part, 2));
            all.put("seen a step back", rakes.seen(9) >> part);
        }
        for (int minute : MINUTES) {
            if (promise == 9) {
                all.put("free in " + minute, rakes.free(part, minute));
            } else if (promise == 10) {
                all.put("when from " + minute, rakes.when(part, minute));
            } else if (promise == 15) {
                all.put("seen in " + minute, rakes.seen(minute) >> part);
            } else if (promise == 16) {
                all.put("photo in " + minute, rakes.photo(minute));
            } else if (promise == 18) {
                all.put("stays from " + minute, rakes.stays(part, minute));
            }
        }
        if (promise == 17) {
            all.put("best minute", rakes.bestMinute());
        }
    }

    private static void askPlans(Map<String, Integer> all, int promise, TideRakes rakes, int worker, int part) {
        for (int b : BOUNDS) {
            if (promise == 19) {
                all.put("WORTH by " + b, rakes.plan(worker, b, 0));
                all.put("ready by " + b, rakes.plan(worker, b, 1));
                all.put("bits by " + b, rakes.plan(worker, b, 2) >> part);
            } else if (promise == 20) {
                all.put("the first by " + b, less(rakes.planAt(worker, b, 0), part));
                all.put("the second by " + b, less(rakes.planAt(worker, b, 1), part));
            } else if (promise == 22) {
                all.put("hands by " + b, rakes.hands(b, 0));
                all.put("hands' bits by " + b, rakes.hands(b, 1) >> part);
            } else if (promise == 23) {
                all.put("spare by " + b, rakes.spare(worker, b));
            } else if (promise == 25) {
                all.put("WORTH of mends by " + b, rakes.mends(worker, b, 0));
                all.put("ready behind mends by " + b, rakes.mends(worker, b, 1));
                all.put("bits of mends by " + b, rakes.mends(worker, b, 2) >> part);
            } else if (promise == 26) {
                for (int minute : MINUTES) {
                    all.put("after " + b + " in " + minute, rakes.after(worker, b, minute));
                }
            }
        }
        if (promise == 24) {
            all.put("quickest", less(rakes.quickest(worker, 0), part));
            all.put("quickest: DONE", rakes.quickest(worker, 1));
        }
    }

    private static void askMore(Map<String, Integer> all, int promise, TideRakes rakes, int worker, int part) {
        for (int i = -1; i < 4 && promise == 27; i++) {
            all.put("window " + i, rakes.window(part, i, false));
            all.put("window " + i + ", last", rakes.window(part, i, true));
        }
        for (int minute : MINUTES) {
            if (promise == 29) {
                all.put("hopes in " + minute, rakes.hopes(minute, 9 * minute, 5));
                all.put("no hopes in " + minute, rakes.hopes(minute, 9 * minute + 1, 5));
            } else if (promise == 30) {
                all.put("hope in " + minute, rakes.hope(minute, 5));
            } else if (promise == 31) {
                all.put("dog in " + minute, rakes.dog(part, minute));
            }
        }
        if (promise == 32) {
            all.put("ERROR", rakes.error(part, false));
            all.put("FROM", rakes.error(part, true));
        } else if (promise == 33) {
            all.put("fails 8", rakes.fails(8) >> part);
            all.put("fails 9", rakes.fails(9) >> part);
        } else if (promise == 36) {
            // what is not so without a delay: only by a delay of this WORKER it can be
            rakes.tell(part, 8, rakes.seen(8) >> part == 0);
            rakes.tell(part, 20, rakes.seen(20) >> part == 1);
            for (int k = 1; k <= 2; k++) {
                int ways = rakes.late(k, -1);
                all.put("late by " + k, ways);
                for (int i = 0; i < ways; i++) {
                    all.put("way " + i + " by " + k, less(rakes.late(k, i), 100 * worker));
                }
            }
        } else if (promise > 36) {
            rakes.hold(0);
            rakes.send(worker, part);
            rakes.cross(part);
            rakes.mend(worker, part);
            all.put("restore", rakes.restore(0) ? 1 : 0);
            askNow(all, 6, rakes, worker, part);
            askNow(all, 7, rakes, worker, part);
            askNow(all, 15, rakes, worker, part);
        }
    }

    /** Each WORKER has one PART near him: the numbers go crosswise. */
    private static void sharedByPlace() {
        TideRakes rakes = Edges.told("part a 80 1 5 2;part b 40 1 6 3;part c 0 1 7 4;worker u 0 1 1;worker v 40 1 1;worker w 80 1 1;");
        Edges.sentence(21, "PARTS shared by two WORKERS, each by a row likewise");
        int[][] pairs = {{0, 1, 13, 4, 2}, {1, 0, 13, 2, 4}, {0, 2, 12, 4, 1}, {2, 0, 12, 1, 4}, {1, 2, 11, 2, 1}, {2, 1, 11, 1, 2}};
        for (int[] pair : pairs) {
            Edges.dueRow("two " + pair[0] + " " + pair[1], what -> rakes.two(pair[0], pair[1], 4, what), pair[2], pair[3], pair[4]);
        }
        Edges.sentence(22, "PARTS shared by all WORKERS likewise");
        int[][] rows = {{1, 0, 0}, {2, 5, 1}, {3, 11, 3}, {4, 18, 7}};
        for (int[] row : rows) {
            Edges.dueRow("hands by " + row[0], what -> rakes.hands(row[0], what), row[1], row[2]);
        }
        Edges.sentence(19, "PLAN of a WORKER");
        for (int worker = 0; worker < 3; worker++) {
            int only = worker;
            Edges.dueRow("plan of " + worker, what -> rakes.plan(only, 4, what), 7 - worker, 4 - worker, 4 >> worker);
            Edges.due("its row", rakes.planAt(worker, 4, 0), 2 - worker);
            Edges.due("spare of " + worker, rakes.spare(worker, 4), worker);
            Edges.due("quickest of " + worker, rakes.quickest(worker, 0), 2 - worker);
            Edges.due("after the plan of " + worker, rakes.after(worker, 4, 4), 100 * (7 - worker));
        }
    }

    private static void waysBetween() {
        Edges.sentence(20, "to which he is SENT one after the other");
        // by 3 a minute: from a to b 2, from b to c 1, from a to c 3
        String text = "part a 0 1 5 1;part b 0 5 5 1;part c 3 5 5 1;part z 0 1 5 4;worker w 0 1 3;";
        TideRakes rakes = Edges.told(text);
        Edges.due("z", rakes.send(0, 3), 4);
        Edges.dueRow("plan", what -> rakes.plan(0, 600, what), 15, 10, 7);
        Edges.dueRow("row", i -> rakes.planAt(0, 600, i), 0, 1, 2, -2);
        Edges.dueRow("by 9", what -> rakes.plan(0, 9, what), 10, 8, 3);
        Edges.dueRow("by 7", what -> rakes.plan(0, 7, what), 5, 5, 1);
        Edges.due("a", rakes.send(0, 0), 5);
        Edges.due("b", rakes.send(0, 1), 8);
        Edges.due("c", rakes.send(0, 2), 10);
    }

    private static void sizesOfEach() {
        Edges.sentence(28, "could have all PARTS DONE by b (shared as for HANDS) if each PART were at the PEG's place");
        String[] texts = {"part a 0 1 5 4;part b 8 1 5 8;worker w 0 1 1;worker u 8 1 1;peg 0 1;",
            "part b 8 1 5 8;part a 0 1 5 4;worker u 8 1 1;worker w 0 1 1;peg 0 1;",
            "part a 1 0 5 4;part b 1 8 5 8;worker w 1 0 1;worker u 1 8 1;peg 1 0;high=1;"};
        // one quarter by w alone in 5; four by both in 8; then b is 2, 4 .. farther and takes 2, 4 .. more
        int[] due = {4, 0, 5, 1, 7, 1, 8, 4, 11, 4, 12, 5, 15, 5, 16, 6};
        for (String text : texts) {
            TideRakes rakes = Edges.told(text);
            for (int i = 0; i < due.length; i += 2) {
                Edges.due("large by " + due[i] + " of " + text, rakes.large(due[i]), due[i + 1]);
            }
        }
    }
}
