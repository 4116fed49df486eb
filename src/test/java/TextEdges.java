/** Edges of the tape and of texts: promises 1 to 5, and what the document's terms say of a text. */
final class TextEdges {
    private static final String[] WORDS = {"part", "worker", "high", "tide", "sun", "slip", "dog", "holds", "peg", "seed", "if", "then",
        "else", "x", "y", "minute", "far", "off"};
    private static final String[] LAWS = {"high", "tide", "sun", "slip", "dog"};
    /** TELLS of every kind, by TOKENS with a blank between. */
    private static final String ALL = "part q 1 2 3 4 ; worker w 1 2 3 ; high = if x < y then ( minute + far ) * 2 else off / 3 - 1 ;"
        + " tide = 1 ; sun = 2 ; slip = 3 ; dog = 4 ; holds 1 2 ; peg 1 2 ; seed 1 ;";
    private static final String DAY = "part a 0 1 10 3; part b 2 1 20 4; worker u 0 1 3; worker v 6 6 2; sun = minute; dog = 1; seed 3;";

    private TextEdges() {
    }

    static void tryAll() {
        newObject();
        fedBytes();
        feedBeyond();
        bytesBack();
        backBeyond();
        readTape();
        placeOfFault();
        longestText();
        blanks();
        names();
        words();
        ints();
        longestTokens();
        longerOnes();
        signs();
        partNumbers();
        manyParts();
        workerNumbers();
        manyWorkers();
        untoldLaws();
        lastLaws();
        holdsNumbers();
        pegNumbers();
        seedNumbers();
        firstFault();
        syntax();
        tokenRoom();
        partRoom();
        workerRoom();
        ifRoom();
        bracketRoom();
        mildFaults();
        twice();
        wrong();
        faultyText();
        textInPlace();
        fewerInPlace();
        manyTexts();
    }

    // ---- promise 1

    private static void newObject() {
        Edges.sentence(1, "`TideRakes()`: Nothing is told.");
        TideRakes rakes = new TideRakes();
        Edges.dueRow("count", rakes::count, 0, 0, 1, 600, 0, 0, 0, 0, 0, 0, 0);
        Edges.dueRow("part 0", what -> rakes.part(0, what), -10000, -10000, -10000, -10000, -10000, -10000);
        Edges.dueRow("worker 0", what -> rakes.worker(0, what), -1, -1, -1, -1, -1);
        Edges.dueRow("minute 0", what -> rakes.minute(0, what), 0, 100, -10000);
        Edges.due("place", rakes.place(), TideRakes.NONE);
        Edges.due("back 1", rakes.back(1), -1);
        Edges.due("back 0", rakes.back(0), 0);
        Edges.due("undo", rakes.undo(), false);
        Edges.due("forget", rakes.forget(), 0);
        Edges.dueRow("restore", slot -> rakes.restore(slot) ? 1 : 0, 0, 0, 0);
        Edges.due("seen", rakes.seen(599), 0);
        Edges.due("best minute", rakes.bestMinute(), 0);
        Edges.due("large by 0", rakes.large(0), 16);
        Edges.due("fails", rakes.fails(0), 0);
        Edges.due("hopes of 50", rakes.hopes(0, 0, 50), 50);
        Edges.due("NONE", TideRakes.NONE, -1);
    }

    // ---- promises 2 to 5

    private static void fedBytes() {
        Edges.sentence(2, "Twenty bytes, the highest of a first, come behind the tape: how many it has.");
        for (int at = 0; at < 20; at++) {
            for (int odd : new int[] {0, 127, 128, 255}) {
                TideRakes rakes = new TideRakes();
                int[] words = {0x20202020, 0x20202020, 0x20202020, 0x20202020, 0x20202020};
                int shift = 24 - at % 4 * 8;
                words[at / 4] = words[at / 4] & ~(255 << shift) | odd << shift;
                Edges.due("feed", rakes.feed(words[0], words[1], words[2], words[3], words[4]), 20);
                Edges.due("read with " + odd + " at " + at, rakes.read(), 1);
                Edges.due("place of " + odd, rakes.place(), at);
            }
        }
        TideRakes rakes = new TideRakes();
        Bench.feed(rakes, "seed 12");
        // "34;holds 5 60;peg 7 "
        Edges.due("feed behind 7", rakes.feed(0x33343b68, 0x6f6c6473, 0x20352036, 0x303b7065, 0x67203720), 27);
        Bench.feed(rakes, "8;part a 7 8 1 1;");
        Edges.due("read", rakes.read(), 0);
        Edges.due("from", rakes.count(2), 5);
        Edges.due("to", rakes.count(3), 60);
        Edges.due("peg", rakes.error(0, false), 0);
    }

    private static void feedBeyond() {
        Edges.sentence(2, "NONE, and nothing comes, if it would have more than 2,000.");
        TideRakes rakes = new TideRakes();
        for (int i = 1; i <= 100; i++) {
            Edges.due("feed " + i, feedBlanks(rakes), 20 * i);
        }
        Edges.due("the 101st", feedOdd(rakes), -1);
        Edges.due("2000 stay", rakes.count(7), 2000);
        Edges.due("back 1", rakes.back(1), 1999);
        Edges.due("to 2019", feedOdd(rakes), -1);
        Edges.due("back 18", rakes.back(18), 1981);
        Edges.due("to 2001", feedOdd(rakes), -1);
        Edges.due("1981 stay", rakes.count(7), 1981);
        Edges.due("back 1", rakes.back(1), 1980);
        Edges.due("to 2000", feedBlanks(rakes), 2000);
        Edges.due("nothing came", rakes.read(), 0);
    }

    private static int feedBlanks(TideRakes rakes) {
        return rakes.feed(0x20202020, 0x20202020, 0x20202020, 0x20202020, 0x20202020);
    }

    private static int feedOdd(TideRakes rakes) {
        return rakes.feed(0x21212121, 0x21212121, 0x21212121, 0x21212121, 0x21212121);
    }

    private static void bytesBack() {
        Edges.sentence(3, "The last n bytes of the tape go: how many it has.");
        TideRakes rakes = new TideRakes();
        Bench.feed(rakes, "seed 1; holds 3 4;!!");
        Edges.due("back 0", rakes.back(0), 20);
        Edges.due("back 2", rakes.back(2), 18);
        Edges.due("read", rakes.read(), 0);
        Edges.due("what was ahead stays", rakes.count(2), 3);
        Bench.feed(rakes, "!!!");
        Edges.due("back of all", rakes.back(3), 0);
        Edges.due("back 0 of none", rakes.back(0), 0);
        Bench.feed(rakes, "holds 5 6;");
        Edges.due("read of what came then", rakes.read(), 0);
        Edges.due("from", rakes.count(2), 5);
    }

    private static void backBeyond() {
        Edges.sentence(3, "NONE, and nothing goes, if it has not so many, or n is below 0.");
        TideRakes rakes = new TideRakes();
        Bench.feed(rakes, "holds 3 4;");
        for (int n : new int[] {11, 2001, Edges.MOST, -1, -10, Edges.LEAST}) {
            Edges.due("back " + n, rakes.back(n), -1);
            Edges.due("10 stay", rakes.count(7), 10);
        }
        Edges.due("read", rakes.read(), 0);
        Edges.due("from", rakes.count(2), 3);
        Edges.due("back 1 of none", rakes.back(1), -1);
        Edges.due("back -1 of none", rakes.back(-1), -1);
    }

    private static void readTape() {
        Edges.sentence(4, "The tape, which is empty then, is read: 0, or the number of its FAULT.");
        TideRakes rakes = new TideRakes();
        Edges.due("a text", Bench.read(rakes, "part a 1 1 1 1;"), 0);
        Edges.due("the tape is empty", rakes.count(7), 0);
        Edges.due("a part", rakes.count(0), 1);
        String[] faulty = {"", "!", "sun=(((((((", "part a 1 1 1 1;part a 1 1 1 1;", "", "seed 1;holds 0 1;"};
        for (int number : new int[] {1, 2, 3, 5}) {
            Edges.due("a FAULT", Bench.read(rakes, faulty[number]), number);
            Edges.due("the tape is empty too", rakes.count(7), 0);
            Edges.due("back 1", rakes.back(1), -1);
            Edges.due("the part stays", rakes.count(0), 1);
        }
        Edges.due("an empty tape", rakes.read(), 0);
        Edges.due("is a text of nothing", rakes.count(0), 0);
    }

    private static void placeOfFault() {
        Edges.sentence(5, "The byte of the latest read()'s FAULT; NONE without.");
        TideRakes rakes = new TideRakes();
        Edges.due("without a read", rakes.place(), -1);
        Edges.due("a text", Bench.read(rakes, "seed 1;"), 0);
        Edges.due("without a FAULT", rakes.place(), -1);
        Edges.due("a FAULT at 0", Bench.read(rakes, "!"), 1);
        Edges.due("its place", rakes.place(), 0);
        Edges.due("another", Bench.read(rakes, "seed !"), 1);
        Edges.due("the latest one's place", rakes.place(), 5);
        Bench.feed(rakes, "seed");
        rakes.back(1);
        Edges.due("till the next read", rakes.place(), 5);
        rakes.back(3);
        Edges.due("a text of nothing", rakes.read(), 0);
        Edges.due("none any more", rakes.place(), -1);
        Edges.due("a milder FAULT", Bench.read(rakes, "seed 1; peg 0 100;"), 5);
        Edges.due("its place", rakes.place(), 14);
    }

    // ---- what a text is: promise 4

    private static void longestText() {
        Edges.sentence(4, "A TEXT has 2,000 bytes at most.");
        TideRakes rakes = new TideRakes();
        Edges.due("the last byte counts", Bench.read(rakes, " ".repeat(1990) + "holds 7 9;"), 0);
        Edges.due("from", rakes.count(2), 7);
        Edges.dueFault(" ".repeat(1999) + "!", 1, 1999);
        Edges.dueFault(" ".repeat(1991) + "holds 7 9", 1, 2000);
        Edges.dueFault("a".repeat(2000), 1, 0);
        Edges.dueFault("seed " + "1".repeat(1995), 1, 5);
        Edges.dueNoFault(" ".repeat(2000));
    }

    private static void blanks() {
        Edges.sentence(4, "with blanks (9, 10, 13, 32) between or not");
        for (int b = 0; b < 256; b++) {
            char c = (char) b;
            boolean blank = b == 9 || b == 10 || b == 13 || b == 32;
            boolean letter = c >= 'a' && c <= 'z';
            boolean digit = c >= '0' && c <= '9';
            Edges.dueFault("seed" + c + "7;", blank || digit ? 0 : 1, blank || digit ? -1 : letter ? 0 : 4);
            Edges.dueFault("seed 7" + c + ";", blank || digit ? 0 : 1, blank || digit ? -1 : c == ';' ? 7 : 6);
            Edges.dueFault("part q" + c + "1 1 1 1;", blank || digit || letter ? 0 : 1, blank || digit || letter ? -1 : 6);
            boolean middle = c == '+' || c == '-' || c == '*' || c == '/';
            Edges.dueFault("sun = 7 " + c + " x;", middle ? 0 : 1, middle ? -1 : c == ';' ? 10 : blank ? 10 : 8);
        }
        Edges.dueNoFault("part a 1 1 1 1;sun=if x<y then(1)else(2);");
        Edges.dueNoFault("\tpart\n\n a\r1 \t1\n1\r\n1 ; \r");
        Edges.dueNoFault("part a1 1 1 1;worker b1 1 1;holds1 2;peg3 4;seed5;sun=6;");
    }

    private static void names() {
        Edges.sentence(4, "NAMES (letters a .. z, 8 at most, none of the words in quotes)");
        Edges.dueNoFault("part a 1 1 1 1;part z 1 1 1 1;worker m 1 1 1;");
        Edges.dueNoFault("part abcdefgh 1 1 1 1;worker zzzzzzzz 1 1 1;");
        Edges.dueFault("part abcdefghi 1 1 1 1;", 1, 5);
        Edges.dueFault("worker abcdefghi 1 1 1;", 1, 7);
        Edges.dueNoFault("part aaaaaaaa 1 1 1 1;part aaaaaaab 1 1 1 1;part aaaaaaa 1 1 1 1;part baaaaaaa 1 1 1 1;");
        for (String no : new String[] {"A", "Z", "`", "{", "@", "_", "a_b", "aB"}) {
            Edges.dueFault("part " + no + " 1 1 1 1;", 1, no.startsWith("a") ? 6 : 5);
        }
        Edges.dueFault("part 1 1 1 1;", 1, 5);
    }

    private static void words() {
        Edges.sentence(4, "none of the words in quotes");
        for (String word : WORDS) {
            Edges.dueFault("part " + word + " 1 1 1 1;", 1, 5);
            Edges.dueFault("worker " + word + " 1 1 1;", 1, 7);
            Edges.dueNoFault("part " + word + "q 1 1 1 1;");
            Edges.dueNoFault("worker q" + word + " 1 1 1;");
            if (word.length() > 1) {
                Edges.dueNoFault("part " + word.substring(1) + "r 1 1 1 1;");
                Edges.dueNoFault("part " + word.substring(0, word.length() - 1) + " 1 1 1 1;");
            }
            Edges.dueFault(word + "q", 1, 0);
        }
    }

    private static void ints() {
        Edges.sentence(4, "INTS (1 to 4 digits)");
        Edges.dueNoFault("seed 0;seed 10;seed 100;seed 9999;seed 0000;");
        Edges.dueFault("seed 00000;", 1, 5);
        Edges.dueFault("seed 12345;", 1, 5);
        Edges.dueFault("seed ;", 1, 5);
        Edges.due("four digits of a LAW", Edges.told("tide=9999;").minute(0, 0), 9999);
        Edges.due("zeros ahead", Edges.told("tide=0012;").minute(0, 0), 12);
        Edges.dueFault("tide=00012;", 1, 5);
        Edges.dueFault("tide=10000;", 1, 5);
    }

    private static void longestTokens() {
        Edges.sentence(4, "TOKENS, the longest that can be");
        Edges.dueNoFault("part ab 1 1 1 1;part a 1 1 1 1;part b 1 1 1 1;");
        Edges.dueFault("part a b 1 1 1 1;", 1, 7);
        Edges.dueFault("parta 1 1 1 1;", 1, 0);
        Edges.dueFault("part a 1 11 1;", 1, 13);
        Edges.dueNoFault("part a 1 11 1 1;");
        Edges.dueFault("seed 99 99;", 1, 8);
        Edges.dueNoFault("seed 9999;");
        Edges.due("one INT, not two", Edges.told("tide=12;").minute(0, 0), 12);
        Edges.dueFault("tide=1 2;", 1, 7);
        // letters and digits end one another
        Edges.due("no blanks", Edges.told("tide=if1<2then3else4;").minute(0, 0), 3);
        Edges.dueFault("tide=ifx<2then3else4;", 1, 5);
        Edges.dueFault("tide=if 1<x then3else4;tide=if 1<xthen 3else4;", 1, 33);
        Edges.dueFault("tide=if1<2then3elsex;", 1, 15);
        Edges.dueFault("part a1b 1 1 1;", 1, 7);
    }

    private static void signs() {
        Edges.sentence(4, "SIGNS ; = + - * / < ( ) .");
        for (String no : new String[] {"==", "<=", "<<", "--", "++", "**", "//", ";;", "()", ")(", "."}) {
            for (String text : new String[] {"sun=1" + no + "2;", "sun=1 " + no.charAt(0) + " " + no.substring(1) + " 2;"}) {
                TideRakes rakes = new TideRakes();
                Edges.due("read of [" + text + "]", Bench.read(rakes, text), 1);
            }
        }
        Edges.dueFault("sun=1.5;", 1, 5);
        Edges.dueFault("seed 1;.", 1, 7);
    }

    private static void longerOnes() {
        Edges.sentence(4, "A longer one, all else, is no TOKEN.");
        // a longer one is not two shorter ones
        Edges.dueFault("peg 12345;", 1, 4);
        Edges.dueFault("part a 1 1 1 12345", 1, 13);
        Edges.dueFault("part abcdefghx 1 1 1;", 1, 5);
        Edges.dueFault("partpartp a 1 1 1 1;", 1, 0);
        Edges.dueFault("minuteminute", 1, 0);
        Edges.dueFault("sun=minuteminuteminute;", 1, 4);
        Edges.dueFault("sun=minutex;", 1, 4);
        Edges.dueFault("sun=xy;", 1, 4);
        Edges.dueFault("seed 1;\u0000", 1, 7);
        Edges.dueFault("seed 1;\u00ff", 1, 7);
        Edges.dueFault("sun=1>2;", 1, 5);
    }

    // ---- what is told: promise 4

    private static void partNumbers() {
        Edges.sentence(4, "a place x, y: 0 .. 99 each, WORTH 0 .. 99, MINUTES 1 .. 60");
        Edges.dueNoFault("part a 0 0 0 1;");
        Edges.dueNoFault("part a 99 99 99 60;");
        Edges.dueNoFault("part a 0099 099 0000 0060;");
        Edges.dueFault("part a 100 0 0 1;", 5, 7);
        Edges.dueFault("part a 0 100 0 1;", 5, 9);
        Edges.dueFault("part a 0 0 100 1;", 5, 11);
        Edges.dueFault("part a 0 0 0 61;", 5, 13);
        Edges.dueFault("part a 0 0 0 0;", 5, 13);
        Edges.dueFault("part a 9999 9999 9999 9999;", 5, 7);
        TideRakes rakes = Edges.told("part a 98 99 97 60;part b 0 0 0 1;high=x*100+y;");
        Edges.due("HIGH by x and y", rakes.part(0, 0), 9899);
        Edges.due("WORTH", rakes.part(0, 3), 97);
        Edges.due("MINUTES", rakes.part(0, 4), 60);
        Edges.due("least HIGH", rakes.part(1, 0), 0);
        Edges.due("least WORTH", rakes.part(1, 3), 0);
        Edges.due("least MINUTES", rakes.part(1, 4), 1);
    }

    private static void manyParts() {
        Edges.sentence(4, "PARTS, 8 at most");
        for (int many = 0; many <= 8; many++) {
            TideRakes rakes = Edges.told(parts(many));
            Edges.due("PARTS", rakes.count(0), many);
            for (int part = 0; part < 9; part++) {
                Edges.due("WORTH of " + part + " of " + many, rakes.part(part, 3), part < many ? 10 + part : -10000);
            }
        }
    }

    private static String parts(int many) {
        StringBuilder all = new StringBuilder();
        for (int i = 0; i < many; i++) {
            all.append("part p").append((char) ('a' + i)).append(" 1 1 ").append(10 + i).append(" 1;");
        }
        return all.toString();
    }

    private static void workerNumbers() {
        Edges.sentence(4, "a place x, y, SPEED 1 .. 20");
        Edges.dueNoFault("worker a 0 0 1;");
        Edges.dueNoFault("worker a 99 99 20;");
        Edges.dueFault("worker a 100 0 1;", 5, 9);
        Edges.dueFault("worker a 0 100 1;", 5, 11);
        Edges.dueFault("worker a 0 0 0;", 5, 13);
        Edges.dueFault("worker a 0 0 21;", 5, 13);
        TideRakes rakes = Edges.told("worker a 98 99 20;worker b 0 0 1;");
        Edges.dueRow("a", what -> rakes.worker(0, what), 98, 99, 0, 20, 0);
        Edges.dueRow("b", what -> rakes.worker(1, what), 0, 0, 0, 1, 0);
    }

    private static void manyWorkers() {
        Edges.sentence(4, "WORKERS, 3 at most (a NAME, a place x, y, SPEED 1 .. 20), numbered each from 0 on as they stand.");
        for (int many = 0; many <= 3; many++) {
            // PARTS among them have numbers of their own
            TideRakes rakes = Edges.told("part q 1 1 77 1;" + workers(many) + "part r 1 1 78 1;");
            Edges.due("WORKERS", rakes.count(1), many);
            for (int worker = 0; worker < 4; worker++) {
                Edges.due("SPEED of " + worker + " of " + many, rakes.worker(worker, 3), worker < many ? 5 + worker : -1);
            }
            Edges.dueRow("WORTH", part -> rakes.part(part, 3), 77, 78, -10000);
        }
    }

    private static String workers(int many) {
        StringBuilder all = new StringBuilder();
        for (int i = 0; i < many; i++) {
            all.append("worker w").append((char) ('a' + i)).append(" 1 1 ").append(5 + i).append(";");
        }
        return all.toString();
    }

    private static void untoldLaws() {
        Edges.sentence(4, "HIGH (y, if not told), TIDE (0), SUN (100), SLIP (far), DOG (0): LAWS");
        TideRakes rakes = Edges.told("high=1;tide=2;sun=3;slip=4;dog=5;part a 3 7 1 1;peg 1 1;holds 2 3;");
        dueLaws(rakes, 1, 2, 3, 4, 5);
        Edges.due("read", Bench.read(rakes, "part a 3 7 1 1;peg 1 1;"), 0);
        dueLaws(rakes, 7, 0, 100, 8, 0);
        // each of them alone not told, the others told ahead of all or behind, and behind two texts that told it
        String all = "high=1;tide=2;sun=3;slip=4;dog=5;part a 3 7 1 1;";
        int[] untold = {7, 0, 100, 8, 0};
        for (int missing = 0; missing < 5; missing++) {
            int[] due = {11, 12, 13, 14, 15};
            String others = "";
            for (int law = 0; law < 5; law++) {
                others += law == missing ? "" : LAWS[law] + "=" + due[law] + ";";
            }
            due[missing] = untold[missing];
            dueLaws(Edges.told(others + "part a 3 7 1 1;peg 1 1;"), due);
            dueLaws(Edges.told("part a 3 7 1 1;peg 1 1;" + others), due);
            TideRakes third = Edges.told(all);
            Edges.due("read", Bench.read(third, all), 0);
            Edges.due("read", Bench.read(third, others + "part a 3 7 1 1;peg 1 1;"), 0);
            dueLaws(third, due);
        }
    }

    /** HIGH, TIDE, SUN, SLIP, DOG. */
    private static void dueLaws(TideRakes rakes, int... due) {
        Edges.due("HIGH", rakes.part(0, 0), due[0]);
        Edges.due("TIDE", rakes.minute(9, 0), due[1]);
        Edges.due("SUN", rakes.minute(9, 1), due[2]);
        Edges.due("SLIP", rakes.error(0, false), due[3]);
        Edges.due("DOG", rakes.dog(0, 9), due[4]);
    }

    private static void lastLaws() {
        Edges.sentence(4, "LAWS, the last one told.");
        dueLaws(Edges.told("high=1;tide=2;sun=3;slip=4;dog=5;part a 3 7 1 1;high=6;tide=7;sun=8;slip=9;dog=10;"), 6, 7, 8, 9, 10);
        dueLaws(Edges.told("part a 3 7 1 1;dog=1;slip=2;sun=3;tide=4;high=5;high=15;slip=12;slip=13;"), 15, 4, 3, 13, 1);
    }

    private static void holdsNumbers() {
        Edges.sentence(4, "HOLDS: from, to (1 .. 600 each; 1 and 600; the last one).");
        dueHolds("", 1, 600);
        dueHolds("holds 600 1;", 600, 1);
        dueHolds("holds 1 1;", 1, 1);
        dueHolds("holds 600 600;", 600, 600);
        dueHolds("holds 3 4;holds 5 6;", 5, 6);
        Edges.dueFault("holds 0 1;", 5, 6);
        Edges.dueFault("holds 601 1;", 5, 6);
        Edges.dueFault("holds 1 0;", 5, 8);
        Edges.dueFault("holds 1 601;", 5, 8);
        Edges.dueFault("holds 0 1;holds 1 1;", 5, 6);
        TideRakes rakes = Edges.told("holds 3 4;");
        Edges.due("a text without", Bench.read(rakes, "seed 1;"), 0);
        Edges.due("from", rakes.count(2), 1);
        Edges.due("to", rakes.count(3), 600);
    }

    private static void dueHolds(String text, int from, int to) {
        TideRakes rakes = Edges.told(text);
        Edges.due("from of " + text, rakes.count(2), from);
        Edges.due("to of " + text, rakes.count(3), to);
    }

    private static void pegNumbers() {
        Edges.sentence(4, "PEG: a place (0 and 0; the last one).");
        Edges.due("no PEG told", Edges.told("part a 3 4 1 1;").error(0, false), 7);
        Edges.due("the last one", Edges.told("part a 3 4 1 1;peg 9 9;peg 2 2;").error(0, false), 3);
        Edges.due("the greatest", Edges.told("part a 0 0 1 1;peg 99 99;").error(0, false), 198);
        Edges.dueFault("peg 100 0;", 5, 4);
        Edges.dueFault("peg 0 100;", 5, 6);
        TideRakes rakes = Edges.told("part a 3 4 1 1;peg 3 4;");
        Edges.due("a text without", Bench.read(rakes, "part a 3 4 1 1;"), 0);
        Edges.due("as not told", rakes.error(0, false), 7);
    }

    private static void seedNumbers() {
        Edges.sentence(4, "SEED 0 .. 9999 (0; the last one).");
        for (int seed : new int[] {0, 1, 9998, 9999}) {
            dueSeed("seed " + seed + ";", seed);
        }
        dueSeed("", 0);
        dueSeed("seed 77;seed 5;", 5);
        Edges.dueFault("seed 10000;", 1, 5);
    }

    /** DOG is as much as the first minute's LOT, or 1 more: only then it runs over the PART. */
    private static void dueSeed(String text, int seed) {
        int lot = ToldEdges.lot(seed, 8);
        for (int more = 0; more < 2; more++) {
            TideRakes rakes = Edges.told("part a 1 1 1 1;worker w 1 1 1;dog=" + (lot + more) + ";" + text);
            Edges.due("send", rakes.send(0, 0), 1);
            Edges.due("LOT of [" + text + "]", rakes.hopes(1, 1, 1), 1 - more);
        }
    }

    // ---- FAULTS: promises 4 and 5

    private static void firstFault() {
        Edges.sentence(5, "the first by its place (a byte; the text's end: its length), of one place the least");
        Edges.dueFault("! !", 1, 0);
        Edges.dueFault("seed 1; ! part", 1, 8);
        Edges.dueFault("seed", 1, 4);
        Edges.dueFault("seed  \n", 1, 7);
        Edges.dueFault("seed 1", 1, 6);
        // ROOM ahead of SYNTAX, SYNTAX ahead of ROOM
        Edges.dueFault("sun=((((((( !", 2, 10);
        Edges.dueFault("sun=(((((( ! (", 1, 11);
        Edges.dueFault(parts(8) + "part !", 2, parts(8).length());
        Edges.dueFault(parts(8) + "! part", 1, parts(8).length());
        // two FAULTS of one place: a 401st TOKEN that does not fit
        Edges.dueFault("seed 1;".repeat(132) + "peg 1 1;;", 1, 132 * 7 + 8);
        Edges.dueFault("seed 1;".repeat(132) + "peg 1 1;seed", 2, 132 * 7 + 8);
        // of TWICE and WRONG the first, too
        Edges.dueFault("part a 1 1 1 0;part a 1 1 1 1;", 5, 13);
        Edges.dueFault("part a 1 1 1 1;part a 100 1 1 1;", 3, 20);
    }

    private static void syntax() {
        Edges.sentence(4, "1 SYNTAX: a TOKEN, or what is none, with which no text goes on.");
        String[] tokens = ALL.split(" ");
        String ahead = "";
        for (int i = 0; i < tokens.length; i++) {
            boolean begun = i > 0 && !tokens[i - 1].equals(";");
            Edges.dueFault(ahead, begun ? 1 : 0, begun ? ahead.length() : -1);
            Edges.dueFault(ahead + "! " + tokens[i], 1, ahead.length());
            Edges.dueFault(ahead + "12345 " + tokens[i], 1, ahead.length());
            boolean then = tokens[i].equals("else") || i > 0 && tokens[i - 1].equals(")");
            Edges.dueFault(ahead + "else else", 1, ahead.length() + (then ? 5 : 0));
            Edges.dueFault(ahead + "=" + ALL, 1, ahead.length() + (tokens[i].equals("=") ? 1 : 0));
            ahead += tokens[i] + " ";
        }
        Edges.dueNoFault(ahead);
        for (String law : LAWS) {
            Edges.dueFault(law + "=- 1;", 1, law.length() + 1);
            Edges.dueFault(law + "=();", 1, law.length() + 2);
            Edges.dueFault(law + "=(1;", 1, law.length() + 3);
            Edges.dueFault(law + "=1);", 1, law.length() + 2);
            Edges.dueFault(law + "=(if 1<2 then 3 else 4);", 1, law.length() + 2);
            Edges.dueFault(law + "=1<2;", 1, law.length() + 2);
            Edges.dueFault(law + "=q;", 1, law.length() + 1);
        }
    }

    private static void tokenRoom() {
        Edges.sentence(4, "2 ROOM: a 401st TOKEN");
        String[] tokens = ALL.split(" ");
        for (int at = 0; at < tokens.length; at++) {
            String ahead = padding(400 - at);
            for (int i = 0; i < at; i++) {
                ahead += tokens[i] + " ";
            }
            boolean begun = at > 0 && !tokens[at - 1].equals(";");
            Edges.dueFault(ahead, begun ? 1 : 0, begun ? ahead.length() : -1);
            Edges.dueFault(ahead + tokens[at], 2, ahead.length());
            Edges.dueFault(ahead + tokens[at] + " !", 2, ahead.length());
            Edges.dueFault(ahead + "!", 1, ahead.length());
            if (!tokens[at].equals("then")) {
                Edges.dueFault(ahead + "then", 1, ahead.length());
            }
        }
        Edges.dueFault("sun=" + "1+".repeat(197) + "1;x", 1, 400);
        Edges.dueNoFault("sun=" + "1+".repeat(198) + "1;");
        Edges.dueFault("sun=" + "1+".repeat(199) + "1;", 2, 402);
    }

    /** So many TOKENS of whole TELLS. */
    private static String padding(int tokens) {
        StringBuilder all = new StringBuilder();
        int left = tokens;
        while (left % 3 != 0) {
            all.append("peg 1 1;");
            left -= 4;
        }
        return all + "seed 1;".repeat(left / 3);
    }

    private static void partRoom() {
        Edges.sentence(4, "a 9th part, a 4th worker (at its first TOKEN)");
        String eight = parts(8) + workers(3);
        Edges.dueNoFault(eight);
        Edges.dueFault(eight + "part", 2, eight.length());
        Edges.dueFault(eight + "part q 1 1 1 1;", 2, eight.length());
        Edges.dueFault(eight + "part pa 1 1 1 0;", 2, eight.length());
        Edges.dueFault(eight + "parts", 1, eight.length());
        Edges.dueFault("part p 100 1 1 1;" + parts(8), 2, 17 + parts(7).length());
    }

    private static void workerRoom() {
        Edges.sentence(4, "a 4th worker (at its first TOKEN)");
        String three = workers(3) + parts(8);
        Edges.dueNoFault(three);
        Edges.dueFault(three + "worker", 2, three.length());
        Edges.dueFault(three + "worker q 1 1 1;", 2, three.length());
        Edges.dueFault(three + "worker wa 1 1 0;", 2, three.length());
        Edges.dueFault(three + "workers", 1, three.length());
        Edges.dueFault("worker w 1 1 0;" + workers(3), 2, 15 + workers(2).length());
    }

    private static void ifRoom() {
        Edges.sentence(4, "a 5th if of a LAW (at it)");
        String one = "if 1<2 then 3 else ";
        String fourOfAll = "";
        for (String law : LAWS) {
            String four = law + "=" + one.repeat(4);
            Edges.dueNoFault(four + "5;");
            Edges.dueFault(four + "if", 2, four.length());
            Edges.dueFault(four + one + "5;", 2, four.length());
            Edges.dueFault(four + "5 if", 1, four.length() + 2);
            fourOfAll += four + "5;";
        }
        Edges.dueNoFault(fourOfAll + fourOfAll);
        Edges.due("a 4th if counts", Edges.told("tide=" + "if 2<1 then 3 else ".repeat(3) + one + "5;").minute(0, 0), 3);
    }

    private static void bracketRoom() {
        Edges.sentence(4, "a 7th ( within one another (at it)");
        for (String ahead : new String[] {"sun=", "sun=if ", "sun=if 1<", "sun=if 1<2 then ", "sun=if 1<2 then 3 else ", "sun=1+2*"}) {
            Edges.dueFault(ahead + "(((((((1", 2, ahead.length() + 6);
            Edges.dueFault(ahead + "(((((((", 2, ahead.length() + 6);
            Edges.dueFault(ahead + "((((((", 1, ahead.length() + 6);
            Edges.dueFault(ahead + "((((((1*(", 2, ahead.length() + 8);
            Edges.dueFault(ahead + "((((((1))))))", 1, ahead.length() + 13);
        }
        Edges.dueNoFault("sun=((((((1))))))+((((((1))))))*((((((1))))));");
        Edges.dueNoFault("sun=(((((" + "(1)+(2)*(3)" + ")))));");
        Edges.dueNoFault("sun=if ((((((1))))))<((((((2)))))) then ((((((3)))))) else ((((((4))))));");
        // the most that can wait: one side of an if, and in each bracket a sum and a product
        String deep = "1+2*(1+2*(1+2*(1+2*(1+2*(1+2*(1+2*3))))))";
        Edges.due("sums in six of them", Edges.told("tide=" + deep + ";").minute(0, 0), 511);
        Edges.due("in an if", Edges.told("tide=if 510<" + deep + " then " + deep + "-1 else 3;").minute(0, 0), 510);
        Edges.due("in the next if", Edges.told("tide=if 511<" + deep + " then 3 else if " + deep + "<512 then 4 else 5;").minute(0, 0), 4);
        Edges.due("six of them", Edges.told("tide=2*(3+(4*(5+(6*(7+(8-1))))));").minute(0, 0), 2 * (3 + 4 * (5 + 6 * (7 + 7))));
    }

    private static void mildFaults() {
        Edges.sentence(4, "If there is none, likewise: 3 TWICE");
        Edges.dueFault("part a 100 1 1 1;part a 1 1 1 1;!", 1, 32);
        Edges.dueFault("part a 100 1 1 1;part a 1 1 1 1", 1, 31);
        Edges.dueFault("part a 1 1 1 1;part a 1 1 1 1;sun=(((((((1", 2, 40);
        Edges.dueFault("holds 0 0;" + "seed 1;".repeat(132) + "seed 1;", 2, 10 + 132 * 7);
        Edges.dueFault("holds 0 0;" + "seed 1;".repeat(132), 5, 6);
    }

    private static void twice() {
        Edges.sentence(4, "3 TWICE: a NAME told already (PARTS and WORKERS together).");
        Edges.dueFault("part a 1 1 1 1;part a 2 2 2 2;", 3, 20);
        Edges.dueFault("part a 1 1 1 1;worker a 2 2 2;", 3, 22);
        Edges.dueFault("worker a 1 1 1;part a 2 2 2 2;", 3, 20);
        Edges.dueFault("worker a 1 1 1;worker a 2 2 2;", 3, 22);
        Edges.dueFault("part a 1 1 1 1;part b 1 1 1 1;part b 1 1 1 1;part a 1 1 1 1;", 3, 35);
        Edges.dueFault("part abcdefgh 1 1 1 1;part abcdefgi 1 1 1 1;part abcdefgh 1 1 1 1;", 3, 49);
        String all = parts(8) + workers(2);
        Edges.dueFault(all + "worker pa 1 1 1;", 3, all.length() + 7);
        Edges.dueFault(all + "worker ph 1 1 1;", 3, all.length() + 7);
        Edges.dueFault(all + "worker wb 1 1 1;", 3, all.length() + 7);
        TideRakes rakes = Edges.told("part a 1 1 1 1;");
        Edges.due("another text may tell it again", Bench.read(rakes, "worker a 1 1 1;"), 0);
        Edges.due("and behind a faulty one", Bench.read(rakes, "part b 1 1 1 1;!"), 1);
        Edges.due("too", Bench.read(rakes, "part b 1 1 1 1;"), 0);
    }

    private static void wrong() {
        Edges.sentence(5, "5 WRONG (at the INT): a number not as told above.");
        Edges.dueFault("part a  100\t1 1 1;", 5, 8);
        Edges.dueFault("seed 1;part a 1 1 1\n0061;", 5, 20);
        Edges.dueFault("worker abcdefgh 1 1 21;", 5, 20);
        Edges.dueFault("holds 601 0;peg 100 100;", 5, 6);
        Edges.dueFault("peg 1 1;peg 1 100;peg 1 1;", 5, 14);
        Edges.dueNoFault("tide=9999*9999;sun=0;high=1000;slip=9999;dog=101;");
    }

    private static TideRakes aDay() {
        TideRakes rakes = Edges.told(DAY);
        rakes.send(0, 0);
        rakes.cross(0);
        rakes.mend(1, 0);
        rakes.hold(1);
        rakes.send(0, 1);
        rakes.cross(1);
        rakes.tell(0, 20, true);
        rakes.tell(1, 0, false);
        return rakes;
    }

    private static void faultyText() {
        Edges.sentence(4, "A text with a FAULT changes nothing but the tape");
        String other = "part q 9 9 9 9;worker r 9 9 9;high=3;tide=2;sun=1;slip=5;dog=6;holds 7 8;peg 9 9;seed 10;";
        for (String fault : new String[] {"!", "sun=(((((((", "part q 1 1 1 1;", "seed 1;holds 0 1;", "part"}) {
            Edges.dueNothing("read of " + fault, TextEdges::aDay, rakes -> Bench.read(rakes, other + fault));
            Edges.dueNothing("read of " + fault, TextEdges::aDay, rakes -> Bench.read(rakes, fault + other));
        }
        TideRakes rakes = aDay();
        Edges.due("read", Bench.read(rakes, other + "!"), 1);
        Edges.due("what was TOLD", rakes.late(2, -1) >= 0, true);
        Edges.due("what is held", rakes.restore(1), true);
        Edges.due("as it was held", rakes.part(1, 1), -2);
        Edges.due("the tape", rakes.count(7), 0);
    }

    private static void textInPlace() {
        Edges.sentence(4, "WORKERS at their places from minute 0 on, nothing is raked, nothing can be undone, nothing is TOLD, SLOTS hold nothing.");
        TideRakes rakes = aDay();
        // what plans were asked for must not stay
        Edges.due("not yet as if it were the first", Edges.look(rakes).equals(Edges.look(Edges.told(DAY))), false);
        Edges.due("the same text again", Bench.read(rakes, DAY), 0);
        Edges.due("as if it were the first", Edges.look(rakes).equals(Edges.look(Edges.told(DAY))), true);
        Edges.due("nothing to undo", rakes.undo(), false);
        Edges.dueRow("nothing held", slot -> rakes.restore(slot) ? 1 : 0, 0, 0, 0);
        Edges.due("nothing told", rakes.late(1, -1), -1);
        Edges.due("nothing forgotten", rakes.forget(), 0);
        Edges.dueRow("u", what -> rakes.worker(0, what), 0, 1, 0, 3, 0);
        Edges.dueRow("a", what -> rakes.part(0, what), 1, -2, 0, 10, 3, -2);
        TideRakes fewer = aDay();
        Edges.due("a text of nothing", fewer.read(), 0);
        Edges.dueRow("count", fewer::count, 0, 0, 1, 600, 0, 0, 0, 0, 0, 0, 0);
        Edges.due("no such PART any more", fewer.part(0, 1), -10000);
        Edges.due("no such WORKER any more", fewer.worker(0, 2), -1);
    }

    /** Eight PARTS, three WORKERS, all LAWS: more than any text behind it tells. */
    private static String fullText() {
        StringBuilder all = new StringBuilder("high=50+y;tide=if minute<200 then 10 else 55;sun=minute/2;slip=far+off+1;dog=x+1;holds 3 90;peg 7 8;seed 99;");
        for (int i = 0; i < 8; i++) {
            all.append("part p").append((char) ('a' + i)).append(' ').append(9 * i).append(' ').append(5 + i).append(' ').append(20 - i).append(" 4;");
        }
        return all + "worker u 9 9 2;worker v 8 8 3;worker w 7 7 4;";
    }

    private static TideRakes fullDay() {
        TideRakes rakes = Edges.told(fullText());
        for (int part = 0; part < 8; part++) {
            Edges.due("send " + part, rakes.send(part % 3, part) > 0, true);
        }
        Edges.due("cross", rakes.cross(2) && rakes.cross(7), true);
        Edges.due("mend", rakes.mend(1, 2) > 0, true);
        for (int slot = 0; slot < 3; slot++) {
            rakes.hold(slot);
        }
        rakes.tell(7, 9, true);
        Edges.due("eight PARTS are seen or not", rakes.seen(150), 127);
        return rakes;
    }

    private static void fewerInPlace() {
        Edges.sentence(4, "else it is in place of the one ahead");
        for (String fewer : new String[] {"", "part a 3 7 9 2;worker q 1 1 5;", "worker q 1 1 5;worker r 2 2 1;part a 3 7 9 2;part b 60 7 9 2;"}) {
            String due = Edges.look(Edges.told(fewer));
            TideRakes rakes = fullDay();
            Edges.look(rakes);
            Edges.due("read behind a fuller one", Bench.read(rakes, fewer), 0);
            String got = Edges.look(rakes);
            Edges.due("as if it were the first [" + got + "], [" + due + "]", got.equals(due), true);
            // a faulty one ahead of it leaves nothing either, and a third text is like the first
            TideRakes faulty = new TideRakes();
            Edges.due("a fuller, faulty one", Bench.read(faulty, fullText() + "!"), 1);
            Edges.due("read behind it", Bench.read(faulty, fewer), 0);
            Edges.due("as if there were no faulty one", Edges.look(faulty).equals(due), true);
            TideRakes third = Edges.told(fullText());
            Edges.due("a fuller one again", Bench.read(third, fullText()), 0);
            Edges.due("read behind both", Bench.read(third, fewer), 0);
            Edges.due("as if it were the only one", Edges.look(third).equals(due), true);
        }
        int lot = ToldEdges.lot(0, 8);
        for (int seed : new int[] {1, 4711, 9999}) {
            for (int more = 0; more < 2; more++) {
                TideRakes seeds = new TideRakes();
                Edges.due("a faulty SEED", Bench.read(seeds, "seed " + seed + ";holds 0 0;"), 5);
                Edges.due("no SEED", Bench.read(seeds, "part a 1 1 1 1;worker w 1 1 1;dog=" + (lot + more) + ";"), 0);
                seeds.send(0, 0);
                Edges.due("as not told", seeds.hopes(1, 1, 1), 1 - more);
            }
        }
    }

    /** The longest texts one behind the other: no room of one is lost to the next. */
    private static void manyTexts() {
        Edges.sentence(4, "it is in place of the one ahead");
        TideRakes rakes = new TideRakes();
        for (int i = 0; i < 8; i++) {
            Edges.due("400 TOKENS", Bench.read(rakes, "tide=" + "1+".repeat(198) + i + ";"), 0);
            Edges.due("TIDE of text " + i, rakes.minute(0, 0), 198 + i);
            Edges.due("401 TOKENS", Bench.read(rakes, "tide=" + "1+".repeat(199) + "1;"), 2);
            Edges.due("TIDE stays", rakes.minute(599, 0), 198 + i);
        }
    }
}
