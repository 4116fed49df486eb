import java.util.Random;

/** Chance texts and chance runs of calls, answered by the class and by the model alike. */
public final class ModelTest {
    private static final int TEXTS = 4000;
    private static final int RUNS = 100;
    private final Random random;
    private TideRakes rakes;
    private Model model;
    private String story = "";

    private ModelTest(long seed) {
        random = new Random(seed);
    }

    public static void main(String[] args) {
        int texts = args.length > 0 ? Integer.parseInt(args[0]) : TEXTS;
        int runs = args.length > 1 ? Integer.parseInt(args[1]) : RUNS;
        long offset = args.length > 2 ? Long.parseLong(args[2]) : 0;
        ModelTest texting = new ModelTest(7 + offset);
        texting.rakes = new TideRakes();
        texting.model = new Model();
        for (int i = 0; i < texts; i++) {
            texting.brokenText(i);
        }
        for (int i = 0; i < runs; i++) {
            new ModelTest(1000 + i + offset).run(i);
            new ModelTest(500000 + i + offset).longDay(i);
        }
        Bench.end();
    }

    // ---- texts

    private int below(int n) {
        return random.nextInt(n);
    }

    private String pick(String... of) {
        return of[below(of.length)];
    }

    private String unit(int depth) {
        int kind = below(10);
        if (kind < 3) {
            return "" + below(pow10());
        }
        if (kind < 8 || depth == 6) {
            return pick("x", "y", "minute", "far", "off", "minute");
        }
        return "(" + sum(depth + 1) + ")";
    }

    private int pow10() {
        return new int[] {3, 10, 100, 700, 10000}[below(5)];
    }

    private String product(int depth) {
        StringBuilder all = new StringBuilder(unit(depth));
        while (below(3) == 0) {
            all.append(pick("*", " / ", "* ", "/")).append(unit(depth));
        }
        return all.toString();
    }

    private String sum(int depth) {
        StringBuilder all = new StringBuilder(product(depth));
        while (below(3) == 0) {
            all.append(pick("+", " - ", "-", " + ")).append(product(depth));
        }
        return all.toString();
    }

    private String chanceLaw() {
        StringBuilder all = new StringBuilder("= ");
        for (int i = 0; i < 5 && below(3) == 0; i++) {
            all.append("if ").append(sum(0)).append(" < ").append(sum(0)).append(" then ").append(sum(0)).append(" else ");
        }
        return all.append(sum(0)).append(";").toString();
    }

    private String chanceTide() {
        int length = 20 + below(200);
        int shift = below(100);
        String phase = "(minute + " + shift + ") - (minute + " + shift + ") / " + length + " * " + length;
        return switch (below(8)) {
            case 0, 1 -> "tide = (" + phase + ") * " + (50 + below(60)) + " / " + length + ";";
            case 2, 3 -> "tide = if " + phase + " < " + (1 + below(8)) + " then " + (60 + below(40)) + " else " + below(50) + ";";
            case 4 -> "tide = if minute < " + below(300) + " then 0 else if minute < " + below(500) + " then 90 else 10;";
            case 5 -> "tide = if " + phase + " < " + below(length) + " then " + below(60) + " else " + below(99) + ";";
            case 6 -> "tide " + chanceLaw();
            default -> "";
        };
    }

    private String goodText(int mostParts) {
        StringBuilder all = new StringBuilder();
        int parts = below(15) == 0 ? 0 : 1 + below(mostParts);
        int wide = pick("a", "b").equals("a") ? 100 : 15;
        for (int i = 0; i < parts; i++) {
            all.append("part p").append((char) ('a' + i)).append(' ').append(below(wide)).append(' ').append(below(wide)).append(' ')
                .append(below(4) == 0 ? below(3) : below(100)).append(' ').append(1 + below(below(3) == 0 ? 60 : 15)).append(";");
        }
        int workers = below(15) == 0 ? 0 : 1 + below(3);
        for (int i = 0; i < workers; i++) {
            all.append(" worker w").append((char) ('a' + i)).append(' ').append(below(wide)).append(' ').append(below(wide))
                .append(' ').append(1 + below(20)).append(";");
        }
        all.append(chanceTide());
        if (below(6) > 0) {
            all.append("high = ").append(pick("40 + y / 2;", "55 + x;", "60;", "70 + y / 4 - x / 5;", "90 - x / 3;", chanceLaw().substring(2)));
        }
        if (below(2) == 0) {
            all.append("sun ").append(pick("= minute / 3;", "= 200 - minute / 2;", "= 50;", chanceLaw()));
        }
        if (below(2) == 0) {
            all.append("dog ").append(pick("= 1;", "= if minute < 300 then 0 else x;", "= y / 30;", chanceLaw()));
        }
        if (below(2) == 0) {
            all.append("slip ").append(pick("= far + off;", "= far * far / 50;", "= 3;", "= off + 1;", "= 0;", chanceLaw()));
        }
        if (below(3) == 0) {
            all.append("holds ").append(1 + below(20)).append(' ').append(1 + below(below(3) > 0 ? 600 : 60)).append(';');
        }
        if (below(2) == 0) {
            all.append("peg ").append(below(100)).append(' ').append(below(100)).append(';');
        }
        if (below(2) == 0) {
            all.append("seed ").append(below(10000)).append(';');
        }
        return all.toString();
    }

    private String broken(String good) {
        StringBuilder all = new StringBuilder(good);
        for (int i = below(3); i >= 0; i--) {
            int at = below(all.length() + 1);
            switch (below(6)) {
                case 0 -> all.insert(at, pick(" ", "\t", "\n", "\r", "x", "if ", "(", ")", ";", "9", "<", "~", "part ", "A", "\u00e9",
                    "part q 1 1 1 1;", "worker q 1 1 1;", "tide=((((((1))))));", "((((((", "else", "=", "\0", "-", "seed 12345;"));
                case 1 -> {
                    if (at < all.length()) {
                        all.deleteCharAt(at);
                    }
                }
                case 2 -> all.setLength(at);
                case 3 -> {
                    if (at < all.length()) {
                        all.setCharAt(at, (char) below(256));
                    }
                }
                case 4 -> all.insert(at, "" + below(10000));
                default -> all.insert(at, pick("; part pa 1 2 3 4;", "; worker pa 1 2 3;", "; holds 0 601;", "; peg 100 99;",
                    "; high = " + "1+".repeat(below(220)) + "1;", "longname", "tide=(((((((1)))))));"));
            }
        }
        if (all.length() > 1990) {
            all.setLength(1990);
        }
        return all.toString();
    }

    /** Numbers and NAMES put in place of others: such a text is often TWICE or WRONG, and no other FAULT. */
    private String unlikely(String good) {
        StringBuilder all = new StringBuilder();
        for (String piece : good.split("(?<=[ ;=])|(?=[ ;=])")) {
            boolean number = piece.matches("[0-9]+") && below(12) == 0;
            boolean name = piece.matches("[pw][a-z]") && below(5) == 0;
            all.append(number ? pick("0", "1", "20", "21", "60", "61", "99", "100", "600", "601", "0007", "9999") : name
                ? pick("pa", "pb", "wa", "abcdefgh", "zzzzzzzz") : piece);
        }
        return all.toString();
    }

    private void feedBoth(String text) {
        Bench.feed(rakes, text);
        model.tape.append(text);
    }

    private void brokenText(int number) {
        String good = goodText(9);
        int kind = below(6);
        String text = kind == 0 ? good : kind < 3 ? unlikely(good) : broken(good);
        if (text.length() > 1990) {
            return;
        }
        story = "text " + number + " [" + text + "]: ";
        feedBoth(text);
        due("count(7)", rakes.count(7), model.count(7));
        due("read", rakes.read(), model.read());
        due("place", rakes.place(), model.place);
        for (int what = 0; what < 11; what++) {
            due("count", rakes.count(what), model.count(what));
        }
        int m = below(600);
        due("tide", rakes.minute(m, 0), model.tide(m));
        due("sun", rakes.minute(m, 1), model.sun(m));
        for (int p = 0; p < model.text.parts.size(); p++) {
            due("high", rakes.part(p, 0), model.high(p));
            due("worth", rakes.part(p, 3), model.text.parts.get(p)[2]);
            due("minutes", rakes.part(p, 4), model.text.parts.get(p)[3]);
            due("dog", rakes.dog(p, m), model.dogAt(p, m));
            due("error", rakes.error(p, false), model.errors()[p][0]);
            due("from", rakes.error(p, true), model.errors()[p][1]);
        }
    }

    // ---- runs

    private void due(String what, int got, int want) {
        Bench.due(story + what, got, want);
    }

    private void due(String what, boolean got, boolean want) {
        Bench.due(story + what, got, want);
    }

    private int chance(int most) {
        int kind = below(60);
        return kind == 0 ? -1 : kind == 1 ? most + 1 : kind == 2 ? pick("a", "b").equals("a") ? Integer.MIN_VALUE : Integer.MAX_VALUE
            : below(most + 1);
    }

    private int chancePart() {
        return chance(Math.max(0, model.text.parts.size() - 1));
    }

    private int chanceWorker() {
        return chance(Math.max(0, model.text.workers.size() - 1));
    }

    private int chanceBound() {
        return below(3) == 0 ? 600 : chance(600);
    }

    private void run(int number) {
        rakes = new TideRakes();
        model = new Model();
        int calls = 0;
        while (calls < 300) {
            if (calls % 100 == 0) {
                String text = goodText(number % 10 == 0 ? 8 : 5);
                while (text.length() > 1990) {
                    text = goodText(5);
                }
                feedBoth(text);
                story = "run " + number + " [" + text + "] ";
                due("read", rakes.read(), model.read());
            }
            if (below(50) == 0) {
                readBroken();
            } else if (below(2) == 0) {
                act();
            } else if (below(2) == 0) {
                ask();
            } else {
                askMore();
            }
            calls++;
        }
        for (int what = -1; what < 12; what++) {
            due("count(" + what + ")", rakes.count(what), model.count(what));
        }
    }

    /** Most such texts have a FAULT and must change nothing of what goes on. */
    private void readBroken() {
        String text = goodText(5);
        text = below(2) == 0 ? unlikely(text) : broken(text);
        if (text.length() > 1990) {
            return;
        }
        feedBoth(text);
        due("read of [" + text + "]", rakes.read(), model.read());
        due("place()", rakes.place(), model.place);
        due("count(8)", rakes.count(8), model.count(8));
        due("count(9)", rakes.count(9), model.count(9));
        due("count(10)", rakes.count(10), model.count(10));
    }

    /** More acts than can be undone, some of them refused, then undone one by one: all is looked at each time. */
    private void longDay(int number) {
        rakes = new TideRakes();
        model = new Model();
        String text = "part a 0 9 9 1; part b 2 8 7 2; part c 1 9 5 4; part d 3 3 3 3; worker w 0 0 9; worker u 9 9 20; ";
        feedBoth(text + pick("tide = if minute - minute / 40 * 40 < 3 then 9 else 2;", "tide = 4;", chanceTide()));
        story = "long day " + number + ": ";
        due("read", rakes.read(), model.read());
        for (int round = 0; round < 3; round++) {
            for (int i = 20 + below(70); i >= 0; i--) {
                handle();
            }
            int seen = below(600);
            boolean there = model.isSeen(model.state, round, seen);
            due("tell()", rakes.tell(round, seen, there), model.tell(round, seen, there));
            for (int i = below(3) == 0 ? 41 : below(41); i >= 0; i--) {
                due("undo()", rakes.undo(), model.undo());
                lookAtAll();
            }
        }
    }

    private void handle() {
        int p = chancePart();
        int w = chanceWorker();
        switch (below(3)) {
            case 0 -> due("send(" + w + ", " + p + ")", rakes.send(w, p), model.send(w, p));
            case 1 -> due("cross(" + p + ")", rakes.cross(p), model.cross(p));
            default -> due("mend(" + w + ", " + p + ")", rakes.mend(w, p), model.mend(w, p));
        }
    }

    private void lookAtAll() {
        for (int p = 0; p < 4; p++) {
            askPart(p);
        }
        askWorker(0);
        askWorker(1);
        due("count(6)", rakes.count(6), model.count(6));
        due("count(8)", rakes.count(8), model.count(8));
        int m = below(600);
        due("seen(" + m + ")", rakes.seen(m), model.seen(model.state, m));
        if (below(8) == 0) {
            int k = below(model.told.size() + 1);
            due("late(" + k + ", NONE)", rakes.late(k, -1), model.late(k, -1));
            due("late(" + k + ", 9)", rakes.late(k, 9), model.late(k, 9));
        }
    }

    private void act() {
        int p = chancePart();
        int w = chanceWorker();
        int slot = chance(2);
        switch (below(13)) {
            case 0, 1, 2, 3 -> due("send(" + w + ", " + p + ")", rakes.send(w, p), model.send(w, p));
            case 4, 5 -> due("cross(" + p + ")", rakes.cross(p), model.cross(p));
            case 6, 7 -> due("mend(" + w + ", " + p + ")", rakes.mend(w, p), model.mend(w, p));
            case 8 -> due("undo()", rakes.undo(), model.undo());
            case 9 -> due("hold(" + slot + ")", rakes.hold(slot), model.hold(slot));
            case 10 -> {
                if (below(3) == 0) {
                    due("restore(" + slot + ")", rakes.restore(slot), model.restore(slot));
                }
            }
            case 11 -> {
                int m = chance(599);
                boolean there = Model.minute(m) && model.part(p) && below(4) > 0 ? model.isSeen(model.state, p, m) : below(2) == 0;
                due("tell(" + p + ", " + m + ", " + there + ")", rakes.tell(p, m, there), model.tell(p, m, there));
            }
            default -> {
                if (below(10) == 0) {
                    int many = model.told.size();
                    model.told.clear();
                    due("forget()", rakes.forget(), many);
                }
            }
        }
    }

    private void ask() {
        int p = chancePart();
        int w = chanceWorker();
        int m = chance(599);
        boolean fits = model.part(p) && Model.minute(m);
        switch (below(12)) {
            case 0 -> due("free(" + p + ", " + m + ")", rakes.free(p, m), fits ? model.freeOf(model.high(p), m) : -1);
            case 1 -> due("when(" + p + ", " + m + ")", rakes.when(p, m),
                fits ? model.startOf(model.high(p), model.text.parts.get(p)[3], m) : -1);
            case 2 -> due("seen(" + m + ")", rakes.seen(m), Model.minute(m) ? model.seen(model.state, m) : -1);
            case 3 -> due("photo(" + m + ")", rakes.photo(m), Model.minute(m) ? model.worth(model.seen(model.state, m)) * model.sun(m) : -1);
            case 4 -> {
                int best = 0;
                int most = 0;
                for (int u = 0; u < 600; u++) {
                    int worth = model.worth(model.seen(model.state, u)) * model.sun(u);
                    if (worth > most) {
                        most = worth;
                        best = u;
                    }
                }
                due("bestMinute()", rakes.bestMinute(), best);
            }
            case 5 -> {
                int n = 0;
                while (fits && m + n < 600 && !model.covered(p, m + n)) {
                    n++;
                }
                due("stays(" + p + ", " + m + ")", rakes.stays(p, m), fits ? n : -1);
            }
            case 6 -> {
                int i = below(4) == 0 ? -1 : chance(6);
                boolean last = below(2) == 0;
                due("window(" + p + ", " + i + ", " + last + ")", rakes.window(p, i, last), model.window(p, i, last));
            }
            case 7 -> {
                int k = chance(model.told.size());
                int i = below(2) == 0 ? -1 : chance(61);
                due("late(" + k + ", " + i + ")", rakes.late(k, i), model.late(k, i));
            }
            case 8 -> due("dog(" + p + ", " + m + ")", rakes.dog(p, m), fits ? model.dogAt(p, m) : -1);
            case 9 -> {
                int limit = chance(below(2) == 0 ? 200 : 20);
                due("fails(" + limit + ")", rakes.fails(limit), model.fails(limit));
            }
            case 10 -> askPart(p);
            default -> askWorker(w);
        }
    }

    private void askPart(int p) {
        Model.State s = model.state;
        for (int what = -1; what < 7; what++) {
            int want = -10000;
            if (model.part(p) && what >= 0 && what < 6) {
                int[] part = model.text.parts.get(p);
                want = new int[] {model.high(p), s.done[p], s.crossed[p] ? 1 : 0, part[2], part[3], s.by[p]}[what];
            }
            due("part(" + p + ", " + what + ")", rakes.part(p, what), want);
        }
    }

    private void askWorker(int w) {
        for (int what = -1; what < 6; what++) {
            boolean fits = model.worker(w) && what >= 0 && what < 5;
            due("worker(" + w + ", " + what + ")", rakes.worker(w, what), fits ? model.state.workers[w][what] : -1);
        }
    }

    private void askMore() {
        int w = chanceWorker();
        int o = chanceWorker();
        int b = chanceBound();
        int m = chance(599);
        int what = chance(2);
        boolean few = model.text.parts.size() <= 4;
        switch (below(11)) {
            case 0 -> due("plan(" + w + ", " + b + ", " + what + ")", rakes.plan(w, b, what), model.plan(w, b, what));
            case 1 -> {
                int i = chance(8);
                due("planAt(" + w + ", " + b + ", " + i + ")", rakes.planAt(w, b, i), model.planAt(w, b, i));
            }
            case 2 -> due("two(" + w + ", " + o + ", " + b + ", " + what + ")", rakes.two(w, o, b, what), model.two(w, o, b, what));
            case 3 -> due("hands(" + b + ", " + what + ")", rakes.hands(b, what), model.hands(b, what));
            case 4 -> {
                if (few && below(4) == 0) {
                    due("spare(" + w + ", " + b + ")", rakes.spare(w, b), model.spare(w, b));
                }
            }
            case 5 -> due("quickest(" + w + ", " + what + ")", rakes.quickest(w, what), model.quickest(w, what));
            case 6 -> due("mends(" + w + ", " + b + ", " + what + ")", rakes.mends(w, b, what), model.mends(w, b, what));
            case 7 -> due("after(" + w + ", " + b + ", " + m + ")", rakes.after(w, b, m), model.after(w, b, m));
            case 8 -> {
                if (few && below(3) == 0) {
                    due("large(" + b + ")", rakes.large(b), model.large(b));
                }
            }
            case 9 -> {
                int n = 1 + chance(49);
                int v = below(4) == 0 ? chance(20000) : model.worth(255) * 50;
                due("hopes(" + m + ", " + v + ", " + n + ")", rakes.hopes(m, v, n), model.hopes(m, v, n));
            }
            default -> {
                int n = 1 + chance(49);
                due("hope(" + m + ", " + n + ")", rakes.hope(m, n), model.hope(m, n));
            }
        }
    }
}
