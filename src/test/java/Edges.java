import java.io.IOException;
import java.nio.file.Files;
import java.nio.file.Path;
import java.util.function.Consumer;
import java.util.function.Supplier;

/** The sentence of the document that is being tried: every answer that is not due names it and its promise. */
final class Edges {
    static final int LEAST = Integer.MIN_VALUE;
    static final int MOST = Integer.MAX_VALUE;
    private static final int PROMISES = 39;
    private static final String DOCUMENT = document();
    private static final int[] SENTENCES = new int[PROMISES + 1];
    private static String now = "";

    private Edges() {
    }

    /** What follows tries these words, which the document says of this promise. */
    static void sentence(int promise, String words) {
        SENTENCES[promise]++;
        now = "promise " + promise + ", \"" + words + "\": ";
        if (!DOCUMENT.isEmpty()) {
            due("stands in the document", DOCUMENT.contains(words), true);
        }
    }

    static void everyPromiseIsNamed() {
        for (int promise = 1; promise <= PROMISES; promise++) {
            Bench.due("a sentence of promise " + promise + " is tried", SENTENCES[promise] > 0, true);
        }
    }

    static void due(String call, long got, long want) {
        Bench.due(now + call, got, want);
    }

    static void due(String call, boolean got, boolean want) {
        Bench.due(now + call, got, want);
    }

    /** The answers of one call in a row, the first by 0. */
    static void dueRow(String call, java.util.function.IntUnaryOperator got, int... want) {
        for (int i = 0; i < want.length; i++) {
            due(call + " " + i, got.applyAsInt(i), want[i]);
        }
    }

    static TideRakes told(String text) {
        TideRakes rakes = new TideRakes();
        due("read of [" + text + "]", Bench.read(rakes, text), 0);
        return rakes;
    }

    static void dueFault(String text, int number, int place) {
        TideRakes rakes = new TideRakes();
        due("read of [" + text + "]", Bench.read(rakes, text), number);
        due("place in [" + text + "]", rakes.place(), place);
    }

    static void dueNoFault(String text) {
        dueFault(text, 0, TideRakes.NONE);
    }

    /** Two alike objects, one of them asked for what can't be: they look alike then, and at each step back. */
    static void dueNothing(String call, Supplier<TideRakes> made, Consumer<TideRakes> refused) {
        TideRakes asked = made.get();
        TideRakes left = made.get();
        refused.accept(asked);
        String found = look(asked);
        String wanted = look(left);
        due(call + " changes nothing [" + found + "], [" + wanted + "]", found.equals(wanted), true);
        boolean more = true;
        for (int back = 1; more && back <= 41; back++) {
            more = left.undo();
            due(call + " changes no undo " + back, asked.undo(), more);
            found = glance(asked);
            wanted = glance(left);
            due(call + " changes nothing " + back + " back [" + found + "], [" + wanted + "]", found.equals(wanted), true);
        }
    }

    /** All that can be seen of an object without a change of it, by some 200 calls at most. */
    static String look(TideRakes rakes) {
        StringBuilder all = new StringBuilder(glance(rakes));
        for (int what = 0; what < 11; what++) {
            all.append(" c").append(rakes.count(what));
        }
        for (int part = 0; part < rakes.count(0); part++) {
            all.append(" p").append(rakes.part(part, 0)).append(',').append(rakes.part(part, 3)).append(',').append(rakes.part(part, 4))
                .append(',').append(rakes.part(part, 5)).append(" e").append(rakes.error(part, false)).append(" w")
                .append(rakes.window(part, 0, true)).append(" d").append(rakes.dog(part, 20));
        }
        for (int worker = 0; worker < rakes.count(1); worker++) {
            all.append(" w").append(rakes.worker(worker, 0)).append(',').append(rakes.worker(worker, 1)).append(',')
                .append(rakes.worker(worker, 3)).append(',').append(rakes.worker(worker, 4)).append(" plan")
                .append(rakes.plan(worker, 600, 2)).append(',').append(rakes.planAt(worker, 600, 0)).append(" mends")
                .append(rakes.mends(worker, 600, 2)).append(" quickest").append(rakes.quickest(worker, 0)).append(" spare")
                .append(rakes.spare(worker, 600)).append(" after").append(rakes.after(worker, 600, 300));
        }
        for (int minute : new int[] {0, 1, 2, 3, 5, 10, 14, 20, 40, 54, 100, 300, 405, 412, 562, 599}) {
            all.append(" s").append(rakes.seen(minute)).append(" t").append(rakes.minute(minute, 0));
        }
        all.append(" two").append(rakes.two(0, 1, 600, 1)).append(',').append(rakes.two(0, 1, 600, 2)).append(" best")
            .append(rakes.bestMinute()).append(" fails").append(rakes.fails(3));
        all.append(" hands").append(rakes.hands(600, 1)).append(" large").append(rakes.large(600));
        all.append(" hope").append(rakes.hope(20, 9)).append(" late").append(rakes.late(rakes.count(9), -1));
        return all.toString();
    }

    private static String glance(TideRakes rakes) {
        StringBuilder all = new StringBuilder();
        for (int part = 0; part < 3; part++) {
            all.append(' ').append(rakes.part(part, 1)).append(',').append(rakes.part(part, 2));
        }
        for (int worker = 0; worker < 3; worker++) {
            all.append(' ').append(rakes.worker(worker, 2));
        }
        return all.append(' ').append(rakes.count(6)).toString();
    }

    /** In one row, as sentences stand there over lines; empty where the document is not at hand. */
    private static String document() {
        try {
            return Files.readString(Path.of("../shared/DOC.md")).replaceAll("\\s+", " ");
        } catch (IOException absent) {
            return "";
        }
    }
}
