/** What the tests have in common: texts are fed, answers are compared. */
final class Bench {
    static int wrong = 0;
    static int asked = 0;

    private Bench() {
    }

    static void due(String what, long got, long want) {
        asked++;
        if (got != want) {
            wrong++;
            if (wrong <= 50) {
                System.out.println(what + " answered " + got + ", due is " + want);
            }
        }
    }

    static void due(String what, boolean got, boolean want) {
        due(what, got ? 1 : 0, want ? 1 : 0);
    }

    /** Feeds a text by its bytes: what fills up the last twenty is taken back. */
    static void feed(TideRakes rakes, String text) {
        int length = text.length();
        for (int at = 0; at < length; at += 20) {
            int[] words = new int[5];
            for (int i = 0; i < 20; i++) {
                int c = at + i < length ? text.charAt(at + i) : ' ';
                words[i / 4] = words[i / 4] << 8 | c & 255;
            }
            rakes.feed(words[0], words[1], words[2], words[3], words[4]);
        }
        rakes.back((20 - length % 20) % 20);
    }

    static int read(TideRakes rakes, String text) {
        feed(rakes, text);
        return rakes.read();
    }

    static TideRakes told(String text) {
        TideRakes rakes = new TideRakes();
        due("read of " + text, read(rakes, text), 0);
        return rakes;
    }

    static void end() {
        System.out.println(asked + " answers, " + wrong + " of them wrong");
        if (wrong != 0) {
            System.exit(1);
        }
    }
}
