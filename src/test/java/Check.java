import java.io.IOException;
import java.nio.file.Files;
import java.nio.file.Path;
import java.util.NoSuchElementException;

/** What the tests have in common: texts are told, answers compared, and what is wrong is printed and counted. */
class Check {
    static final Class<?> NSE = NoSuchElementException.class;
    static final Class<?> IAE = IllegalArgumentException.class;
    static final int NONE = PunchCards.NONE;
    static final int LEAST = Integer.MIN_VALUE;
    static final int MOST = Integer.MAX_VALUE;
    static final String LOOM = "threads 4;card 5 1 0;card 3 1 8;card 0 2 0;lace 0 1 0 2;figure 1 2 1 3;figure 2 1 0 0;";
    private static final String DOCUMENT = document();
    private static String about = "";
    private static int sentences = 0;
    private static int checks = 0;
    private static int wrong = 0;

    interface Call {
        int go();
    }

    interface CallOf {
        int go(int n);
    }

    private static String document() {
        try {
            return Files.readString(Path.of("../shared/DOC.md")).replaceAll("\\s+", " ");
        } catch (IOException e) {
            return "";
        }
    }

    private static void wrong(String text) {
        wrong++;
        System.out.println(about + ": " + text);
    }

    static void about(String what) {
        about = what;
    }

    /** A test of one sentence's own: it fails, too, if the document doesn't say it. */
    static void says(String sentence, Runnable test) {
        about("'" + sentence + "'");
        sentences++;
        if (!DOCUMENT.isEmpty() && !DOCUMENT.contains(sentence)) {
            wrong("the document doesn't say so");
        }
        int before = checks;
        try {
            test.run();
        } catch (RuntimeException e) {
            wrong("stopped by " + e);
        }
        if (checks == before) {
            wrong("nothing is tested");
        }
    }

    static void is(String call, long got, long due) {
        checks++;
        if (got != due) {
            wrong(call + " answered " + got + ", due is " + due);
        }
    }

    static void is(String call, boolean got, boolean due) {
        is(call, got ? 1 : 0, due ? 1 : 0);
    }

    static void fails(String call, Class<?> due, Call c) {
        checks++;
        String got;
        try {
            got = "" + c.go();
        } catch (RuntimeException e) {
            got = e.getClass().getName();
        }
        if (!got.equals(due.getName())) {
            wrong(call + " answered " + got + ", due is " + due.getName());
        }
    }

    /** What lies next to a range on either side, and farthest from it, throws. */
    static void outside(String call, Class<?> due, int low, int high, CallOf c) {
        for (int n : new int[] {low - 1, high + 1, LEAST, MOST}) {
            fails(call + " of " + n, due, () -> c.go(n));
        }
    }

    /** What lies next to a range on either side, and farthest from it, gives NONE. */
    static void refused(String call, int low, int high, CallOf c) {
        for (int n : new int[] {low - 1, high + 1, LEAST, MOST}) {
            is(call + " of " + n, c.go(n), NONE);
        }
    }

    static void feed(PunchCards x, String text) {
        StringBuilder s = new StringBuilder(text);
        while (s.length() % 20 != 0) {
            s.append(' ');
        }
        for (int i = 0; i < s.length(); i += 20) {
            int[] n = new int[5];
            for (int k = 0; k < 20; k++) {
                n[k / 4] = n[k / 4] << 8 | s.charAt(i + k) & 255;
            }
            x.feed(n[0], n[1], n[2], n[3], n[4]);
        }
    }

    static int tell(PunchCards x, String text) {
        feed(x, text);
        return x.chapel(text.length());
    }

    static PunchCards of(String text) {
        PunchCards x = new PunchCards();
        is("'" + text + "'", tell(x, text), 0);
        is("fault() of '" + text + "'", x.fault(), NONE);
        return x;
    }

    static void faulty(String text, int kind, int place) {
        PunchCards x = new PunchCards();
        is("'" + text + "'", tell(x, text), kind);
        is("fault() of '" + text + "'", x.fault(), place);
        is("count(13) behind '" + text + "'", x.count(13), 1);
    }

    static void finish(String name) {
        String said = sentences > 0 ? sentences + " sentences, " : "";
        System.out.println(name + ": " + said + checks + " checks, " + wrong + " wrong");
        System.exit(wrong == 0 ? 0 : 1);
    }
}
