import java.util.ArrayList;
import java.util.List;

/** What the tests by hand stand on: answers that are due, and objects that are made alike and told apart. */
abstract class Bench {
    static final int BAD = -1, STATE = -2, FULL = -3, NONE = -4;
    static final int LEAST = Integer.MIN_VALUE, MOST = Integer.MAX_VALUE;
    static final String FOUR = "plain 10 2;vain 6 1;shy 20 3;deaf 30 0;band 0 5;band 1 2;glut 14;";
    /** EARS are as many as WEEKS have run, up to 99. */
    static final String SLOW = "plain 0 0;band 0 1;";

    interface Maker {
        PraisedFields make();
    }

    interface Call {
        long on(PraisedFields x);
    }

    interface CallWith {
        long on(PraisedFields x, int v);
    }

    private static final Document DOCUMENT = new Document();

    private static String section = "";
    private static String quote = "";
    private static int wrong = 0;
    private static int checks = 0;

    // ---- what is tested

    static void section(String title) {
        section = title;
        quote = "";
    }

    static void promise(int n) {
        section("Promise " + n);
    }

    /** The test of these words of the document, which must stand there. */
    static void sentence(String words, Runnable test) {
        quote = words;
        hold("the words stand in the document", DOCUMENT.quote(section, words));
        test.run();
        quote = "";
    }

    /** Every word of the section must have been quoted by a sentence. */
    static void allQuoted(String title) {
        section(title);
        due("all words have a test, but for '" + DOCUMENT.unquoted(title) + "'", 0, DOCUMENT.unquoted(title).length());
    }

    static void allQuoted(int firstPromise, int lastPromise) {
        for (int n = firstPromise; n <= lastPromise; n++) {
            allQuoted("Promise " + n);
        }
    }

    static void due(String call, long want, long got) {
        checks++;
        if (got != want) {
            fail(call + " answered " + got + ", due is " + want);
        }
    }

    static void hold(String what, boolean holds) {
        due(what, 1, holds ? 1 : 0);
    }

    private static void fail(String what) {
        wrong++;
        System.out.println(section + (quote.isEmpty() ? "" : " (" + quote + ")") + ": " + what);
    }

    static void finish() {
        System.out.println(checks + " answers, " + wrong + " of them not as due");
        if (wrong != 0) {
            System.exit(1);
        }
    }

    // ---- objects

    static void feedAll(PraisedFields x, String text) {
        for (int i = 0; i < text.length(); i++) {
            x.feed(text.charAt(i));
        }
    }

    static PraisedFields told(String text) {
        PraisedFields x = new PraisedFields();
        feedAll(x, text);
        int lines = x.text();
        if (lines < 0) {
            fail("not taken: " + text + " (" + lines + ")");
        }
        return x;
    }

    static Maker land(String text) {
        return () -> told(text);
    }

    static String times(int n, String part) {
        return part.repeat(n);
    }

    static void layRow(PraisedFields x, int k, int... cells) {
        for (int i = 0; i < cells.length; i++) {
            x.lay(k, i, cells[i]);
        }
    }

    /** Something of everything: SEEN, IMAGES, SHEETS, a FAULT of each sort, bytes on THE TAPE. */
    static PraisedFields rich() {
        PraisedFields x = told(FOUR);
        x.weeks(1);
        x.see(1, 0, 17);
        x.see(2, 3, 27);
        x.keep(0);
        x.alter(1, 1, 50);
        x.glut(30);
        x.keep(1);
        x.alter(2, 0, 1);
        x.sheet(0, 0, 4);
        layRow(x, 0, 0, 1, 1, 2);
        x.sheet(1, 1, 3);
        layRow(x, 1, 1, 0, 1);
        x.sheet(2, 2, 2);
        layRow(x, 2, 1, 3);
        x.read(1, 1, 0, 2);
        x.feed('x');
        x.text();
        feedAll(x, "shy7 7;");
        return x;
    }

    // ---- nothing is changed

    /** A call that is refused, on an object of its own: its answer, and that nothing is changed by it. */
    static void refused(String call, long want, Maker maker, Call c) {
        PraisedFields x = maker.make();
        due(call, want, c.on(x));
        alike(call + " changes nothing", trace(maker.make()), trace(x));
    }

    /** A question: its answer, also when it is asked again, and that nothing is changed by it. */
    static void asked(String call, long want, Maker maker, Call c) {
        refused(call, want, maker, c);
        PraisedFields x = maker.make();
        c.on(x);
        due(call + " asked again", want, c.on(x));
    }

    /**
     * A number from least to most: both are taken, the next on each side and the farthest are BAD,
     * and change nothing. The call has %d for the number.
     */
    static void bounds(String call, Maker maker, int least, long atLeast, int most, long atMost, CallWith c) {
        due(String.format(call, least), atLeast, c.on(maker.make(), least));
        due(String.format(call, most), atMost, c.on(maker.make(), most));
        for (int v : new int[] {least - 1, most + 1, LEAST, MOST}) {
            refused(String.format(call, v), BAD, maker, x -> c.on(x, v));
        }
    }

    static void alike(String what, List<String> want, List<String> got) {
        checks++;
        for (int i = 0; i < Math.max(want.size(), got.size()); i++) {
            String due = i < want.size() ? want.get(i) : "nothing";
            String is = i < got.size() ? got.get(i) : "nothing";
            if (!due.equals(is)) {
                fail(what + ": then " + is + ", due is " + due);
                return;
            }
        }
    }

    /** All that can be told of an object, in at most some 300 calls; the object is used up by it. */
    static List<String> trace(PraisedFields x) {
        List<String> lines = new ArrayList<>();
        look(lines, x);
        lookAtSeen(lines, x);
        lookAtSheets(lines, x);
        for (int k = 0; k < 2; k++) {
            lines.add("back(" + k + ") = " + x.back(k));
            look(lines, x);
        }
        lines.add("text() = " + x.text());
        look(lines, x);
        return lines;
    }

    private static void look(List<String> lines, PraisedFields x) {
        for (int what = 0; what < 7; what++) {
            lines.add("rule(" + what + ") = " + x.rule(what));
        }
        int fields = x.rule(0);
        for (int f = 0; f < fields; f++) {
            for (int what = 0; what < 3; what++) {
                lines.add("field(" + f + ", " + what + ") = " + x.field(f, what));
            }
        }
        int bands = x.rule(1);
        for (int b = 0; b < bands; b++) {
            lines.add("band(" + b + ", 0) = " + x.band(b, 0));
            lines.add("band(" + b + ", 1) = " + x.band(b, 1));
        }
        for (int what = 0; what < 6; what++) {
            lines.add("count(" + what + ") = " + x.count(what));
        }
        lines.add("fault() = " + x.fault());
        lines.add("torn() = " + x.torn());
    }

    /** SEEN are not told by any call; what they leave open is, one by one from the last. */
    private static void lookAtSeen(List<String> lines, PraisedFields x) {
        int fields = x.rule(0);
        for (int n = x.count(0); n > 0; n--) {
            for (int f = 0; f < fields; f++) {
                lines.add("blights(" + f + ") of " + n + " SEEN = " + x.blights(f));
            }
            lines.add("forget(" + (n - 1) + ") = " + x.forget(n - 1));
        }
    }

    private static void lookAtSheets(List<String> lines, PraisedFields x) {
        int bands = x.rule(1);
        for (int k = 0; k < 4; k++) {
            for (int lane = 0; lane < 3; lane++) {
                lines.add("read(" + k + ", " + lane + ", 0, 20) = " + x.read(k, lane, 0, 20));
                lines.add("torn() = " + x.torn());
                for (int b = 0; b < bands; b++) {
                    lines.add("band(" + b + ", 0) = " + x.band(b, 0));
                }
            }
        }
    }
}
