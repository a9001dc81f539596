/** The boundary cases of promises 1 to 8 (a new object, the text), each sentence with a test of its own. */
public final class TextBoundaryTest extends Bench {
    private static final String SIX = times(6, "shy0 0;");

    private static Maker tape(String text) {
        return () -> {
            PraisedFields x = new PraisedFields();
            feedAll(x, text);
            return x;
        };
    }

    // ---- 1

    private static void newObject() {
        Maker made = PraisedFields::new;
        asked("rule(0)", 0, made, x -> x.rule(0));
        asked("rule(1)", 0, made, x -> x.rule(1));
        asked("rule(6)", 0, made, x -> x.rule(6));
        asked("count(3)", NONE, made, x -> x.count(3));
        asked("count(4)", 0, made, x -> x.count(4));
        asked("count(5)", 0, made, x -> x.count(5));
        refused("field(0, 0)", BAD, made, x -> x.field(0, 0));
        refused("band(0, 0)", BAD, made, x -> x.band(0, 0));
        refused("alter(0, 0, 0)", BAD, made, x -> x.alter(0, 0, 0));
        refused("march(0, 0)", BAD, made, x -> x.march(0, 0));
        refused("play(0, 1)", BAD, made, x -> x.play(0, 1));
        refused("hire(0, 1)", BAD, made, x -> x.hire(0, 1));
        refused("leave(1)", BAD, made, x -> x.leave(1));
        for (int k = 0; k < 4; k++) {
            int sheet = k;
            refused("lay(" + k + ", 0, 0)", -11, made, x -> x.lay(sheet, 0, 0));
            PraisedFields x = made.make();
            due("read(" + k + ", 0, 0, 1)", 0, x.read(k, 0, 0, 1));
            due("torn()", 1, x.torn());
        }
    }

    private static void questionsToNothing() {
        Maker made = PraisedFields::new;
        asked("weeks(0)", 0, made, x -> x.weeks(0));
        due("weeks(30)", 0, made.make().weeks(30));
        asked("runs(60, 0)", 0, made, x -> x.runs(60, 0));
        asked("runs(60, 4)", 0, made, x -> x.runs(60, 4));
        refused("ahead(0, 0, 0)", BAD, made, x -> x.ahead(0, 0, 0));
        refused("late(0, 0)", BAD, made, x -> x.late(0, 0));
        refused("order(0)", STATE, made, x -> x.order(0));
        asked("move(60, 0)", NONE, made, x -> x.move(60, 0));
        asked("still(60, 0)", NONE, made, x -> x.still(60, 0));
        refused("need(0, 0, 0)", BAD, made, x -> x.need(0, 0, 0));
        asked("swap(60, 0)", NONE, made, x -> x.swap(60, 0));
        refused("bear(0, 0, 0)", BAD, made, x -> x.bear(0, 0, 0));
        refused("kind(0, 0, 0)", BAD, made, x -> x.kind(0, 0, 0));
        refused("luck(5, 0, 0, 0, 0)", BAD, made, x -> x.luck(5, 0, 0, 0, 0));
        asked("mean(5, 8, 0)", 0, made, x -> x.mean(5, 8, 0));
        asked("mean(5, 8, 1)", 1, made, x -> x.mean(5, 8, 1));
        refused("see(0, 0, 0)", BAD, made, x -> x.see(0, 0, 0));
        asked("forget(0)", 0, made, x -> x.forget(0));
        refused("forget(1)", BAD, made, x -> x.forget(1));
        refused("kinds(0)", BAD, made, x -> x.kinds(0));
        refused("blights(0)", BAD, made, x -> x.blights(0));
        refused("ask(0, 0)", BAD, made, x -> x.ask(0, 0));
        refused("drift(1, 1, 0)", STATE, made, x -> x.drift(1, 1, 0));
        refused("back(0)", STATE, made, x -> x.back(0));
        refused("back(1)", STATE, made, x -> x.back(1));
        asked("torn()", 0, made, x -> x.torn());
        asked("fault()", 0, made, x -> x.fault());
        asked("end(0)", 0, made, x -> x.end(0));
        asked("text()", 0, made, x -> x.text());
    }

    // ---- 2 to 5

    private static void byteComes() {
        bounds("feed(%d)", PraisedFields::new, 0, 1, 127, 1, (x, v) -> x.feed(v));
        bounds("feed(%d) behind 7", Bench::rich, 0, 8, 127, 8, (x, v) -> x.feed(v));
        PraisedFields x = new PraisedFields();
        String text = "shy 1 2;";
        for (int i = 0; i < text.length(); i++) {
            due("feed, byte " + i, i + 1, x.feed(text.charAt(i)));
            due("count(2), byte " + i, i + 1, x.count(2));
        }
        due("the bytes come one behind another", 1, x.text());
        due("feed(0) behind text()", 1, x.feed(0));
    }

    private static void tapeIsFull() {
        PraisedFields x = new PraisedFields();
        for (int i = 1; i <= 160; i++) {
            due("feed(32), the " + i + "th", i, x.feed(32));
        }
        due("feed(32), the 161st", FULL, x.feed(32));
        due("count(2)", 160, x.count(2));
        Maker full = tape(times(152, " ") + "shy 1 2;");
        refused("feed(59), FULL", FULL, full, y -> y.feed(';'));
        refused("feed(0), FULL", FULL, full, y -> y.feed(0));
        refused("feed(127), FULL", FULL, full, y -> y.feed(127));
        refused("feed(-1), BAD though FULL", BAD, full, y -> y.feed(-1));
        refused("feed(128), BAD though FULL", BAD, full, y -> y.feed(128));
        x.end(159);
        due("feed(32) behind 159", 160, x.feed(32));
        x.text();
        due("feed(32) behind text()", 1, x.feed(32));
    }

    private static void firstBytes() {
        Maker seven = tape("glut 12");
        bounds("end(%d) of 7", seven, 0, 7, 7, 7, (x, v) -> x.end(v));
        bounds("end(%d) of none", PraisedFields::new, 0, 0, 0, 0, (x, v) -> x.end(v));
        bounds("end(%d) of 160", tape(times(160, "z")), 0, 160, 160, 160, (x, v) -> x.end(v));
        asked("end(7) of 7 keeps all", 7, seven, x -> x.end(7));
        for (int n = 0; n <= 7; n++) {
            PraisedFields x = seven.make();
            due("end(" + n + ")", 7, x.end(n));
            due("count(2) behind end(" + n + ")", n, x.count(2));
            due("feed(59) behind end(" + n + ")", n + 1, x.feed(';'));
        }
        PraisedFields x = seven.make();
        x.end(6);
        x.feed(';');
        due("text() of what is kept", 1, x.text());
        due("GLUT", 1, x.rule(5));
    }

    private static void farFromTheTape() {
        for (int n : new int[] {-1, 8, 160, 161, LEAST, MOST}) {
            refused("end(" + n + ") of 7", BAD, Bench::rich, x -> x.end(n));
        }
    }

    private static void tellsAll() {
        int[] lines = {0, 1, 2, 11};
        String[] texts = {"", "glut5;", "shy1 1;glut5;", SIX + times(4, "band5 9;") + "glut99;"};
        for (int i = 0; i < lines.length; i++) {
            PraisedFields x = rich();
            x.end(0);
            feedAll(x, texts[i]);
            due("text() of '" + texts[i] + "'", lines[i], x.text());
            due("THE TAPE is empty then", 0, x.count(2));
            due("fault()", 0, x.fault());
            due("text() again, of nothing", 0, x.text());
            due("FIELDS, told by nothing", 0, x.rule(0));
        }
    }

    private static void toldStays() {
        String[] texts = {"$", "glut", "glut 0;", "glut5;glut", SIX + "shy", "band0 1;", " $"};
        int[] answers = {-10, -14, -15, -16, -52, -18, -11};
        for (int i = 0; i < texts.length; i++) {
            String text = texts[i];
            Maker emptyTape = () -> {
                PraisedFields x = told(FOUR);
                x.see(1, 0, 13);
                x.keep(1);
                x.sheet(0, 0, 2);
                x.read(0, 1, 0, 1);
                feedAll(x, text);
                x.text();
                return x;
            };
            // Told a second time it leaves even the FAULT as it was.
            refused("text() of '" + text + "'", answers[i], emptyTape, x -> {
                feedAll(x, text);
                return x.text();
            });
            PraisedFields x = emptyTape.make();
            due("FIELDS stay", 4, x.rule(0));
            due("BANDS stay", 2, x.rule(1));
            due("GLUT stays", 14, x.rule(5));
            due("ALL EARS stay", 66, x.rule(4));
            due("SEEN stay", 1, x.count(0));
            due("IMAGES stay", 1, x.count(1));
            due("SHEETS stay", 2, x.count(3));
            due("torn() stays", 3, x.torn());
            due("THE TAPE is empty", 0, x.count(2));
        }
    }

    private static void latestFault() {
        String[] texts = {"$", "glut", "glut 0;", "glut5;glut", SIX + "shy", "band0 1;"};
        PraisedFields x = new PraisedFields();
        due("ahead of all texts", 0, x.fault());
        for (int i = 0; i < texts.length; i++) {
            feedAll(x, texts[i]);
            due("ahead of text()", i, x.fault());
            x.text();
            due("FAULT " + (i + 1), i + 1, x.fault());
        }
        x.feed(128);
        x.feed(' ');
        x.end(0);
        x.end(5);
        x.read(0, 0, 0, 1);
        x.sheet(0, 0, -1);
        due("others leave it", 6, x.fault());
        x.text();
        due("a text that is taken", 0, x.fault());
    }

    // ---- 6 to 8

    private static void rules() {
        int[] none = {0, 0, 0, 0, 0, 20};
        int[] four = {4, 2, 1, 4, 68, 14};
        for (int what = 0; what < 6; what++) {
            int asked = what;
            asked("rule(" + what + "), nothing told", none[what], PraisedFields::new, x -> x.rule(asked));
            PraisedFields x = told(FOUR);
            x.weeks(1);
            due("rule(" + what + "), a WEEK on", four[what], x.rule(what));
        }
        PraisedFields x = told(times(6, "deaf99 0;") + times(4, "band0 9;") + "glut99;");
        due("FIELDS, the most", 6, x.rule(0));
        due("BANDS, the most", 4, x.rule(1));
        due("ALL EARS, the most", 594, x.rule(4));
        due("GLUT, the most", 99, x.rule(5));
        for (int i = 0; i < 33; i++) {
            x.weeks(30);
        }
        x.weeks(9);
        due("WEEK, the most", 999, x.rule(2));
    }

    private static void hearing() {
        for (int f = 0; f < 6; f++) {
            PraisedFields x = told(SIX + "band" + f + " 1;");
            due("rule(6), FIELD " + f, 1 << f, x.rule(6));
            x.hire(f, 9);
            due("rule(6), FIELD " + f + " by two", 1 << f, x.rule(6));
            x.leave(0);
            due("rule(6), by none", 0, x.rule(6));
        }
        due("rule(6), HEARD is BLIGHT", 1, told("plain9 9;band0 9;").rule(6));
    }

    private static void ruleBad() {
        bounds("rule(%d)", land(FOUR), 0, 4, 6, 3, (x, v) -> x.rule(v));
    }

    private static void ofAField() {
        int[] plain = {0, 10, 2, 5, 83, 1};
        int[] deaf = {3, 30, 0, 0, 80, 0};
        for (int what = 0; what < 6; what++) {
            int asked = what;
            asked("field(0, " + what + ")", plain[what], land(FOUR), x -> x.field(0, asked));
            asked("field(3, " + what + ")", deaf[what], land(FOUR), x -> x.field(3, asked));
        }
        due("field(0, 4), the least", 62, told("vain0 9;").field(0, 4));
        due("field(0, 4), the most", 152, told("vain99 0;" + times(4, "band0 9;")).field(0, 4));
        due("field(0, 4), EARS are not looked at", 98, told("vain99 0;band0 9;").field(0, 4));
    }

    private static void fieldBad() {
        bounds("field(%d, 1)", land(FOUR), 0, 10, 3, 30, (x, v) -> x.field(v, 1));
        bounds("field(%d, 4)", land(SIX), 0, 80, 5, 80, (x, v) -> x.field(v, 4));
        bounds("field(2, %d)", land(FOUR), 0, 2, 5, 1, (x, v) -> x.field(2, v));
        refused("field(0, 0), no FIELDS", BAD, PraisedFields::new, x -> x.field(0, 0));
        refused("field(most, least)", BAD, land(FOUR), x -> x.field(MOST, LEAST));
    }

    private static void ofABand() {
        asked("band(0, 0)", 0, land(FOUR), x -> x.band(0, 0));
        asked("band(0, 1)", 5, land(FOUR), x -> x.band(0, 1));
        asked("band(1, 0)", 1, land(FOUR), x -> x.band(1, 0));
        asked("band(1, 1)", 2, land(FOUR), x -> x.band(1, 1));
        String four = times(6, "shy0 0;") + "band5 9;band0 1;band5 1;band0 9;";
        asked("band(3, 0)", 0, land(four), x -> x.band(3, 0));
        asked("band(3, 1)", 9, land(four), x -> x.band(3, 1));
        asked("band(0, 0), the last FIELD", 5, land(four), x -> x.band(0, 0));
    }

    private static void bandBad() {
        bounds("band(%d, 1)", land(FOUR), 0, 5, 1, 2, (x, v) -> x.band(v, 1));
        bounds("band(%d, 0), four", land("shy0 0;" + times(4, "band0 7;")), 0, 0, 3, 0, (x, v) -> x.band(v, 0));
        bounds("band(1, %d)", land(FOUR), 0, 1, 1, 2, (x, v) -> x.band(1, v));
        refused("band(0, 0), no BANDS", BAD, land("shy0 0;"), x -> x.band(0, 0));
        PraisedFields x = told(FOUR);
        x.leave(1);
        due("band(1, 0), it has left", BAD, x.band(1, 0));
    }

    private static void textCalls() {
        promise(1);
        sentence("No FIELDS, no BANDS; SHEETS of nothing.", TextBoundaryTest::newObject);
        sentence("No FIELDS, no BANDS; SHEETS of nothing.", TextBoundaryTest::questionsToNothing);
        promise(2);
        sentence("A byte (0 to 127) comes behind THE TAPE: how many it has. BAD;", TextBoundaryTest::byteComes);
        sentence("FULL: more than 160.", TextBoundaryTest::tapeIsFull);
        promise(3);
        sentence("THE TAPE keeps its first n bytes: how many it had.", TextBoundaryTest::firstBytes);
        sentence("BAD.", TextBoundaryTest::farFromTheTape);
        promise(4);
        sentence("THE TAPE (empty then) tells all: how many lines;", TextBoundaryTest::tellsAll);
        sentence("-10 less the place of its FAULT: that which was told stays.", TextBoundaryTest::toldStays);
        promise(5);
        sentence("The FAULT of the latest text(); 0.", TextBoundaryTest::latestFault);
    }

    private static void lookCalls() {
        promise(6);
        sentence("0 FIELDS, 1 BANDS, 2 WEEK, 3 SHEAVES, 4 ALL EARS, 5 GLUT,", TextBoundaryTest::rules);
        sentence("6 FIELDS at which anything is HEARD (bits).", TextBoundaryTest::hearing);
        sentence("BAD.", TextBoundaryTest::ruleBad);
        promise(7);
        sentence("Of a FIELD: 0 KIND, 1 EARS, 2 BLIGHT, 3 what is HEARD, "
            + "4 80 more than what it GROWS (as it would now), 5 what it HEEDS.", TextBoundaryTest::ofAField);
        sentence("BAD.", TextBoundaryTest::fieldBad);
        promise(8);
        sentence("Of a BAND: 0 AT, 1 LOUD.", TextBoundaryTest::ofABand);
        sentence("BAD.", TextBoundaryTest::bandBad);
    }

    public static void main(String[] args) {
        textCalls();
        lookCalls();
        allQuoted(1, 8);
        finish();
    }
}
