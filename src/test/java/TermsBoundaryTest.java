import java.util.List;
import java.util.stream.Collectors;

/** The boundary cases of the document's Terms, each sentence with a test of its own. */
public final class TermsBoundaryTest extends Bench {
    private static final String SIX = "plain0 0;vain99 9;shy0 9;deaf99 0;plain5 5;vain6 6;";
    private static final String BANDS = "band0 1;band5 9;band5 2;band0 3;";

    private static PraisedFields fullTape() {
        PraisedFields x = new PraisedFields();
        feedAll(x, times(160, " "));
        return x;
    }

    private static PraisedFields lateWeek() {
        PraisedFields x = told(SLOW);
        for (int i = 0; i < 33; i++) {
            x.weeks(30);
        }
        return x;
    }

    private static PraisedFields sixSeen() {
        PraisedFields x = told(SLOW);
        for (int n = 0; n < 6; n++) {
            x.see(n, 0, n);
        }
        return x;
    }

    // ---- the object, the answers

    private static void calls() {
        PraisedFields x = new PraisedFields();
        for (int i = 1; i <= 511; i++) {
            x.glut(1 + i % 99);
        }
        due("the 512th call", 1 + 511 % 99, x.glut(5));
    }

    private static void answers() {
        due("BAD", -1, PraisedFields.BAD);
        due("STATE", -2, PraisedFields.STATE);
        due("FULL", -3, PraisedFields.FULL);
        due("NONE", -4, PraisedFields.NONE);
        refused("no such FIELD", BAD, Bench::rich, x -> x.field(4, 0));
        refused("no such BAND", BAD, Bench::rich, x -> x.band(2, 0));
        refused("no such IMAGE", BAD, Bench::rich, x -> x.back(2));
        refused("no such SHEET", BAD, Bench::rich, x -> x.lay(4, 0, 0));
        refused("BAD ahead of FULL, feed", BAD, TermsBoundaryTest::fullTape, x -> x.feed(128));
        refused("BAD ahead of FULL, hire", BAD, land(SIX + BANDS), x -> x.hire(6, 1));
        refused("BAD ahead of FULL, weeks", BAD, TermsBoundaryTest::lateWeek, x -> x.weeks(31));
        refused("BAD ahead of FULL, see", BAD, TermsBoundaryTest::sixSeen, x -> x.see(21, 0, 0));
        refused("BAD ahead of STATE, order", BAD, PraisedFields::new, x -> x.order(14));
        refused("BAD ahead of STATE, drift", BAD, PraisedFields::new, x -> x.drift(1, 61, 0));
        refused("BAD ahead of STATE, back", BAD, PraisedFields::new, x -> x.back(2));
        refused("STATE ahead of NONE, order", STATE, PraisedFields::new, x -> x.order(10));
        refused("BAD ahead of NONE, order", BAD, land("plain 0 0;"), x -> x.order(14));
        refused("BAD ahead of NONE, move", BAD, land("plain 0 0;"), x -> x.move(0, 2));
        refused("BAD ahead of NONE, still", BAD, land("plain 0 0;"), x -> x.still(0, 2));
        refused("BAD ahead of NONE, swap", BAD, land("plain 0 0;"), x -> x.swap(0, 2));
        refused("BAD ahead of NONE, ask", BAD, land("deaf 0 0;"), x -> x.ask(0, 2));
    }

    private static void nothingChanges() {
        refused("feed(128)", BAD, Bench::rich, x -> x.feed(128));
        refused("end(8)", BAD, Bench::rich, x -> x.end(8));
        refused("alter(0, 1, 100)", BAD, Bench::rich, x -> x.alter(0, 1, 100));
        refused("march(0, 4)", BAD, Bench::rich, x -> x.march(0, 4));
        refused("play(0, 10)", BAD, Bench::rich, x -> x.play(0, 10));
        refused("glut(100)", BAD, Bench::rich, x -> x.glut(100));
        refused("hire(4, 1)", BAD, Bench::rich, x -> x.hire(4, 1));
        refused("leave(3)", BAD, Bench::rich, x -> x.leave(3));
        refused("weeks(31)", BAD, Bench::rich, x -> x.weeks(31));
        refused("see(21, 0, 0)", BAD, Bench::rich, x -> x.see(21, 0, 0));
        refused("forget(3)", BAD, Bench::rich, x -> x.forget(3));
        refused("keep(2)", BAD, Bench::rich, x -> x.keep(2));
        refused("sheet(0, 0, -1)", -14, Bench::rich, x -> x.sheet(0, 0, -1));
        refused("sheet(0, 0, 41)", BAD, Bench::rich, x -> x.sheet(0, 0, 41));
        refused("lay(0, 4, 1)", -12, Bench::rich, x -> x.lay(0, 4, 1));
        refused("read(0, 3, 0, 1)", BAD, Bench::rich, x -> x.read(0, 3, 0, 1));
        refused("feed(32), FULL", FULL, TermsBoundaryTest::fullTape, x -> x.feed(32));
        refused("hire(0, 1), FULL", FULL, land(SIX + BANDS), x -> x.hire(0, 1));
        refused("weeks(10), FULL", FULL, TermsBoundaryTest::lateWeek, x -> x.weeks(10));
        refused("see(0, 0, 0), FULL", FULL, TermsBoundaryTest::sixSeen, x -> x.see(0, 0, 0));
        refused("back(0), STATE", STATE, land(SIX + BANDS), x -> x.back(0));
    }

    private static void lowestTerms() {
        // Without hail 8 EARS come in 8 WEEKS; with it there are fewer.
        for (int v = 0; v <= 10; v++) {
            PraisedFields x = told(SLOW);
            long top = (long) Math.pow(10 - v, 8);
            long bottom = 100000000;
            for (int p : new int[] {2, 5}) {
                while (top % p == 0 && bottom % p == 0) {
                    top /= p;
                    bottom /= p;
                }
            }
            due("numerator, hail by " + v, top, x.luck(v, 0, 8, 8, 0));
            due("denominator, hail by " + v, v == 10 ? 1 : bottom, x.luck(v, 0, 8, 8, 1));
        }
        due("0 by 1, luck, numerator", 0, told(SLOW).luck(3, 0, 8, 9, 0));
        due("0 by 1, luck, denominator", 1, told(SLOW).luck(3, 0, 8, 9, 1));
        due("0 by 1, mean, numerator", 0, told("deaf0 0;").mean(3, 8, 0));
        due("0 by 1, mean, denominator", 1, told("deaf0 0;").mean(3, 8, 1));
        due("6 by 10, numerator", 3, told(SLOW).mean(4, 1, 0));
        due("6 by 10, denominator", 5, told(SLOW).mean(4, 1, 1));
    }

    // ---- fields, bands

    private static void fields() {
        PraisedFields x = told(SIX);
        int[][] rows = {{0, 0, 0}, {1, 99, 9}, {2, 0, 9}, {3, 99, 0}, {0, 5, 5}, {1, 6, 6}};
        due("FIELDS", 6, x.rule(0));
        for (int f = 0; f < 6; f++) {
            for (int what = 0; what < 3; what++) {
                due("field(" + f + ", " + what + ")", rows[f][what], x.field(f, what));
            }
        }
        bounds("field(%d, 1)", land(SIX), 0, 0, 5, 6, (y, v) -> y.field(v, 1));
        bounds("field(%d, 2), one FIELD", land("shy9 9;"), 0, 9, 0, 9, (y, v) -> y.field(v, 2));
        refused("field(0, 0), none", BAD, PraisedFields::new, y -> y.field(0, 0));
        faulty(SIX + "shy1 1;", 51, 5);
    }

    private static void bands() {
        PraisedFields x = told(SIX + BANDS);
        int[][] rows = {{0, 1}, {5, 9}, {5, 2}, {0, 3}};
        due("BANDS", 4, x.rule(1));
        for (int b = 0; b < 4; b++) {
            due("band(" + b + ", 0)", rows[b][0], x.band(b, 0));
            due("band(" + b + ", 1)", rows[b][1], x.band(b, 1));
        }
        bounds("band(%d, 1)", land(SIX + BANDS), 0, 1, 3, 3, (y, v) -> y.band(v, 1));
        bounds("band(%d, 1), one BAND", land("shy1 1;band0 9;"), 0, 9, 0, 9, (y, v) -> y.band(v, 1));
        refused("band(0, 0), none", BAD, land(SIX), y -> y.band(0, 0));
        faulty("shy1 1;" + times(4, "band0 1;") + "band0 1;", 39, 5);
    }

    private static void heard() {
        PraisedFields x = told(SIX + BANDS);
        due("two BANDS", 4, x.field(0, 3));
        due("two others", 11, x.field(5, 3));
        due("none", 0, x.field(1, 3));
        due("the most", 36, told("deaf0 0;" + times(4, "band0 9;")).field(0, 3));
        due("the least", 1, told("deaf0 0;band0 1;").field(0, 3));
    }

    private static void numbersAtFirst() {
        for (PraisedFields x : new PraisedFields[] {new PraisedFields(), told("plain 99 0;")}) {
            due("GLUT at first", 20, x.rule(5));
            due("SHEAVES at first", 0, x.rule(3));
            due("WEEK at first", 0, x.rule(2));
        }
        bounds("glut(%d)", PraisedFields::new, 1, 20, 99, 20, (x, v) -> x.glut(v));
    }

    private static void grows() {
        int[] surplus = {-9, -8, -1, 0, 1, 2, 3, 9};
        int[][] due = {
            {-9, -8, -1, 0, 1, 2, 3, 9}, {-18, -16, -2, 0, 2, 4, 6, 18}, {-9, -8, -1, 0, 0, 1, 1, 4},
            {-9, -8, -1, 0, 0, 0, 0, 0}};
        for (int kind = 0; kind < 4; kind++) {
            for (int i = 0; i < surplus.length; i++) {
                PraisedFields x = told("plain 50 0;");
                x.alter(0, 0, kind);
                if (surplus[i] <= 0) {
                    x.alter(0, 2, -surplus[i]);
                } else {
                    x.hire(0, surplus[i]);
                }
                String what = "KIND " + kind + ", HEARD less BLIGHT " + surplus[i];
                due(what, 80 + due[kind][i], x.field(0, 4));
                due(what + ", a WEEK on", 50 + due[kind][i], x.ahead(0, 1, 0));
            }
        }
        int[] most = {36, 72, 18, 0};
        for (int kind = 0; kind < 4; kind++) {
            PraisedFields x = told("plain 0 0;" + times(4, "band0 9;"));
            x.alter(0, 0, kind);
            due("KIND " + kind + ", the most", 80 + most[kind], x.field(0, 4));
            x.alter(0, 2, 9);
            int less = kind == 1 ? 54 : kind == 2 ? 13 : kind == 3 ? 0 : 27;
            due("KIND " + kind + ", the most less 9", 80 + less, x.field(0, 4));
        }
    }

    private static void heeds() {
        int[] due = {1, 2, 1, 0};
        for (int kind = 0; kind < 4; kind++) {
            PraisedFields x = told("plain 50 9;band0 1;");
            x.alter(0, 0, kind);
            due("KIND " + kind, due[kind], x.field(0, 5));
            due("BLIGHT of KIND " + kind + " a WEEK on", 9 - due[kind], x.ahead(0, 1, 1));
        }
    }

    // ---- the tape

    /** A text with a FAULT: its place, which it is, and that all but THE TAPE stays. */
    private static void faulty(String text, int place, int which) {
        Maker before = () -> {
            PraisedFields x = told("glut77;shy9 9;band0 1;");
            x.weeks(1);
            x.see(1, 0, 3);
            x.keep(1);
            x.play(0, 2);
            x.sheet(0, 0, 2);
            return x;
        };
        PraisedFields x = before.make();
        feedAll(x, text);
        String what = "text() of '" + text + "'";
        due(what, -10 - place, x.text());
        due(what + ", fault()", which, x.fault());
        due(what + ", THE TAPE is empty", 0, x.count(2));
        alike(what + " changes nothing", butFaults(trace(before.make())), butFaults(trace(x)));
    }

    private static List<String> butFaults(List<String> lines) {
        return lines.stream().filter(line -> !line.startsWith("fault()")).collect(Collectors.toList());
    }

    private static PraisedFields taken(String text, int lines) {
        PraisedFields x = told("glut77;shy9 9;");
        feedAll(x, text);
        String what = "text() of '" + text + "'";
        due(what, lines, x.text());
        due(what + ", fault()", 0, x.fault());
        due(what + ", THE TAPE is empty", 0, x.count(2));
        return x;
    }

    private static void tape() {
        PraisedFields x = fullTape();
        due("count(2), a full tape", 160, x.count(2));
        refused("feed(32), the 161st", FULL, TermsBoundaryTest::fullTape, y -> y.feed(32));
        due("text(), a full tape of blanks", 0, x.text());
        taken(times(151, " ") + "glut 15 ;", 1);
        faulty("$", 0, 1);
        faulty(times(159, " ") + "$", 159, 1);
        faulty(times(160, "z"), 0, 2);
        faulty(times(160, "7"), 0, 1);
        faulty(times(156, " ") + "glut", 160, 2);
        faulty("band5 9;" + times(152, " "), 160, 6);
    }

    private static void tokens() {
        taken("plain5 3;", 1);
        taken("plain5 3 ;", 1);
        taken(" plain  5  3  ; ", 1);
        due("a NUMBER is as long as may be", 53, taken("plain53 0;", 1).field(0, 1));
        due("2 figures", 9, taken("plain09 00;", 1).field(0, 1));
        due("the figures 0 and 9", 90, taken("plain90 0;", 1).field(0, 1));
        faulty("plain53;", 7, 2);
        faulty("plainvain 5 3;", 0, 2);
        faulty("glut5x", 5, 2);
        faulty("glut5;;", 6, 2);
        faulty("plain 5 3;5", 10, 2);
        // No TOKEN is begun by the bytes just beside those that begin one.
        for (int c : new int[] {0, 9, 10, 31, 33, '/', ':', '<', '@', 'A', 'Z', '[', '`', '{', 127}) {
            faulty(String.valueOf((char) c), 0, 1);
            faulty("glut5" + (char) c + ";", 5, 1);
            faulty("glut" + (char) c + "5;", 4, 1);
        }
        for (char c : new char[] {'a', 'm', 'z', '0', '9', ';'}) {
            faulty(String.valueOf(c), 0, 2);
        }
        faulty("glut5\t;", 5, 1);
        faulty("glutz5;", 0, 2);
        faulty("gluta5;", 0, 2);
    }

    private static void lines() {
        taken("", 0);
        taken(" ", 0);
        due("no FIELDS behind an empty text", 0, taken("", 0).rule(0));
        String[] kinds = {"plain", "vain", "shy", "deaf"};
        for (int kind = 0; kind < 4; kind++) {
            PraisedFields x = taken(kinds[kind] + " 8 7;", 1);
            due(kinds[kind], kind, x.field(0, 0));
            due(kinds[kind] + ", EARS", 8, x.field(0, 1));
            due(kinds[kind] + ", BLIGHT", 7, x.field(0, 2));
            faulty(kinds[kind], kinds[kind].length(), 2);
            faulty(kinds[kind] + " 8", kinds[kind].length() + 2, 2);
            faulty(kinds[kind] + " 8 7", kinds[kind].length() + 4, 2);
            faulty(kinds[kind] + " 8 7 6;", kinds[kind].length() + 5, 2);
        }
        faulty("band 0;", 6, 2);
        faulty("band 0 1 1;", 9, 2);
        faulty("band 0 1", 8, 2);
        faulty("glut;", 4, 2);
        faulty("glut 1 1;", 7, 2);
        faulty("glut 1", 6, 2);
        taken(SIX + BANDS + "glut9;", 11);
        taken("glut9;" + BANDS + SIX, 11);
    }

    private static void numbersTold() {
        PraisedFields x = taken("plain0 0;plain99 9;band0 1;band1 9;glut1;", 5);
        due("EARS 0", 0, x.field(0, 1));
        due("BLIGHT 0", 0, x.field(0, 2));
        due("EARS 99", 99, x.field(1, 1));
        due("BLIGHT 9", 9, x.field(1, 2));
        due("AT 0", 0, x.band(0, 0));
        due("LOUD 1", 1, x.band(0, 1));
        due("AT 1", 1, x.band(1, 0));
        due("LOUD 9", 9, x.band(1, 1));
        due("GLUT 1", 1, x.rule(5));
        due("GLUT 99", 99, taken("glut99;", 1).rule(5));
        due("FIELD 5", 5, taken("band5 1;" + SIX, 7).band(0, 0));
    }

    // ---- the faults

    private static void firstMet() {
        // Each is followed by another FAULT, which is not met any more.
        faulty("$ 123", 0, 1);
        faulty("plain 123 $", 6, 1);
        faulty("plain 5 10$", 8, 3);
        faulty("plain 5 10", 8, 3);
        faulty("band 6 0;", 5, 3);
        faulty("band 0 0 $", 7, 3);
        faulty("glut 0$", 5, 3);
        faulty("glut 5;glut$", 7, 4);
        faulty("glut 5;glut 0;", 7, 4);
        faulty("glut 5;glut", 7, 4);
        faulty(SIX + "shy$", 51, 5);
        faulty(SIX + "plain 123", 51, 5);
        faulty("shy1 1;" + times(4, "band0 1;") + "band 6", 39, 5);
        faulty("band5 9;band 0 0;", 15, 3);
        faulty("band5 9;$", 8, 1);
        // A FAULT of the TOKEN itself comes ahead of where it stands.
        faulty("plain 5 3 123;", 10, 1);
        faulty("123", 0, 1);
        // And where it stands ahead of its bounds.
        faulty("glut 5 0;", 7, 2);
    }

    private static void noToken() {
        faulty("plain $ 3;", 6, 1);
        faulty("  Plain 1 1;", 2, 1);
        faulty("glut 123;", 5, 1);
        faulty("glut 000;", 5, 1);
        faulty("glut 001;", 5, 1);
        faulty("plain 1 1;  \n", 12, 1);
        taken("glut 12;", 1);
    }

    private static void wrongPlace() {
        faulty("x", 0, 2);
        faulty("plai 1 1;", 0, 2);
        faulty("plains 1 1;", 0, 2);
        faulty("bane 0 1;", 0, 2);
        faulty("hlut 1;", 0, 2);
        faulty("  glutt 1;", 2, 2);
        faulty("glut glut;", 5, 2);
        faulty("glut ;", 5, 2);
        faulty("glut 5 glut", 7, 2);
        faulty(";", 0, 2);
        faulty("12", 0, 2);
        faulty("glut", 4, 2);
        faulty("glut   ", 7, 2);
        faulty("glut 5", 6, 2);
        faulty("glut 5  ", 8, 2);
        faulty("plain 5", 7, 2);
        faulty("band", 4, 2);
    }

    private static void outOfBounds() {
        taken("plain 0 9;", 1);
        faulty("plain 0 10;", 8, 3);
        faulty("vain 0 99;", 7, 3);
        faulty("shy 0 10;", 6, 3);
        faulty("deaf 0 10;", 7, 3);
        faulty("plain0 0;band 6 1;", 14, 3);
        faulty("plain0 0;band 99 1;", 14, 3);
        faulty("plain0 0;band 0 0;", 16, 3);
        faulty("plain0 0;band 0 00;", 16, 3);
        faulty("plain0 0;band 0 10;", 16, 3);
        faulty("glut 0;", 5, 3);
        faulty("glut 00;", 5, 3);
        taken("glut 01;", 1);
    }

    private static void secondGlut() {
        taken("glut 5;", 1);
        faulty("glut 5;glut 5;", 7, 4);
        faulty("glut 5;shy1 1;  glut 6;", 16, 4);
        // The one that a text before told does not count.
        due("GLUT told anew", 6, taken("glut 6;", 1).rule(5));
    }

    private static void oneTooMany() {
        taken(SIX, 6);
        for (String kind : new String[] {"plain", "vain", "shy", "deaf"}) {
            faulty(SIX + " " + kind + " 1 1;", 52, 5);
        }
        taken(SIX + BANDS, 10);
        faulty(SIX + BANDS + "  band 0 1;", 85, 5);
        faulty(times(4, "band0 1;") + "band0 1;" + SIX, 32, 5);
    }

    private static void noSuchField() {
        taken("band0 1;shy1 1;", 2);
        taken("band1 1;shy1 1;vain2 2;", 3);
        faulty("band0 1;", 8, 6);
        faulty("band1 1;shy1 1;", 15, 6);
        faulty("shy1 1;band0 1;band1 1; ", 24, 6);
        faulty("band5 1;" + times(5, "shy1 1;"), 43, 6);
    }

    private static void inPlaceOf() {
        PraisedFields x = rich();
        x.end(0);
        feedAll(x, "shy7 7;");
        due("text()", 1, x.text());
        int[] rules = {1, 0, 0, 0, 7, 20, 0};
        for (int what = 0; what < rules.length; what++) {
            due("rule(" + what + ")", rules[what], x.rule(what));
        }
        due("nothing is SEEN", 0, x.count(0));
        due("IMAGES are gone", 0, x.count(1));
        due("back(0)", STATE, x.back(0));
        due("back(1)", STATE, x.back(1));
        due("keep(0), there was none", 0, x.keep(0));
        x = rich();
        x.end(0);
        due("an empty text", 0, x.text());
        due("tells that there are no FIELDS", 0, x.rule(0));
        due("and no BANDS", 0, x.rule(1));
        due("and nothing is SEEN", 0, x.count(0));
        due("and IMAGES are gone", 0, x.count(1));
    }

    // ---- a week

    private static int behind(String text, int f, int what) {
        PraisedFields x = told(text);
        x.weeks(1);
        return x.field(f, what);
    }

    private static int sheavesBehind(String text) {
        PraisedFields x = told(text);
        x.weeks(1);
        return x.rule(3);
    }

    private static void earsGrow() {
        due("98 and 1", 99, behind("plain98 0;band0 1;", 0, 1));
        due("97 and 1", 98, behind("plain97 0;band0 1;", 0, 1));
        due("99 and 1", 99, behind("plain99 0;band0 1;", 0, 1));
        due("99 and 72", 99, behind("vain99 0;" + times(4, "band0 9;"), 0, 1));
        due("0 and 72", 72, behind("vain0 0;" + times(4, "band0 9;"), 0, 1));
        due("9 less 9", 0, behind("plain9 9;", 0, 1));
        due("10 less 9", 1, behind("plain10 9;", 0, 1));
        due("8 less 9", 0, behind("plain8 9;", 0, 1));
        due("0 less 18", 0, behind("vain0 9;", 0, 1));
        due("19 less 18", 1, behind("vain19 9;", 0, 1));
        // By order: what is fined ahead of what is sold is fined of less.
        due("the fine ahead", 5, sheavesBehind("plain50 0;plain50 0;band0 1;"));
        due("the fine behind", 4, sheavesBehind("plain50 0;plain50 0;band1 1;"));
    }

    private static void blightHeals() {
        int[][] due = {{0, 0, 1, 8}, {0, 0, 0, 7}, {0, 0, 1, 8}, {0, 1, 2, 9}};
        int[] blights = {0, 1, 2, 9};
        for (int kind = 0; kind < 4; kind++) {
            for (int i = 0; i < blights.length; i++) {
                PraisedFields x = told("plain 5 0;band0 1;");
                x.alter(0, 0, kind);
                x.alter(0, 2, blights[i]);
                x.weeks(1);
                due("KIND " + kind + ", BLIGHT " + blights[i], due[kind][i], x.field(0, 2));
            }
        }
    }

    private static void fines() {
        // A SHEAF is sold first; then a BAND comes to what has 10 EARS.
        for (int glut = 9; glut <= 11; glut++) {
            PraisedFields x = told("plain 10 0;");
            x.glut(glut);
            x.weeks(1);
            due("SHEAVES sold", 1, x.rule(3));
            x.hire(0, 1);
            due("fines, GLUT " + glut, glut <= 10 ? 1 : 0, x.runs(1, 3));
            x.weeks(1);
            due("SHEAVES, GLUT " + glut, glut <= 10 ? 0 : 1, x.rule(3));
            // EARS are 11 then: GLUT is met by what has grown.
            due("fines a WEEK later, GLUT " + glut, 1, x.runs(1, 3));
            x.weeks(1);
            due("SHEAVES are 0 at least, GLUT " + glut, 0, x.rule(3));
        }
        due("EARS fall below GLUT", 0, told("plain 10 9;band0 1;glut10;").runs(1, 3));
        due("EARS are 99, GLUT too", 1, told("plain 98 0;band0 1;glut99;").runs(1, 3));
        due("EARS are 98, GLUT 99", 0, told("plain 97 0;band0 1;glut99;").runs(1, 3));
        due("EARS are 0, GLUT 1", 0, told("plain 0 1;band0 1;glut1;").runs(1, 3));
        due("EARS are 1, GLUT 1", 1, told("plain 0 0;band0 1;glut1;").runs(1, 3));
        due("not HEARD, no fine", 0, told("plain 99 0;glut1;").runs(1, 3));
    }

    private static void blightSpreads() {
        int[] blights = {0, 1, 7, 8, 9};
        int[] due = {1, 2, 8, 9, 9};
        for (int kind = 0; kind < 4; kind++) {
            for (int i = 0; i < blights.length; i++) {
                PraisedFields x = told("plain 5 0;");
                x.alter(0, 0, kind);
                x.alter(0, 2, blights[i]);
                x.weeks(1);
                due("KIND " + kind + ", BLIGHT " + blights[i], due[i], x.field(0, 2));
            }
        }
        int[] ears = {0, 9, 10, 19, 20, 89, 90, 99};
        int[] sold = {0, 0, 1, 1, 2, 8, 9, 9};
        for (int i = 0; i < ears.length; i++) {
            due("SHEAVES of " + ears[i], sold[i], sheavesBehind("plain" + ears[i] + " 0;"));
            due("SHEAVES of " + ears[i] + ", HEARD", 0, sheavesBehind("deaf" + ears[i] + " 0;band0 1;glut99;"));
        }
        due("SHEAVES of what has fallen to 9", 0, sheavesBehind("plain10 1;"));
    }

    /** Six FIELDS of 99 EARS sell 54 SHEAVES a WEEK for four WEEKS, then they must be set anew. */
    private static PraisedFields sheaves972() {
        PraisedFields x = told(times(6, "plain99 0;"));
        for (int run = 0; run < 5; run++) {
            for (int f = 0; f < 6; f++) {
                x.alter(f, 1, 99);
                x.alter(f, 2, 0);
            }
            x.weeks(run < 4 ? 4 : 2);
        }
        return x;
    }

    private static PraisedFields sheaves972Then(int... ears) {
        PraisedFields x = sheaves972();
        due("SHEAVES", 972, x.rule(3));
        for (int f = 0; f < 6; f++) {
            x.alter(f, 1, f < ears.length ? ears[f] : 0);
            x.alter(f, 2, 0);
        }
        x.weeks(1);
        return x;
    }

    private static void sheavesAtMost() {
        due("972 and 26", 998, sheaves972Then(90, 90, 89).rule(3));
        PraisedFields x = sheaves972Then(90, 90, 90);
        due("972 and 27", 999, x.rule(3));
        due("999 stays", 999, x.runs(1, 1));
        x.hire(0, 9);
        due("a fine of 999, then sold", 999, x.runs(1, 1));
        x.alter(1, 1, 0);
        x.alter(2, 1, 0);
        due("a fine of 999", 998, x.runs(1, 1));
        due("972 and 28", 999, sheaves972Then(90, 90, 90, 10).rule(3));
        due("972 and 54", 999, sheaves972Then(99, 99, 99, 99, 99, 99).rule(3));
    }

    private static void weekIsMore() {
        PraisedFields x = new PraisedFields();
        for (int i = 1; i <= 3; i++) {
            x.weeks(1);
            due("WEEK without FIELDS", i, x.rule(2));
        }
        x = told(FOUR);
        x.weeks(30);
        due("WEEK", 30, x.rule(2));
    }

    // ---- from now on

    private static void byWeeks() {
        asked("runs(60, 0)", 99, Bench::rich, x -> x.runs(60, 0));
        asked("ahead(0, 60, 0)", 99, Bench::rich, x -> x.ahead(0, 60, 0));
        asked("late(0, 99)", NONE, land("deaf98 0;band0 1;"), x -> x.late(0, 99));
        PraisedFields x = told(SLOW);
        x.weeks(30);
        due("runs(1, 0), from now on", 31, x.runs(1, 0));
        due("ahead(0, 0, 0), now", 30, x.ahead(0, 0, 0));
        due("late(0, 31), from now on", 1, x.late(0, 31));
    }

    private static void allEars() {
        due("none", 0, new PraisedFields().rule(4));
        due("six", 209, told(SIX).rule(4));
        due("the most", 594, told(times(6, "deaf99 0;")).rule(4));
        due("weeks(0)", 594, told(times(6, "deaf99 0;")).weeks(0));
    }

    private static void seen() {
        PraisedFields x = sixSeen();
        due("count(0)", 6, x.count(0));
        refused("see(6, 0, 6), the 7th", FULL, TermsBoundaryTest::sixSeen, y -> y.see(6, 0, 6));
        bounds("see(%d, 0, 5)", land(SLOW), 0, 1, 20, 1, (y, v) -> y.see(v, 0, 5));
        x = told(SLOW);
        x.see(20, 0, 20);
        due("kinds(0), behind 20 WEEKS", 1, x.kinds(0));
        x.weeks(1);
        due("kinds(0), 20 WEEKS from now on", 0, x.kinds(0));
        x.forget(0);
        x.see(0, 0, 1);
        due("kinds(0), behind no WEEKS", 15, x.kinds(0));
    }

    // ---- sheets

    private static void sheets() {
        for (int k = 0; k < 4; k++) {
            int sheet = k;
            refused("lay(" + k + ", 0, 0), nothing at first", -11, PraisedFields::new, x -> x.lay(sheet, 0, 0));
        }
        bounds("sheet(%d, 0, 3)", Bench::rich, 0, 1, 3, 1, (x, v) -> x.sheet(v, 0, 3));
        bounds("sheet(0, %d, 3)", Bench::rich, 0, 1, 2, 1, (x, v) -> x.sheet(0, v, 3));
        for (int lane = 0; lane < 3; lane++) {
            PraisedFields x = told(FOUR);
            x.sheet(3, lane, 0);
            due("lay(3, 0, 0), no CELLS", -12, x.lay(3, 0, 0));
            x.sheet(3, lane, 40);
            due("lay(3, 39, 1), 40 CELLS", 1, x.lay(3, 39, 1));
            due("lay(3, 40, 1), 40 CELLS", -12, x.lay(3, 40, 1));
            for (int taken = 0; taken < 3; taken++) {
                due("lane " + lane + " taken as " + taken, lane == taken ? 1 : 0, x.read(3, taken, 0, 1));
            }
        }
        laneKeeps(256, true, false, false);
        laneKeeps(65536, true, true, false);
        laneKeeps(-65536, true, true, false);
        laneKeeps(LEAST, true, true, false);
        laneKeeps(MOST, false, false, false);
        laneKeeps(-256, true, false, false);
        laneKeeps(0, true, true, true);
        laneKeeps(-1, false, false, false);
    }

    /** Whether a CELL of each lane is 0 (BAND 0, FIELD 0) once v is laid. */
    private static void laneKeeps(int v, boolean asByte, boolean asShort, boolean asInt) {
        boolean[] zero = {asByte, asShort, asInt};
        for (int lane = 0; lane < 3; lane++) {
            PraisedFields x = told(SLOW);
            x.sheet(0, lane, 2);
            x.lay(0, 1, v);
            due(v + " in lane " + lane, zero[lane] ? 1 : -20, x.read(0, lane, 0, 1));
        }
    }

    private static void machineFaults() {
        PraisedFields x = told(SLOW);
        x.sheet(0, 0, 2);
        x.read(1, 0, 0, 1);
        due("NULL", 1, x.torn());
        x.read(0, 0, 1, 1);
        due("INDEX", 2, x.torn());
        x.read(0, 1, 0, 1);
        due("CAST", 3, x.torn());
        due("SIZE", -10 - 4, x.sheet(0, 0, -1));
        x.read(1, 2, LEAST, 1);
        due("NULL, whatever lane and CELL", 1, x.torn());
        x.read(0, 2, MOST, 1);
        due("CAST, whatever CELL", 3, x.torn());
    }

    // ---- all of them

    private static void textTerms() {
        sentence("THE TAPE has 160 bytes, places from 0.", TermsBoundaryTest::tape);
        sentence("TOKENS, each as long as may be, blanks (32) between: NAMES (a .. z), NUMBERS (1 or 2 figures), one ; .",
            TermsBoundaryTest::tokens);
        sentence("text: { line } line: plain N N ; | vain N N ; | shy N N ; | deaf N N ; | band N N ; | glut N ;",
            TermsBoundaryTest::lines);
        sentence("plain, vain, shy, deaf: a FIELD more of that KIND: EARS, BLIGHT. "
            + "band: a BAND more: FIELD (0 to 5), LOUD. glut: GLUT.", TermsBoundaryTest::numbersTold);
        sentence("FAULTS, the first met as it is read (a TOKEN is read when the one before has been taken):",
            TermsBoundaryTest::firstMet);
        sentence("1 no TOKEN, a NUMBER that is too long (its first byte).", TermsBoundaryTest::noToken);
        sentence("2 a TOKEN that can not stand there (a NAME that begins no line; or the end: the length).",
            TermsBoundaryTest::wrongPlace);
        sentence("3 a NUMBER out of its bounds.", TermsBoundaryTest::outOfBounds);
        sentence("4 glut for the second time (its NAME).", TermsBoundaryTest::secondGlut);
        sentence("5 the 7th FIELD, the 5th band (its NAME).", TermsBoundaryTest::oneTooMany);
        sentence("Behind all (the length): 6 a FIELD that there is not.", TermsBoundaryTest::noSuchField);
        sentence("A text that is taken tells all, in place of what there was; nothing is SEEN; IMAGES are gone.",
            TermsBoundaryTest::inPlaceOf);
    }

    private static void landTerms() {
        sentence("Answers: BAD -1 (a number is not as told, there is no such FIELD, BAND, IMAGE, SHEET), "
            + "STATE -2 (as told), FULL -3, NONE -4 (there is none), the first that fits;", TermsBoundaryTest::answers);
        sentence("what is refused changes nothing (but THE TAPE, as told).", TermsBoundaryTest::nothingChanges);
        sentence("Fractions are in lowest terms, the denominator above 0 (0 is 0 by 1).", TermsBoundaryTest::lowestTerms);
        sentence("FIELDS 0 on (6 at most, by order), each of a KIND (0 plain, 1 vain, 2 shy, 3 deaf), "
            + "with EARS (0 to 99), a BLIGHT (0 to 9).", TermsBoundaryTest::fields);
        sentence("BANDS 0 on (4 at most, by order), each AT a FIELD, so LOUD (1 to 9).", TermsBoundaryTest::bands);
        sentence("HEARD at a FIELD: how LOUD the BANDS AT it are, summed.", TermsBoundaryTest::heard);
        sentence("GLUT (1 to 99; 20 at first), SHEAVES (0 to 999; 0 at first), WEEK (0 at first).",
            TermsBoundaryTest::numbersAtFirst);
        sentence("GROWS by KIND, by what is HEARD less BLIGHT: plain as much (below nothing, too); vain twice that of a "
            + "plain one; shy as a plain one, but half of it (down), if it is above nothing; deaf as a shy one, "
            + "but nothing, if it is above nothing.", TermsBoundaryTest::grows);
        sentence("HEEDS by KIND: plain 1; vain 1 more than a plain one; shy as a plain one; deaf 1 less than a shy one.",
            TermsBoundaryTest::heeds);
    }

    private static void weekTerms() {
        sentence("A WEEK: each FIELD, by order: EARS are more by what it GROWS (0 to 99).", TermsBoundaryTest::earsGrow);
        sentence("Is anything HEARD there: BLIGHT is less by what it HEEDS (0 at least),", TermsBoundaryTest::blightHeals);
        sentence("and if EARS are GLUT or more then, SHEAVES are 1 less (a fine; 0 at least);", TermsBoundaryTest::fines);
        sentence("else BLIGHT is 1 more (9 at most), and SHEAVES are more by a tenth of EARS (down;",
            TermsBoundaryTest::blightSpreads);
        sentence("999 at most).", TermsBoundaryTest::sheavesAtMost);
        sentence("WEEK is 1 more.", TermsBoundaryTest::weekIsMore);
        sentence("BY WEEKS: as it would be from now on.", TermsBoundaryTest::byWeeks);
        sentence("ALL EARS: of all FIELDS, summed.", TermsBoundaryTest::allEars);
        sentence("SEEN (6): behind n WEEKS (0 to 20) from now on EARS of a FIELD are v.", TermsBoundaryTest::seen);
        sentence("SHEETS 0 to 3 are rows of BYTES (lane 0), SHORTS (1), INTS (2) with 0 to 40 CELLS, "
            + "or nothing (at first).", TermsBoundaryTest::sheets);
        sentence("A FAULT is what the machine finds: 1 NULL (nothing), 2 INDEX, 3 CAST (another lane), 4 SIZE (below 0).",
            TermsBoundaryTest::machineFaults);
    }

    public static void main(String[] args) {
        section("What it is");
        sentence("An object is used for at most 512 calls after it has been made; what later calls answer is free.",
            TermsBoundaryTest::calls);
        section("Terms");
        landTerms();
        textTerms();
        weekTerms();
        allQuoted("Terms");
        finish();
    }
}
