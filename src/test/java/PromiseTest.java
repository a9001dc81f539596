/** Each promise by itself: ordinary inputs, edges, wrong inputs, with answers worked out by hand. */
public final class PromiseTest extends Bench {
    private static void newObject() {
        PraisedFields x = new PraisedFields();
        int[] rules = {0, 0, 0, 0, 0, 20, 0};
        for (int what = 0; what < rules.length; what++) {
            due("rule(" + what + ")", rules[what], x.rule(what));
        }
        int[] counts = {0, 0, 0, NONE, 0, 0};
        for (int what = 0; what < counts.length; what++) {
            due("count(" + what + ")", counts[what], x.count(what));
        }
        for (int k = 0; k < 4; k++) {
            due("lay(" + k + ", 0, 0)", -11, x.lay(k, 0, 0));
        }
        due("fault()", 0, x.fault());
        due("torn()", 0, x.torn());
        due("back(0)", STATE, x.back(0));
        due("back(1)", STATE, x.back(1));
        due("order(0)", STATE, x.order(0));
        due("weeks(0)", 0, x.weeks(0));
    }

    private static void feed() {
        PraisedFields x = new PraisedFields();
        due("feed(-1)", BAD, x.feed(-1));
        due("feed(128)", BAD, x.feed(128));
        due("feed(least)", BAD, x.feed(LEAST));
        due("feed(0)", 1, x.feed(0));
        due("feed(127)", 2, x.feed(127));
        for (int i = 3; i <= 160; i++) {
            due("feed(32)", i, x.feed(32));
        }
        due("feed(32) at 160", FULL, x.feed(32));
        due("feed(128) at 160", BAD, x.feed(128));
        due("count(2)", 160, x.count(2));
    }

    private static void end() {
        PraisedFields x = new PraisedFields();
        due("end(0)", 0, x.end(0));
        due("end(1) of 0", BAD, x.end(1));
        feedAll(x, "shy 5 1;xyz");
        due("end(-1)", BAD, x.end(-1));
        due("end(12)", BAD, x.end(12));
        due("end(11)", 11, x.end(11));
        due("end(8)", 11, x.end(8));
        due("count(2)", 8, x.count(2));
        due("text()", 1, x.text());
        due("end(0) behind text()", 0, x.end(0));
        feedAll(x, "shyly");
        x.end(3);
        due("text(), a NAME that was cut", -13, x.text());
        feedAll(x, "glut 123");
        x.end(7);
        due("text(), a NUMBER that was cut", -17, x.text());
    }

    private static void reads(String text, int answer, int fault) {
        PraisedFields x = told("glut 77;shy 9 9;");
        feedAll(x, text);
        due("text() of '" + text + "'", answer, x.text());
        due("fault() of '" + text + "'", fault, x.fault());
        due("count(2) behind '" + text + "'", 0, x.count(2));
        if (answer < 0) {
            due("rule(5) behind '" + text + "'", 77, x.rule(5));
            due("field(0, 1) behind '" + text + "'", 9, x.field(0, 1));
            due("rule(0) behind '" + text + "'", 1, x.rule(0));
        }
    }

    private static void textTaken() {
        reads("", 0, 0);
        reads("   ", 0, 0);
        reads("plain5 3;", 1, 0);
        reads("  plain  05   03 ;  ", 1, 0);
        reads("plain 99 9;vain 0 0;shy 00 00;deaf 1 1;", 4, 0);
        reads("band 0 1;plain 5 3;", 2, 0);
        reads("glut 99;", 1, 0);
        reads("glut 01;", 1, 0);
        reads(times(6, "shy0 0;") + times(4, "band5 9;") + "glut1;", 11, 0);
        PraisedFields x = told(FOUR);
        x.weeks(2);
        x.see(0, 0, 1);
        x.keep(0);
        x.keep(1);
        x.sheet(0, 0, 5);
        x.read(0, 1, 0, 1);
        feedAll(x, "vain 7 4;");
        due("text()", 1, x.text());
        int[] rules = {1, 0, 0, 0, 7, 20, 0};
        for (int what = 0; what < rules.length; what++) {
            due("rule(" + what + ") then", rules[what], x.rule(what));
        }
        due("count(0): nothing is SEEN", 0, x.count(0));
        due("count(1): IMAGES are gone", 0, x.count(1));
        due("back(0)", STATE, x.back(0));
        due("count(3): SHEETS stay", 5, x.count(3));
        due("torn() stays", 3, x.torn());
        x.weeks(3);
        due("text() of nothing", 0, x.text());
        due("rule(0) then", 0, x.rule(0));
        due("rule(2) then", 0, x.rule(2));
    }

    private static void textFaults() {
        reads("Plain 1 1;", -10, 1);
        reads("plain 1 1;\n", -20, 1);
        reads("plain 5,3;", -17, 1);
        reads("plain 5 $", -18, 1);
        reads("plain 5 3$", -19, 1);
        reads("plain 5 3;  _", -22, 1);
        reads("123", -10, 1);
        reads("plain 5 003;", -18, 1);
        reads("band 012 3;", -15, 1);
        reads("glut 12345678901234567890;", -15, 1);
        reads("plain", -15, 2);
        reads("plain  ", -17, 2);
        reads("plain 5 3", -19, 2);
        reads("plain 5 3  ", -21, 2);
        reads("plain 5;", -17, 2);
        reads("plain 5 3 4;", -20, 2);
        reads("plain plain", -16, 2);
        reads("plains 5 3;", -10, 2);
        reads("plai 5 3;", -10, 2);
        reads("  5", -12, 2);
        reads(";", -10, 2);
        reads("plain 5 3;;", -20, 2);
        reads("glut 5 5;", -17, 2);
        reads("plain 5 10;", -18, 3);
        reads("plain 5 10$", -18, 3);
        reads("band 6 9;", -15, 3);
        reads("band 0 0;", -17, 3);
        reads("band 0 10;", -17, 3);
        reads("glut 0;", -15, 3);
        reads("glut 00$", -15, 3);
        reads("glut 5;glut", -17, 4);
        reads("glut 5; glut $", -18, 4);
        reads(times(6, "shy0 0;") + "vain", -52, 5);
        reads(times(6, "shy0 0;") + " deaf 100", -53, 5);
        reads("shy0 0;" + times(4, "band0 1;") + "band", -49, 5);
        reads("band 5 9;", -19, 6);
        reads("band 1 1;plain 0 0; ", -30, 6);
        reads("band 1 1;plain 0 0;x", -29, 2);
    }

    private static void faultOfLatest() {
        PraisedFields x = new PraisedFields();
        due("fault()", 0, x.fault());
        feedAll(x, "glut 0;");
        due("fault() ahead of text()", 0, x.fault());
        x.text();
        due("fault()", 3, x.fault());
        x.text();
        due("fault() of a text that is taken", 0, x.fault());
    }

    private static void rule() {
        PraisedFields x = told(FOUR);
        int[] rules = {4, 2, 0, 0, 66, 14, 3};
        for (int what = 0; what < rules.length; what++) {
            due("rule(" + what + ")", rules[what], x.rule(what));
        }
        due("rule(-1)", BAD, x.rule(-1));
        due("rule(7)", BAD, x.rule(7));
        x.march(0, 3);
        due("rule(6)", 10, x.rule(6));
    }

    private static void field() {
        PraisedFields x = told(FOUR);
        int[][] rows = {{0, 10, 2, 5, 83, 1}, {1, 6, 1, 2, 82, 2}, {2, 20, 3, 0, 77, 1}, {3, 30, 0, 0, 80, 0}};
        for (int f = 0; f < rows.length; f++) {
            for (int what = 0; what < 6; what++) {
                due("field(" + f + ", " + what + ")", rows[f][what], x.field(f, what));
            }
        }
        x.march(0, 3);
        due("field(3, 4), deaf, HEARD 5", 80, x.field(3, 4));
        x.alter(3, 2, 9);
        due("field(3, 4), deaf, HEARD 5, BLIGHT 9", 76, x.field(3, 4));
        x.march(0, 2);
        due("field(2, 4), shy, 2 above nothing", 81, x.field(2, 4));
        x.play(0, 8);
        due("field(2, 4), shy, 5 above nothing", 82, x.field(2, 4));
        x.play(0, 4);
        due("field(2, 4), shy, 1 above nothing", 80, x.field(2, 4));
        x.alter(1, 2, 9);
        due("field(1, 4), vain, 7 below nothing", 66, x.field(1, 4));
        x.march(0, 1);
        due("field(1, 3), two BANDS", 6, x.field(1, 3));
        due("field(-1, 0)", BAD, x.field(-1, 0));
        due("field(4, 0)", BAD, x.field(4, 0));
        due("field(0, -1)", BAD, x.field(0, -1));
        due("field(0, 6)", BAD, x.field(0, 6));
        due("field(most, most)", BAD, x.field(MOST, MOST));
    }

    private static void band() {
        PraisedFields x = told(FOUR);
        due("band(0, 0)", 0, x.band(0, 0));
        due("band(0, 1)", 5, x.band(0, 1));
        due("band(1, 0)", 1, x.band(1, 0));
        due("band(1, 1)", 2, x.band(1, 1));
        due("band(2, 0)", BAD, x.band(2, 0));
        due("band(-1, 0)", BAD, x.band(-1, 0));
        due("band(0, 2)", BAD, x.band(0, 2));
        due("band(0, -1)", BAD, x.band(0, -1));
    }

    private static void alter() {
        PraisedFields x = told(FOUR);
        int[] most = {3, 99, 9};
        int[] was = {1, 6, 1};
        for (int what = 0; what < 3; what++) {
            due("alter(1, " + what + ", below)", BAD, x.alter(1, what, -1));
            due("alter(1, " + what + ", above)", BAD, x.alter(1, what, most[what] + 1));
            due("alter(1, " + what + ", most)", was[what], x.alter(1, what, most[what]));
            due("field(1, " + what + ")", most[what], x.field(1, what));
            due("alter(1, " + what + ", 0)", most[what], x.alter(1, what, 0));
        }
        due("alter(4, 0, 0)", BAD, x.alter(4, 0, 0));
        due("alter(-1, 0, 0)", BAD, x.alter(-1, 0, 0));
        due("alter(0, 3, 0)", BAD, x.alter(0, 3, 0));
        due("alter(0, -1, 0)", BAD, x.alter(0, -1, 0));
    }

    private static void march() {
        PraisedFields x = told(FOUR);
        due("march(1, 3)", 1, x.march(1, 3));
        due("march(1, 3) again", 3, x.march(1, 3));
        due("march(2, 0)", BAD, x.march(2, 0));
        due("march(-1, 0)", BAD, x.march(-1, 0));
        due("march(0, 4)", BAD, x.march(0, 4));
        due("march(0, -1)", BAD, x.march(0, -1));
        due("band(1, 0)", 3, x.band(1, 0));
        due("band(0, 0)", 0, x.band(0, 0));
    }

    private static void play() {
        PraisedFields x = told(FOUR);
        due("play(0, 9)", 5, x.play(0, 9));
        due("play(0, 1)", 9, x.play(0, 1));
        due("play(0, 0)", BAD, x.play(0, 0));
        due("play(0, 10)", BAD, x.play(0, 10));
        due("play(2, 5)", BAD, x.play(2, 5));
        due("play(-1, 5)", BAD, x.play(-1, 5));
        due("band(0, 1)", 1, x.band(0, 1));
    }

    private static void glut() {
        PraisedFields x = new PraisedFields();
        due("glut(0)", BAD, x.glut(0));
        due("glut(100)", BAD, x.glut(100));
        due("glut(99)", 20, x.glut(99));
        due("glut(1)", 99, x.glut(1));
        due("rule(5)", 1, x.rule(5));
    }

    private static void hire() {
        PraisedFields x = new PraisedFields();
        due("hire(0, 1), no FIELDS", BAD, x.hire(0, 1));
        x = told(FOUR);
        due("hire(4, 1)", BAD, x.hire(4, 1));
        due("hire(-1, 1)", BAD, x.hire(-1, 1));
        due("hire(0, 0)", BAD, x.hire(0, 0));
        due("hire(0, 10)", BAD, x.hire(0, 10));
        due("hire(3, 9)", 3, x.hire(3, 9));
        due("hire(2, 1)", 4, x.hire(2, 1));
        due("hire(0, 1), the 5th", FULL, x.hire(0, 1));
        due("hire(0, 10), the 5th", BAD, x.hire(0, 10));
        due("band(2, 0)", 3, x.band(2, 0));
        due("band(3, 1)", 1, x.band(3, 1));
    }

    private static void leave() {
        PraisedFields x = told(FOUR);
        due("leave(-1)", BAD, x.leave(-1));
        due("leave(3)", BAD, x.leave(3));
        due("leave(2)", 2, x.leave(2));
        due("leave(1)", 2, x.leave(1));
        due("band(1, 0)", BAD, x.band(1, 0));
        due("band(0, 1)", 5, x.band(0, 1));
        due("field(1, 3)", 0, x.field(1, 3));
        due("leave(0)", 1, x.leave(0));
        due("rule(6)", 0, x.rule(6));
    }

    private static void weeks() {
        PraisedFields x = told(FOUR);
        due("weeks(-1)", BAD, x.weeks(-1));
        due("weeks(31)", BAD, x.weeks(31));
        due("weeks(0)", 66, x.weeks(0));
        due("weeks(1)", 68, x.weeks(1));
        due("SHEAVES", 4, x.rule(3));
        due("weeks(1)", 71, x.weeks(1));
        due("SHEAVES", 6, x.rule(3));
        due("WEEK", 2, x.rule(2));
        int[][] rows = {{17, 0}, {12, 0}, {13, 5}, {29, 2}};
        for (int f = 0; f < 4; f++) {
            due("EARS of " + f, rows[f][0], x.field(f, 1));
            due("BLIGHT of " + f, rows[f][1], x.field(f, 2));
        }
    }

    private static void weeksEdges() {
        PraisedFields x = told("plain 95 0;plain 4 9;band 0 9;glut 99;");
        due("weeks(1)", 99, x.weeks(1));
        due("BLIGHT is 9 at most", 9, x.field(1, 2));
        due("a fine of nothing", 0, x.rule(3));
        for (int i = 0; i < 33; i++) {
            due("weeks(30)", 99, x.weeks(30));
        }
        due("WEEK", 991, x.rule(2));
        due("weeks(9)", FULL, x.weeks(9));
        due("weeks(31) then", BAD, x.weeks(31));
        due("WEEK stays", 991, x.rule(2));
        due("weeks(8)", 99, x.weeks(8));
        due("weeks(1)", FULL, x.weeks(1));
        due("weeks(0)", 99, x.weeks(0));
        due("runs(60, 0) runs on", 99, x.runs(60, 0));
        x = told(times(6, "plain99 0;"));
        for (int i = 1; i <= 20; i++) {
            for (int f = 0; f < 6; f++) {
                x.alter(f, 1, 99);
                x.alter(f, 2, 0);
            }
            x.weeks(1);
            due("SHEAVES in WEEK " + i, Math.min(999, 54 * i), x.rule(3));
        }
    }

    private static void finesByOrder() {
        // The FIELD ahead is fined while there is nothing; the one behind sells afterwards.
        PraisedFields x = told("plain 50 0;plain 50 0;band 0 1;");
        x.weeks(1);
        due("SHEAVES, the fine ahead", 5, x.rule(3));
        x = told("plain 50 0;plain 50 0;band 1 1;");
        x.weeks(1);
        due("SHEAVES, the fine behind", 4, x.rule(3));
        x = told("plain 19 0;band 0 1;");
        due("runs(1, 3), EARS are GLUT then", 1, x.runs(1, 3));
        x.glut(21);
        due("runs(1, 3), EARS are below GLUT", 0, x.runs(1, 3));
    }

    private static void runs() {
        PraisedFields x = told(FOUR);
        int[] now = {66, 0, 6, 0, 0};
        int[] then = {71, 6, 7, 1, 0};
        for (int what = 0; what < 5; what++) {
            due("runs(0, " + what + ")", now[what], x.runs(0, what));
            due("runs(2, " + what + ")", then[what], x.runs(2, what));
        }
        due("WEEK stays", 0, x.rule(2));
        due("EARS stay", 66, x.rule(4));
        due("runs(60, 4)", 12, x.runs(60, 4));
        due("runs(60, 2)", 18, x.runs(60, 2));
        due("runs(61, 0)", BAD, x.runs(61, 0));
        due("runs(-1, 0)", BAD, x.runs(-1, 0));
        due("runs(0, 5)", BAD, x.runs(0, 5));
        due("runs(0, -1)", BAD, x.runs(0, -1));
    }

    private static void ahead() {
        PraisedFields x = told(FOUR);
        due("ahead(2, 0, 0)", 20, x.ahead(2, 0, 0));
        due("ahead(2, 2, 0)", 13, x.ahead(2, 2, 0));
        due("ahead(2, 2, 1)", 5, x.ahead(2, 2, 1));
        due("ahead(0, 1, 1)", 1, x.ahead(0, 1, 1));
        due("ahead(3, 60, 1)", 9, x.ahead(3, 60, 1));
        due("ahead(4, 0, 0)", BAD, x.ahead(4, 0, 0));
        due("ahead(-1, 0, 0)", BAD, x.ahead(-1, 0, 0));
        due("ahead(0, 61, 0)", BAD, x.ahead(0, 61, 0));
        due("ahead(0, -1, 0)", BAD, x.ahead(0, -1, 0));
        due("ahead(0, 0, 2)", BAD, x.ahead(0, 0, 2));
        due("ahead(0, 0, -1)", BAD, x.ahead(0, 0, -1));
        due("EARS stay", 20, x.field(2, 1));
    }

    private static void late() {
        PraisedFields x = told(FOUR);
        due("late(0, 10)", 0, x.late(0, 10));
        due("late(0, 11)", 1, x.late(0, 11));
        due("late(0, 17)", 2, x.late(0, 17));
        due("late(2, 0)", 0, x.late(2, 0));
        due("late(2, 21)", NONE, x.late(2, 21));
        due("late(3, 31)", NONE, x.late(3, 31));
        due("late(0, 100)", BAD, x.late(0, 100));
        due("late(0, -1)", BAD, x.late(0, -1));
        due("late(4, 0)", BAD, x.late(4, 0));
        x = told("plain 0 0;band 0 1;");
        due("late(0, 60)", 60, x.late(0, 60));
        due("late(0, 61)", NONE, x.late(0, 61));
    }

    private static void order() {
        PraisedFields x = told("plain 0 0;plain 0 0;band 1 9;");
        due("order(0)", 54, x.order(0));
        due("order(10), the first of two", 0, x.order(10));
        due("order(11)", NONE, x.order(11));
        due("order(13)", NONE, x.order(13));
        due("order(14)", BAD, x.order(14));
        due("order(9)", BAD, x.order(9));
        due("order(1)", BAD, x.order(1));
        due("order(-1)", BAD, x.order(-1));
        due("order(least)", BAD, x.order(LEAST));
        due("band(0, 0) stays", 1, x.band(0, 0));
        x.leave(0);
        due("order(0), no BANDS", 0, x.order(0));
        due("order(10), no BANDS", NONE, x.order(10));
        x = told("deaf 0 0;plain 0 0;vain 0 0;band 0 1;band 0 9;");
        due("order(0): 6 and 99", 105, x.order(0));
        due("order(10)", 1, x.order(10));
        due("order(11)", 2, x.order(11));
        x = new PraisedFields();
        due("order(10), no FIELDS", STATE, x.order(10));
        due("order(14), no FIELDS", BAD, x.order(14));
    }

    private static void move() {
        PraisedFields x = told("plain 0 0;vain 0 0;band 0 3;");
        due("move(1, 0)", 1, x.move(1, 0));
        due("move(1, 1)", 6, x.move(1, 1));
        due("move(0, 0)", NONE, x.move(0, 0));
        due("move(0, 1)", NONE, x.move(0, 1));
        due("move(61, 0)", BAD, x.move(61, 0));
        due("move(-1, 0)", BAD, x.move(-1, 0));
        due("move(1, 2)", BAD, x.move(1, 2));
        due("move(1, -1)", BAD, x.move(1, -1));
        due("band(0, 0) stays", 0, x.band(0, 0));
        x = told("plain 0 0;vain 0 0;band 0 3;band 0 3;");
        due("move(1, 0), the least of two", 1, x.move(1, 0));
        x = told("plain 0 0;vain 0 0;band 0 1;band 0 4;");
        due("move(1, 0), the other BAND", 11, x.move(1, 0));
        due("move(1, 1)", 9, x.move(1, 1));
        due("move(1, 0), nothing at all", NONE, new PraisedFields().move(1, 0));
    }

    private static void still() {
        PraisedFields x = told("plain 50 0;plain 50 0;band 0 1;band 1 1;");
        due("still(1, 0)", 1, x.still(1, 0));
        due("still(1, 1)", 5, x.still(1, 1));
        due("still(0, 0)", NONE, x.still(0, 0));
        due("still(0, 1)", NONE, x.still(0, 1));
        due("still(61, 0)", BAD, x.still(61, 0));
        due("still(-1, 0)", BAD, x.still(-1, 0));
        due("still(1, 2)", BAD, x.still(1, 2));
        due("rule(1) stays", 2, x.rule(1));
        due("count(5) stays", 2, x.count(5));
        x = told("plain 50 0;plain 50 0;band 0 1;band 0 1;");
        due("still(1, 0), no use", NONE, x.still(1, 0));
        x = told("plain 5 0;plain 50 0;plain 50 0;band 0 1;band 1 1;band 2 1;glut 99;");
        due("still(1, 0), the first of two", 1, x.still(1, 0));
    }

    private static void need() {
        PraisedFields x = told("plain 10 2;band 0 5;");
        due("need(0, 1, 14)", 6, x.need(0, 1, 14));
        due("need(0, 1, 17)", 9, x.need(0, 1, 17));
        due("need(0, 1, 18)", NONE, x.need(0, 1, 18));
        due("need(0, 0, 10)", 1, x.need(0, 0, 10));
        due("need(0, 0, 11)", NONE, x.need(0, 0, 11));
        x.hire(0, 3);
        due("need(0, 1, 14), by two", 3, x.need(0, 1, 14));
        due("need(1, 1, 14), by two", 1, x.need(1, 1, 14));
        due("need(2, 1, 14)", BAD, x.need(2, 1, 14));
        due("need(0, 61, 14)", BAD, x.need(0, 61, 14));
        due("need(0, -1, 14)", BAD, x.need(0, -1, 14));
        due("need(0, 1, 100)", BAD, x.need(0, 1, 100));
        due("need(0, 1, -1)", BAD, x.need(0, 1, -1));
        due("band(0, 1) stays", 5, x.band(0, 1));
    }

    private static void swap() {
        PraisedFields x = told("plain 0 0;plain 0 0;vain 0 0;band 0 3;");
        due("swap(1, 0)", 2, x.swap(1, 0));
        due("swap(1, 1)", 6, x.swap(1, 1));
        x.march(0, 1);
        due("swap(1, 0), from 1", 12, x.swap(1, 0));
        x.march(0, 2);
        due("swap(1, 0), as it is", NONE, x.swap(1, 0));
        due("swap(61, 0)", BAD, x.swap(61, 0));
        due("swap(-1, 0)", BAD, x.swap(-1, 0));
        due("swap(1, 2)", BAD, x.swap(1, 2));
        x = told("plain 0 0;vain 0 0;vain 0 0;band 0 3;band 0 2;band 2 1;");
        due("swap(1, 0), all go", 1, x.swap(1, 0));
        due("swap(1, 1), all go", 12, x.swap(1, 1));
        due("swap(1, 0), one FIELD", NONE, told("plain 0 0;band 0 1;").swap(1, 0));
        due("swap(1, 0), no FIELD", NONE, new PraisedFields().swap(1, 0));
    }

    private static void bear() {
        PraisedFields x = told("plain 10 2;band 0 5;");
        due("bear(0, 1, 13)", 2, x.bear(0, 1, 13));
        due("bear(0, 1, 6)", 9, x.bear(0, 1, 6));
        due("bear(0, 1, 15)", 0, x.bear(0, 1, 15));
        due("bear(0, 1, 16)", NONE, x.bear(0, 1, 16));
        due("bear(0, 0, 10)", 9, x.bear(0, 0, 10));
        due("bear(0, 0, 11)", NONE, x.bear(0, 0, 11));
        due("bear(1, 0, 0)", BAD, x.bear(1, 0, 0));
        due("bear(0, 61, 0)", BAD, x.bear(0, 61, 0));
        due("bear(0, 0, 100)", BAD, x.bear(0, 0, 100));
        due("bear(0, 0, -1)", BAD, x.bear(0, 0, -1));
        due("field(0, 2) stays", 2, x.field(0, 2));
    }

    private static void kind() {
        PraisedFields x = told("plain 10 2;plain 7 0;band 0 5;");
        due("kind(0, 1, 0)", 1, x.kind(0, 1, 0));
        due("kind(0, 1, 1)", 23, x.kind(0, 1, 1));
        due("kind(0, 0, 0), the first of all", 0, x.kind(0, 0, 0));
        due("kind(0, 0, 1)", 17, x.kind(0, 0, 1));
        x = told("vain 10 5;");
        due("kind(0, 1, 0), the first of three", 0, x.kind(0, 1, 0));
        due("kind(0, 1, 1)", 5, x.kind(0, 1, 1));
        due("kind(1, 1, 0)", BAD, x.kind(1, 1, 0));
        due("kind(0, 61, 0)", BAD, x.kind(0, 61, 0));
        due("kind(0, -1, 0)", BAD, x.kind(0, -1, 0));
        due("kind(0, 1, 2)", BAD, x.kind(0, 1, 2));
        due("field(0, 0) stays", 1, x.field(0, 0));
    }

    private static void fraction(String call, long top, long bottom, long gotTop, long gotBottom) {
        due(call + ", numerator", top, gotTop);
        due(call + ", denominator", bottom, gotBottom);
    }

    private static void luck() {
        PraisedFields x = told("plain 10 2;band 0 5;");
        fraction("luck(3, 0, 1, 13)", 7, 10, x.luck(3, 0, 1, 13, 0), x.luck(3, 0, 1, 13, 1));
        fraction("luck(3, 0, 1, 11)", 1, 1, x.luck(3, 0, 1, 11, 0), x.luck(3, 0, 1, 11, 1));
        fraction("luck(3, 0, 1, 14)", 0, 1, x.luck(3, 0, 1, 14, 0), x.luck(3, 0, 1, 14, 1));
        fraction("luck(5, 0, 2, 13)", 3, 4, x.luck(5, 0, 2, 13, 0), x.luck(5, 0, 2, 13, 1));
        fraction("luck(2, 0, 2, 15)", 4, 5, x.luck(2, 0, 2, 15, 0), x.luck(2, 0, 2, 15, 1));
        fraction("luck(3, 0, 0, 10)", 1, 1, x.luck(3, 0, 0, 10, 0), x.luck(3, 0, 0, 10, 1));
        fraction("luck(3, 0, 0, 11)", 0, 1, x.luck(3, 0, 0, 11, 0), x.luck(3, 0, 0, 11, 1));
        fraction("luck(10, 0, 1, 12)", 0, 1, x.luck(10, 0, 1, 12, 0), x.luck(10, 0, 1, 12, 1));
        fraction("luck(0, 0, 1, 13)", 1, 1, x.luck(0, 0, 1, 13, 0), x.luck(0, 0, 1, 13, 1));
        due("luck(11, ..)", BAD, x.luck(11, 0, 1, 13, 0));
        due("luck(-1, ..)", BAD, x.luck(-1, 0, 1, 13, 0));
        due("luck(.. 1 ..), no FIELD", BAD, x.luck(5, 1, 1, 13, 0));
        due("luck(.. 9 WEEKS ..)", BAD, x.luck(5, 0, 9, 13, 0));
        due("luck(.. -1 WEEKS ..)", BAD, x.luck(5, 0, -1, 13, 0));
        due("luck(.. 100 EARS ..)", BAD, x.luck(5, 0, 1, 100, 0));
        due("luck(.. -1 EARS ..)", BAD, x.luck(5, 0, 1, -1, 0));
        due("luck(.., 2)", BAD, x.luck(5, 0, 1, 13, 2));
        x = told("plain 8 0;band 0 1;");
        // Only where it never hails are there 16 EARS: (7 by 10) to the 8th.
        fraction("luck(3, 0, 8, 16)", 5764801, 100000000, x.luck(3, 0, 8, 16, 0), x.luck(3, 0, 8, 16, 1));
    }

    private static void mean() {
        PraisedFields x = told("plain 10 2;band 0 5;");
        fraction("mean(5, 2)", 14, 1, x.mean(5, 2, 0), x.mean(5, 2, 1));
        fraction("mean(2, 2)", 79, 5, x.mean(2, 2, 0), x.mean(2, 2, 1));
        fraction("mean(7, 0)", 10, 1, x.mean(7, 0, 0), x.mean(7, 0, 1));
        due("mean(11, 1, 0)", BAD, x.mean(11, 1, 0));
        due("mean(-1, 1, 0)", BAD, x.mean(-1, 1, 0));
        due("mean(5, 9, 0)", BAD, x.mean(5, 9, 0));
        due("mean(5, -1, 0)", BAD, x.mean(5, -1, 0));
        due("mean(5, 1, 2)", BAD, x.mean(5, 1, 2));
        due("field(0, 2) stays", 2, x.field(0, 2));
        x = told("plain 50 8;plain 50 0;");
        fraction("mean(10, 1), 9 at most", 89, 1, x.mean(10, 1, 0), x.mean(10, 1, 1));
        x = new PraisedFields();
        fraction("mean(5, 8), no FIELDS", 0, 1, x.mean(5, 8, 0), x.mean(5, 8, 1));
    }

    private static void see() {
        PraisedFields x = told("plain 10 2;");
        due("see(-1, 0, 5)", BAD, x.see(-1, 0, 5));
        due("see(21, 0, 5)", BAD, x.see(21, 0, 5));
        due("see(0, 1, 5)", BAD, x.see(0, 1, 5));
        due("see(0, 0, 100)", BAD, x.see(0, 0, 100));
        due("see(0, 0, -1)", BAD, x.see(0, 0, -1));
        for (int i = 1; i <= 6; i++) {
            due("see(20, 0, 99)", i, x.see(20, 0, 99));
        }
        due("see(0, 0, 5), the 7th", FULL, x.see(0, 0, 5));
        due("see(21, 0, 5), the 7th", BAD, x.see(21, 0, 5));
    }

    private static void forget() {
        PraisedFields x = told("plain 10 2;");
        x.see(0, 0, 10);
        x.see(0, 0, 11);
        due("kinds(0)", 0, x.kinds(0));
        due("forget(3)", BAD, x.forget(3));
        due("forget(-1)", BAD, x.forget(-1));
        due("forget(1)", 2, x.forget(1));
        due("kinds(0)", 15, x.kinds(0));
        due("forget(0)", 1, x.forget(0));
        due("count(0)", 0, x.count(0));
    }

    private static void kinds() {
        PraisedFields x = told("plain 10 2;plain 7 0;band 0 5;");
        due("kinds(0), nothing SEEN", 15, x.kinds(0));
        x.see(1, 0, 13);
        due("kinds(0), plain", 1, x.kinds(0));
        x.forget(0);
        x.see(1, 0, 11);
        due("kinds(0), shy", 4, x.kinds(0));
        due("kinds(1), the other is not as SEEN", 0, x.kinds(1));
        x.forget(0);
        x.see(1, 1, 7);
        due("kinds(1), all alike", 15, x.kinds(1));
        x.see(0, 0, 9);
        due("kinds(1)", 0, x.kinds(1));
        due("kinds(2)", BAD, x.kinds(2));
        due("kinds(-1)", BAD, x.kinds(-1));
    }

    private static void seenFromNowOn() {
        PraisedFields x = told("plain 10 0;band 0 1;");
        x.see(1, 0, 12);
        due("kinds(0)", 2, x.kinds(0));
        x.weeks(1);
        due("kinds(0), a WEEK on", 1, x.kinds(0));
    }

    private static void blights() {
        PraisedFields x = told("plain 10 2;plain 3 5;band 0 5;");
        due("blights(0), nothing SEEN", 1023, x.blights(0));
        x.see(1, 0, 13);
        due("blights(0)", 4, x.blights(0));
        due("blights(1)", 1023, x.blights(1));
        x.see(1, 1, 0);
        due("blights(1)", 1016, x.blights(1));
        x.see(1, 0, 12);
        due("blights(0), at odds", 0, x.blights(0));
        due("blights(1), at odds", 0, x.blights(1));
        due("blights(2)", BAD, x.blights(2));
        due("blights(-1)", BAD, x.blights(-1));
        due("field(1, 2) stays", 5, x.field(1, 2));
    }

    private static void ask() {
        PraisedFields x = told("plain 3 5;");
        due("ask(0, 0)", 1, x.ask(0, 0));
        due("ask(0, 1)", 7, x.ask(0, 1));
        due("ask(1, 0)", BAD, x.ask(1, 0));
        due("ask(0, 2)", BAD, x.ask(0, 2));
        due("ask(0, -1)", BAD, x.ask(0, -1));
        x.see(1, 0, 0);
        due("ask(0, 0), all alike", NONE, x.ask(0, 0));
        due("ask(0, 1), all alike", NONE, x.ask(0, 1));
        x.see(0, 0, 4);
        due("ask(0, 0), none left", NONE, x.ask(0, 0));
        x = told("plain 50 0;");
        due("ask(0, 0), all apart", 1, x.ask(0, 0));
        due("ask(0, 1), all apart", 1, x.ask(0, 1));
        x = told("plain 0 0;band 0 1;");
        // BLIGHTS 0 to 9 end at 1 in turn; only then do all EARS lie apart.
        x.see(1, 0, 0);
        due("ask(0, 0), late", 9, x.ask(0, 0));
        due("ask(0, 1), late", 1, x.ask(0, 1));
    }

    private static void drift() {
        PraisedFields x = told("plain 0 0;plain 20 0;band 1 9;");
        // 12345 has no bits above 15: the BAND goes to FIELD 0.
        due("drift(0, 1, 0)", 29, x.drift(0, 1, 0));
        due("drift(0, 1, 1)", 2, x.drift(0, 1, 1));
        due("band(0, 0) stays", 1, x.band(0, 0));
        due("WEEK stays", 0, x.rule(2));
        due("drift(0, 0, 0)", BAD, x.drift(0, 0, 0));
        due("drift(0, 61, 0)", BAD, x.drift(0, 61, 0));
        due("drift(0, 1, 2)", BAD, x.drift(0, 1, 2));
        due("drift(0, 1, -1)", BAD, x.drift(0, 1, -1));
        // 1103527590 has 16838 in bits 16 to 30, the next seed 5758: FIELDS 0 and 1.
        due("drift(1, 1, 0)", 29, x.drift(1, 1, 0));
        due("drift(1, 2, 0)", 37, x.drift(1, 2, 0));
        due("drift(1, 2, 1)", 1, x.drift(1, 2, 1));
        x.leave(0);
        due("drift(0, 1, 0), no BANDS", STATE, x.drift(0, 1, 0));
        due("drift(0, 61, 0), no BANDS", BAD, x.drift(0, 61, 0));
        due("drift(0, 1, 0), nothing", STATE, new PraisedFields().drift(0, 1, 0));
    }

    private static void keepAndBack() {
        PraisedFields x = told(FOUR);
        x.weeks(2);
        x.see(3, 0, 1);
        due("keep(-1)", BAD, x.keep(-1));
        due("keep(2)", BAD, x.keep(2));
        due("back(-1)", BAD, x.back(-1));
        due("back(2)", BAD, x.back(2));
        due("back(1)", STATE, x.back(1));
        due("keep(1)", 0, x.keep(1));
        due("keep(1) again", 1, x.keep(1));
        due("count(1)", 1, x.count(1));
        x.weeks(5);
        x.leave(0);
        x.glut(3);
        x.forget(0);
        x.alter(0, 0, 3);
        x.feed(32);
        due("back(1)", 2, x.back(1));
        int[] rules = {4, 2, 2, 6, 71, 14, 3};
        for (int what = 0; what < rules.length; what++) {
            due("rule(" + what + ") then", rules[what], x.rule(what));
        }
        due("count(0) then", 1, x.count(0));
        due("count(2) then", 1, x.count(2));
        due("field(0, 0) then", 0, x.field(0, 0));
        due("band(1, 1) then", 2, x.band(1, 1));
        x.march(0, 3);
        x.weeks(1);
        due("back(1) again", 2, x.back(1));
        due("band(0, 0) then", 0, x.band(0, 0));
    }

    private static void sheet() {
        PraisedFields x = new PraisedFields();
        due("sheet(-1, 0, 0)", BAD, x.sheet(-1, 0, 0));
        due("sheet(4, 0, 0)", BAD, x.sheet(4, 0, 0));
        due("sheet(0, -1, 0)", BAD, x.sheet(0, -1, 0));
        due("sheet(0, 3, 0)", BAD, x.sheet(0, 3, 0));
        due("sheet(0, 0, 41)", BAD, x.sheet(0, 0, 41));
        due("sheet(0, 3, -1)", BAD, x.sheet(0, 3, -1));
        due("sheet(0, 0, -1)", -14, x.sheet(0, 0, -1));
        due("count(3)", NONE, x.count(3));
        due("sheet(0, 2, 40)", 1, x.sheet(0, 2, 40));
        due("sheet(0, 0, least)", -14, x.sheet(0, 0, LEAST));
        due("count(3)", 40, x.count(3));
        due("lay(0, 39, 5)", 1, x.lay(0, 39, 5));
        due("sheet(0, 2, 0)", 1, x.sheet(0, 2, 0));
        due("count(3)", 0, x.count(3));
        due("torn()", 0, x.torn());
        x = told("plain 0 0;plain 0 0;band 0 1;");
        x.sheet(3, 1, 2);
        x.lay(3, 1, 1);
        due("read of 0, 1", 1, x.read(3, 1, 0, 1));
        due("band(0, 0)", 1, x.band(0, 0));
        x.sheet(3, 1, 2);
        due("read of 0, 0", 1, x.read(3, 1, 0, 1));
        due("band(0, 0), a new row", 0, x.band(0, 0));
    }

    private static void lay() {
        PraisedFields x = told("plain 0 0;plain 0 0;band 0 1;");
        due("lay(-1, 0, 0)", BAD, x.lay(-1, 0, 0));
        due("lay(4, 0, 0)", BAD, x.lay(4, 0, 0));
        due("lay(1, 0, 0), nothing", -11, x.lay(1, 0, 0));
        due("lay(1, -1, 0), nothing", -11, x.lay(1, -1, 0));
        x.sheet(1, 0, 2);
        due("lay(1, -1, 0)", -12, x.lay(1, -1, 0));
        due("lay(1, 2, 0)", -12, x.lay(1, 2, 0));
        due("lay(1, most, 0)", -12, x.lay(1, MOST, 0));
        due("lay(1, 1, 257)", 1, x.lay(1, 1, 257));
        due("read, 257 as a byte", 1, x.read(1, 0, 0, 1));
        due("band(0, 0)", 1, x.band(0, 0));
        x.lay(1, 1, 255);
        due("read, 255 as a byte is below 0", -20, x.read(1, 0, 0, 1));
        x.sheet(1, 1, 2);
        x.lay(1, 1, 256);
        due("read, 256 as a short", -20, x.read(1, 1, 0, 1));
        x.lay(1, 1, 65536);
        due("read, 65536 as a short", 1, x.read(1, 1, 0, 1));
        due("band(0, 0)", 0, x.band(0, 0));
        x.sheet(1, 2, 2);
        x.lay(1, 1, 65536);
        due("read, 65536 as an int", -20, x.read(1, 2, 0, 1));
        x.sheet(1, 2, 0);
        due("lay(1, 0, 0), no CELLS", -12, x.lay(1, 0, 0));
    }

    private static void read() {
        PraisedFields x = told("plain 0 0;plain 0 0;plain 0 0;band 0 1;band 0 1;");
        due("read(-1, 0, 0, 0)", BAD, x.read(-1, 0, 0, 0));
        due("read(4, 0, 0, 0)", BAD, x.read(4, 0, 0, 0));
        due("read(0, 3, 0, 0)", BAD, x.read(0, 3, 0, 0));
        due("read(0, -1, 0, 0)", BAD, x.read(0, -1, 0, 0));
        due("read(0, 0, 0, 21)", BAD, x.read(0, 0, 0, 21));
        due("read(0, 0, 0, -1)", BAD, x.read(0, 0, 0, -1));
        x.sheet(2, 2, 7);
        layRow(x, 2, 0, 1, 1, 2, 0, 2, 1);
        due("read(2, 2, 0, 2)", 2, x.read(2, 2, 0, 2));
        due("band(0, 0)", 1, x.band(0, 0));
        due("band(1, 0)", 2, x.band(1, 0));
        due("read(2, 2, 0, 3)", 3, x.read(2, 2, 0, 3));
        due("band(0, 0), the later", 2, x.band(0, 0));
        due("torn()", 0, x.torn());
        x.march(0, 0);
        due("read(2, 2, 0, 4), the last is not whole", 3, x.read(2, 2, 0, 4));
        due("torn()", 2, x.torn());
        due("band(0, 0)", 2, x.band(0, 0));
        x.sheet(1, 0, 4);
        layRow(x, 1, 9, 1, 1, 9);
        due("read(1, 0, 1, 1), from CELL 1", 1, x.read(1, 0, 1, 1));
        due("band(1, 0)", 1, x.band(1, 0));
        x.march(0, 0);
        x.march(1, 0);
        x.lay(2, 4, 2);
        due("read(2, 2, 0, 3), the third is refused", -22, x.read(2, 2, 0, 3));
        due("band(0, 0), none came", 0, x.band(0, 0));
        due("band(1, 0), none came", 0, x.band(1, 0));
        x.lay(2, 3, 3);
        due("read(2, 2, 0, 20), the first met", -21, x.read(2, 2, 0, 20));
        due("read(2, 2, -1, 1)", 0, x.read(2, 2, -1, 1));
        due("torn()", 2, x.torn());
        due("read(2, 2, most, 20)", 0, x.read(2, 2, MOST, 20));
        due("read(2, 2, least, 20)", 0, x.read(2, 2, LEAST, 20));
        due("read(2, 0, 0, 1), another lane", 0, x.read(2, 0, 0, 1));
        due("torn()", 3, x.torn());
        due("read(2, 0, 99, 1), another lane first", 0, x.read(2, 0, 99, 1));
        due("torn()", 3, x.torn());
        due("read(0, 0, 99, 1), nothing first", 0, x.read(0, 0, 99, 1));
        due("torn()", 1, x.torn());
    }

    private static void torn() {
        PraisedFields x = told("plain 0 0;band 0 1;");
        x.read(0, 0, 0, 1);
        due("torn()", 1, x.torn());
        x.read(0, 0, 0, 21);
        due("torn(), BAD did not come to an end", 1, x.torn());
        x.sheet(1, 0, 2);
        x.lay(1, 0, 5);
        due("read(1, 0, 0, 1)", -20, x.read(1, 0, 0, 1));
        due("torn(), a refused one did not come to an end", 1, x.torn());
        due("read(1, 0, 0, 0)", 0, x.read(1, 0, 0, 0));
        due("torn(), it came to an end", 0, x.torn());
        // Nothing is read 0 times: the machine finds no FAULT.
        due("read(0, 0, 0, 0), nothing", 0, x.read(0, 0, 0, 0));
        due("torn()", 0, x.torn());
        due("read(1, 2, 9, 0), another lane", 0, x.read(1, 2, 9, 0));
        due("torn()", 0, x.torn());
    }

    private static void count() {
        PraisedFields x = told(FOUR);
        x.see(0, 0, 10);
        x.keep(0);
        x.keep(1);
        x.feed(1);
        x.sheet(0, 1, 3);
        x.sheet(1, 1, 4);
        int[] counts = {1, 2, 1, 3, 6, 7};
        for (int what = 0; what < counts.length; what++) {
            due("count(" + what + ")", counts[what], x.count(what));
        }
        due("count(6)", BAD, x.count(6));
        due("count(-1)", BAD, x.count(-1));
        x.leave(1);
        due("count(5), one BAND", 5, x.count(5));
    }

    private static void firstHalf() {
        promise(1); newObject();
        promise(2); feed();
        promise(3); end();
        promise(4); textTaken(); textFaults();
        promise(5); faultOfLatest();
        promise(6); rule();
        promise(7); field();
        promise(8); band();
        promise(9); alter();
        promise(10); march();
        promise(11); play();
        promise(12); glut();
        promise(13); hire();
        promise(14); leave();
        promise(15); weeks(); weeksEdges(); finesByOrder();
        promise(16); runs();
        promise(17); ahead();
        promise(18); late();
        promise(19); order();
        promise(20); move();
    }

    private static void secondHalf() {
        promise(21); still();
        promise(22); need();
        promise(23); swap();
        promise(24); bear();
        promise(25); kind();
        promise(26); luck();
        promise(27); mean();
        promise(28); see();
        promise(29); forget();
        promise(30); kinds(); seenFromNowOn();
        promise(31); blights();
        promise(32); ask();
        promise(33); drift();
        promise(34); keepAndBack();
        promise(36); sheet();
        promise(37); lay();
        promise(38); read();
        promise(39); torn();
        promise(40); count();
    }

    public static void main(String[] args) {
        firstHalf();
        secondHalf();
        finish();
    }
}
