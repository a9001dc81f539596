/** The boundary cases of promises 9 to 18 (what is changed, weeks), each sentence with a test of its own. */
public final class ChangeBoundaryTest extends Bench {
    private static final String SIX = times(6, "deaf99 0;");
    private static final String FULL_LAND = SIX + times(4, "band5 9;");

    private static PraisedFields atWeek(int week) {
        PraisedFields x = told(SLOW);
        for (int i = 0; i < week / 30; i++) {
            x.weeks(30);
        }
        x.weeks(week % 30);
        return x;
    }

    // ---- 9 to 14

    private static void altered() {
        int[] was = {1, 6, 1};
        int[] most = {3, 99, 9};
        for (int what = 0; what < 3; what++) {
            int which = what;
            bounds("alter(1, " + what + ", %d)", land(FOUR), 0, was[what], most[what], was[what],
                (x, v) -> x.alter(1, which, v));
            for (int v : new int[] {0, most[what]}) {
                PraisedFields x = told(FOUR);
                x.alter(1, what, v);
                for (int other = 0; other < 3; other++) {
                    due("field(1, " + other + ") behind alter(1, " + what + ", " + v + ")",
                        other == what ? v : was[other], x.field(1, other));
                }
                due("alter(1, " + what + ", 1) behind it", v, x.alter(1, what, 1));
            }
            asked("alter(1, " + what + ", as it was)", was[what], land(FOUR), x -> x.alter(1, which, was[which]));
        }
    }

    private static void alterBad() {
        bounds("alter(%d, 1, 5)", land(FOUR), 0, 10, 3, 30, (x, v) -> x.alter(v, 1, 5));
        bounds("alter(%d, 1, 5), six", land(FULL_LAND), 0, 99, 5, 99, (x, v) -> x.alter(v, 1, 5));
        bounds("alter(2, %d, 3)", land(FOUR), 0, 2, 2, 3, (x, v) -> x.alter(2, v, 3));
        refused("alter(0, 0, 0), no FIELDS", BAD, PraisedFields::new, x -> x.alter(0, 0, 0));
        refused("alter(least, most, least)", BAD, land(FOUR), x -> x.alter(LEAST, MOST, LEAST));
    }

    private static void marched() {
        bounds("march(1, %d)", land(FOUR), 0, 1, 3, 1, (x, v) -> x.march(1, v));
        bounds("march(%d, 2)", land(FOUR), 0, 0, 1, 1, (x, v) -> x.march(v, 2));
        bounds("march(3, %d), six", land(FULL_LAND), 0, 5, 5, 5, (x, v) -> x.march(3, v));
        bounds("march(%d, 0), four", land(FULL_LAND), 0, 5, 3, 5, (x, v) -> x.march(v, 0));
        asked("march(1, 1), where it is", 1, land(FOUR), x -> x.march(1, 1));
        PraisedFields x = told(FULL_LAND);
        x.march(2, 0);
        for (int b = 0; b < 4; b++) {
            due("band(" + b + ", 0)", b == 2 ? 0 : 5, x.band(b, 0));
            due("band(" + b + ", 1)", 9, x.band(b, 1));
        }
        due("HEARD where it went", 9, x.field(0, 3));
        due("HEARD where it was", 27, x.field(5, 3));
    }

    private static void marchBad() {
        refused("march(0, 0), no BANDS", BAD, land("shy0 0;"), x -> x.march(0, 0));
        refused("march(0, 0), nothing", BAD, PraisedFields::new, x -> x.march(0, 0));
        refused("march(2, 4)", BAD, land(FOUR), x -> x.march(2, 4));
        refused("march(0, 5), a FIELD of no land", BAD, land(FOUR), x -> x.march(0, 5));
        refused("march(3, 0), a BAND of no land", BAD, land(FOUR), x -> x.march(3, 0));
    }

    private static void played() {
        bounds("play(0, %d)", land(FOUR), 1, 5, 9, 5, (x, v) -> x.play(0, v));
        bounds("play(%d, 4)", land(FOUR), 0, 5, 1, 2, (x, v) -> x.play(v, 4));
        bounds("play(%d, 4), four", land(FULL_LAND), 0, 9, 3, 9, (x, v) -> x.play(v, 4));
        asked("play(0, 5), as it was", 5, land(FOUR), x -> x.play(0, 5));
        PraisedFields x = told(FOUR);
        x.play(0, 1);
        due("band(0, 1)", 1, x.band(0, 1));
        due("band(1, 1)", 2, x.band(1, 1));
        due("play(0, 9)", 1, x.play(0, 9));
        due("HEARD", 9, x.field(0, 3));
        due("band(0, 0)", 0, x.band(0, 0));
    }

    private static void playBad() {
        refused("play(0, 1), no BANDS", BAD, land("shy0 0;"), x -> x.play(0, 1));
        refused("play(0, 0)", BAD, land(FOUR), x -> x.play(0, 0));
        refused("play(0, 10)", BAD, land(FOUR), x -> x.play(0, 10));
        refused("play(0, 256 and 5)", BAD, land(FOUR), x -> x.play(0, 261));
    }

    private static void gluts() {
        bounds("glut(%d)", land(FOUR), 1, 14, 99, 14, (x, v) -> x.glut(v));
        bounds("glut(%d), nothing told", PraisedFields::new, 1, 20, 99, 20, (x, v) -> x.glut(v));
        for (int v : new int[] {1, 99}) {
            PraisedFields x = told(FOUR);
            x.glut(v);
            due("rule(5) behind glut(" + v + ")", v, x.rule(5));
            due("glut(50) behind it", v, x.glut(50));
        }
        asked("glut(14), as it was", 14, land(FOUR), x -> x.glut(14));
    }

    private static void glutBad() {
        for (int v : new int[] {0, 100, -14, LEAST, MOST}) {
            refused("glut(" + v + ")", BAD, Bench::rich, x -> x.glut(v));
        }
    }

    private static void hired() {
        bounds("hire(%d, 5)", land(FOUR), 0, 3, 3, 3, (x, v) -> x.hire(v, 5));
        bounds("hire(%d, 5), six", land(SIX), 0, 1, 5, 1, (x, v) -> x.hire(v, 5));
        bounds("hire(0, %d)", land(FOUR), 1, 3, 9, 3, (x, v) -> x.hire(0, v));
        PraisedFields x = told(FOUR);
        due("hire(3, 9)", 3, x.hire(3, 9));
        due("hire(2, 1)", 4, x.hire(2, 1));
        int[][] rows = {{0, 5}, {1, 2}, {3, 9}, {2, 1}};
        for (int b = 0; b < 4; b++) {
            due("band(" + b + ", 0)", rows[b][0], x.band(b, 0));
            due("band(" + b + ", 1)", rows[b][1], x.band(b, 1));
        }
        refused("hire(0, 1), no FIELDS", BAD, PraisedFields::new, y -> y.hire(0, 1));
    }

    private static void hireFull() {
        PraisedFields x = told("shy0 0;");
        for (int n = 1; n <= 4; n++) {
            due("hire(0, " + n + ")", n, x.hire(0, n));
        }
        due("hire(0, 5), the 5th", FULL, x.hire(0, 5));
        due("BANDS", 4, x.rule(1));
        due("how LOUD all are", 10, x.count(5));
        refused("hire(0, 1), FULL", FULL, land(FULL_LAND), y -> y.hire(0, 1));
        refused("hire(5, 9), FULL", FULL, land(FULL_LAND), y -> y.hire(5, 9));
        refused("hire(6, 9), BAD though FULL", BAD, land(FULL_LAND), y -> y.hire(6, 9));
        refused("hire(0, 0), BAD though FULL", BAD, land(FULL_LAND), y -> y.hire(0, 0));
        x.leave(3);
        due("hire(0, 5), one has left", 4, x.hire(0, 5));
        due("band(3, 1)", 5, x.band(3, 1));
    }

    private static void left() {
        bounds("leave(%d) of 2", land(FOUR), 0, 2, 2, 2, (x, v) -> x.leave(v));
        bounds("leave(%d) of 4", land(FULL_LAND), 0, 4, 4, 4, (x, v) -> x.leave(v));
        bounds("leave(%d) of none", land("shy0 0;"), 0, 0, 0, 0, (x, v) -> x.leave(v));
        asked("leave(2) of 2", 2, land(FOUR), x -> x.leave(2));
        for (int n = 0; n <= 4; n++) {
            PraisedFields x = told(SIX + "band0 1;band1 2;band2 3;band3 4;");
            due("leave(" + n + ") of 4", 4, x.leave(n));
            due("BANDS", n, x.rule(1));
            due("how LOUD all are", n * (n + 1) / 2, x.count(5));
            due("FIELDS at which anything is HEARD", (1 << n) - 1, x.rule(6));
            due("the first that left", BAD, x.band(n, 0));
            due("hire(5, 9), one more", n == 4 ? FULL : n + 1, x.hire(5, 9));
        }
    }

    private static void leaveBad() {
        for (int n : new int[] {-1, 3, 4, 5, LEAST, MOST}) {
            refused("leave(" + n + ") of 2", BAD, Bench::rich, x -> x.leave(n));
        }
    }

    // ---- 15 to 18

    private static void weeksRun() {
        bounds("weeks(%d)", land(SLOW), 0, 0, 30, 30, (x, v) -> x.weeks(v));
        asked("weeks(0)", 66, land(FOUR), x -> x.weeks(0));
        PraisedFields x = told(FOUR);
        due("weeks(1)", 68, x.weeks(1));
        due("weeks(1)", 71, x.weeks(1));
        due("WEEK", 2, x.rule(2));
        PraisedFields y = told(FOUR);
        due("weeks(2) at once", 71, y.weeks(2));
        alike("as one by one", trace(x), trace(y));
        due("weeks(30), nothing told", 0, new PraisedFields().weeks(30));
    }

    private static void weeksFull() {
        due("weeks(30) at 969", 99, atWeek(969).weeks(30));
        refused("weeks(30) at 970", FULL, () -> atWeek(970), x -> x.weeks(30));
        due("weeks(29) at 970", 99, atWeek(970).weeks(29));
        due("weeks(1) at 998", 99, atWeek(998).weeks(1));
        refused("weeks(2) at 998", FULL, () -> atWeek(998), x -> x.weeks(2));
        refused("weeks(1) at 999", FULL, () -> atWeek(999), x -> x.weeks(1));
        refused("weeks(30) at 999", FULL, () -> atWeek(999), x -> x.weeks(30));
        asked("weeks(0) at 999", 99, () -> atWeek(999), x -> x.weeks(0));
        refused("weeks(31) at 999, BAD though FULL", BAD, () -> atWeek(999), x -> x.weeks(31));
        refused("weeks(most) at 999", BAD, () -> atWeek(999), x -> x.weeks(MOST));
        refused("weeks(-1) at 999", BAD, () -> atWeek(999), x -> x.weeks(-1));
        PraisedFields x = atWeek(999);
        due("WEEK", 999, x.rule(2));
        due("runs(60, 0) at 999 is not bound", 99, x.runs(60, 0));
        due("keep(0) at 999", 0, x.keep(0));
        due("back(0) at 999", 999, x.back(0));
        feedAll(x, SLOW);
        x.text();
        due("weeks(30), told anew", 30, x.weeks(30));
    }

    private static void runsOf() {
        bounds("runs(%d, 0)", land(SLOW), 0, 0, 60, 60, (x, v) -> x.runs(v, 0));
        bounds("runs(%d, 3)", land(SLOW), 0, 0, 60, 41, (x, v) -> x.runs(v, 3));
        bounds("runs(%d, 2)", land("deaf0 0;deaf0 9;"), 0, 9, 60, 18, (x, v) -> x.runs(v, 2));
        bounds("runs(0, %d)", land(FOUR), 0, 66, 4, 0, (x, v) -> x.runs(0, v));
        int[] two = {71, 6, 7, 1, 0};
        for (int what = 0; what < 5; what++) {
            int which = what;
            asked("runs(2, " + what + ")", two[what], land(FOUR), x -> x.runs(2, which));
        }
        PraisedFields x = told(FOUR);
        x.weeks(1);
        due("runs(0, 1), SHEAVES now", 4, x.runs(0, 1));
        due("runs(0, 3), no fines in no WEEKS", 0, x.runs(0, 3));
    }

    private static void finesCounted() {
        // There are no SHEAVES at all: it is fined all the same.
        due("runs(1, 3)", 1, told("plain50 0;band0 1;").runs(1, 3));
        due("runs(60, 3)", 60, told("plain50 0;band0 1;").runs(60, 3));
        due("runs(60, 3), six FIELDS by four BANDS",
            240, told(SIX + "band0 1;band1 1;band2 1;band3 1;glut1;").runs(60, 3));
        due("runs(60, 1) then", 0, told("plain50 0;band0 1;").runs(60, 1));
        due("one fine a FIELD, by two BANDS", 1, told("plain50 0;band0 1;band0 1;").runs(1, 3));
        due("no fine in silence", 0, told("plain99 0;glut1;").runs(60, 3));
    }

    private static void withoutEars() {
        due("runs(0, 4), none", 0, told(SIX).runs(0, 4));
        due("runs(60, 4), all", 63, told(SIX).runs(60, 4));
        due("runs(0, 4), the last", 32, told(times(5, "shy1 0;") + "shy0 0;").runs(0, 4));
        due("runs(0, 4), the first", 1, told("shy0 0;" + times(5, "shy1 0;")).runs(0, 4));
        due("runs(1, 4), 1 EAR is one", 0, told("plain1 0;").runs(1, 4));
        due("runs(2, 4)", 1, told("plain1 0;").runs(2, 4));
        due("runs(0, 4), no FIELDS", 0, new PraisedFields().runs(0, 4));
    }

    private static void runsBad() {
        for (int n : new int[] {-1, 61, LEAST, MOST}) {
            for (int what = 0; what < 5; what++) {
                int which = what;
                refused("runs(" + n + ", " + what + ")", BAD, land(FOUR), x -> x.runs(n, which));
            }
        }
        refused("runs(60, 5)", BAD, land(FOUR), x -> x.runs(60, 5));
        refused("runs(60, -1)", BAD, land(FOUR), x -> x.runs(60, -1));
        refused("runs(0, 5), nothing told", BAD, PraisedFields::new, x -> x.runs(0, 5));
    }

    private static void aheadOf() {
        bounds("ahead(0, %d, 0)", land(SLOW), 0, 0, 60, 60, (x, v) -> x.ahead(0, v, 0));
        bounds("ahead(0, %d, 1)", land("deaf0 3;"), 0, 3, 60, 9, (x, v) -> x.ahead(0, v, 1));
        bounds("ahead(%d, 0, 0)", land(FOUR), 0, 10, 3, 30, (x, v) -> x.ahead(v, 0, 0));
        bounds("ahead(%d, 1, 1), six", land(SIX), 0, 1, 5, 1, (x, v) -> x.ahead(v, 1, 1));
        bounds("ahead(2, 2, %d)", land(FOUR), 0, 13, 1, 5, (x, v) -> x.ahead(2, 2, v));
        asked("ahead(0, 1, 0)", 13, land(FOUR), x -> x.ahead(0, 1, 0));
        asked("ahead(0, 1, 1)", 1, land(FOUR), x -> x.ahead(0, 1, 1));
        due("BLIGHT, 9 at most", 9, told("shy5 8;").ahead(0, 2, 1));
        due("BLIGHT, 0 at least", 0, told("vain5 3;band0 1;").ahead(0, 2, 1));
        due("EARS, 99 at most", 99, told("plain98 0;band0 9;").ahead(0, 1, 0));
        due("EARS, 0 at least", 0, told("plain8 9;").ahead(0, 1, 0));
    }

    private static void aheadBad() {
        refused("ahead(0, 0, 0), no FIELDS", BAD, PraisedFields::new, x -> x.ahead(0, 0, 0));
        refused("ahead(4, 61, 2)", BAD, land(FOUR), x -> x.ahead(4, 61, 2));
        refused("ahead(least, most, least)", BAD, land(FOUR), x -> x.ahead(LEAST, MOST, LEAST));
    }

    private static void lateBy() {
        bounds("late(0, %d)", land("plain1 0;band0 2;"), 0, 0, 99, 49, (x, v) -> x.late(0, v));
        bounds("late(%d, 1)", land(FOUR), 0, 0, 3, 0, (x, v) -> x.late(v, 1));
        bounds("late(%d, 99), six", land(SIX), 0, 0, 5, 0, (x, v) -> x.late(v, 99));
        asked("late(0, 0), now", 0, land(SLOW), x -> x.late(0, 0));
        asked("late(0, 1)", 1, land(SLOW), x -> x.late(0, 1));
        asked("late(0, 60), the last", 60, land(SLOW), x -> x.late(0, 60));
        // EARS fall first, then rise: 5 are there now, 6 come late.
        due("late(0, 5), the first time", 0, told("plain5 2;band0 1;").late(0, 5));
        due("late(0, 6), it falls first", 4, told("plain5 2;band0 1;").late(0, 6));
        due("late(0, 99), of 99", 0, told("plain99 0;").late(0, 99));
    }

    private static void lateNone() {
        asked("late(0, 61)", NONE, land(SLOW), x -> x.late(0, 61));
        asked("late(0, 99)", NONE, land(SLOW), x -> x.late(0, 99));
        asked("late(0, 1), silence", NONE, land("plain0 0;"), x -> x.late(0, 1));
        asked("late(0, 99) of 98, deaf", NONE, land("deaf98 0;band0 9;"), x -> x.late(0, 99));
        refused("late(0, 100), BAD though none", BAD, land("plain0 0;"), x -> x.late(0, 100));
        refused("late(1, 1), BAD though none", BAD, land("plain0 0;"), x -> x.late(1, 1));
        refused("late(0, 0), no FIELDS", BAD, PraisedFields::new, x -> x.late(0, 0));
    }

    private static void changeCalls() {
        promise(9);
        sentence("KIND, EARS, BLIGHT (what 0 to 2) of a FIELD becomes v: what it was.", ChangeBoundaryTest::altered);
        sentence("BAD.", ChangeBoundaryTest::alterBad);
        promise(10);
        sentence("A BAND goes to a FIELD: AT which it was.", ChangeBoundaryTest::marched);
        sentence("BAD.", ChangeBoundaryTest::marchBad);
        promise(11);
        sentence("LOUD of a BAND becomes v: what it was.", ChangeBoundaryTest::played);
        sentence("BAD.", ChangeBoundaryTest::playBad);
        promise(12);
        sentence("GLUT becomes v: what it was.", ChangeBoundaryTest::gluts);
        sentence("BAD.", ChangeBoundaryTest::glutBad);
        promise(13);
        sentence("A BAND more: how many there are. BAD;", ChangeBoundaryTest::hired);
        sentence("FULL.", ChangeBoundaryTest::hireFull);
        promise(14);
        sentence("BANDS are the first n alone: how many there were.", ChangeBoundaryTest::left);
        sentence("BAD.", ChangeBoundaryTest::leaveBad);
    }

    private static void weekCalls() {
        promise(15);
        sentence("n WEEKS (0 to 30): ALL EARS then. BAD;", ChangeBoundaryTest::weeksRun);
        sentence("FULL: WEEK would be 1000 or more.", ChangeBoundaryTest::weeksFull);
        promise(16);
        sentence("BY WEEKS, n of them (0 to 60): ALL EARS then (what 0), SHEAVES (1), BLIGHT of all (2),",
            ChangeBoundaryTest::runsOf);
        sentence("how many fines in them (whether there were SHEAVES or not; 3),", ChangeBoundaryTest::finesCounted);
        sentence("FIELDS without EARS then (4; bits).", ChangeBoundaryTest::withoutEars);
        sentence("BAD.", ChangeBoundaryTest::runsBad);
        promise(17);
        sentence("BY WEEKS, n of them (0 to 60): EARS of a FIELD then (what 0), BLIGHT (1).",
            ChangeBoundaryTest::aheadOf);
        sentence("BAD.", ChangeBoundaryTest::aheadBad);
        promise(18);
        sentence("BY WEEKS: behind how many (0 to 60) EARS of a FIELD are v (0 to 99) or more first. BAD;",
            ChangeBoundaryTest::lateBy);
        sentence("NONE: behind none.", ChangeBoundaryTest::lateNone);
    }

    public static void main(String[] args) {
        changeCalls();
        weekCalls();
        allQuoted(9, 18);
        finish();
    }
}
