import java.util.Arrays;

/** The boundary cases of promises 34 to 40 (images, sheets), each sentence with a test of its own. */
public final class SheetBoundaryTest extends Bench {
    private static final String SIX = "plain0 0;vain99 9;shy0 9;deaf99 0;plain5 5;vain6 6;";
    private static final String MOST_LAND = SIX + "band0 1;band5 9;band5 2;band0 3;glut99;";
    private static final String PAIR = "plain0 0;plain0 0;plain0 0;band0 1;band0 2;";

    /** A land of three FIELDS and two BANDS with a SHEET of that lane, its CELLS laid from the first on. */
    private static Maker paper(int k, int lane, int size, int... cells) {
        return () -> {
            PraisedFields x = told(PAIR);
            x.sheet(k, lane, size);
            layRow(x, k, cells);
            return x;
        };
    }

    private static int[] row(int size, int cell) {
        int[] cells = new int[size];
        Arrays.fill(cells, cell);
        return cells;
    }

    /** What read() answers, what torn() is then, and AT which FIELDS the two BANDS are. */
    private static void reads(String call, Maker maker, int came, int torn, int at0, int at1, Call c) {
        PraisedFields x = maker.make();
        due(call, came, c.on(x));
        due(call + ", torn()", torn, x.torn());
        due(call + ", BAND 0", at0, x.band(0, 0));
        due(call + ", BAND 1", at1, x.band(1, 0));
    }

    // ---- 34, 35

    private static void kept() {
        bounds("keep(%d)", Bench::rich, 0, 1, 1, 1, (x, v) -> x.keep(v));
        bounds("keep(%d), the first time", land(FOUR), 0, 0, 1, 0, (x, v) -> x.keep(v));
        for (int k = 0; k < 2; k++) {
            PraisedFields x = told(FOUR);
            due("keep(" + k + ")", 0, x.keep(k));
            due("keep(" + k + ") again", 1, x.keep(k));
            due("keep of the other", 0, x.keep(1 - k));
            due("keep of the other again", 1, x.keep(1 - k));
        }
        PraisedFields x = new PraisedFields();
        due("keep(0), nothing told", 0, x.keep(0));
        x.hire(0, 1);
        feedAll(x, "$");
        x.text();
        due("keep(0), a FAULT leaves it", 1, x.keep(0));
        feedAll(x, SLOW);
        x.text();
        due("keep(0), a text took it away", 0, x.keep(0));
    }

    private static PraisedFields most() {
        PraisedFields x = told(MOST_LAND);
        for (int i = 0; i < 33; i++) {
            x.weeks(30);
        }
        x.weeks(9);
        for (int i = 0; i < 6; i++) {
            x.see(20, i, i);
        }
        return x;
    }

    /** All that an IMAGE holds: as it is now, and as it is when it has been changed and is back. */
    private static void imageHolds() {
        for (int k = 0; k < 2; k++) {
            int image = k;
            PraisedFields x = most();
            x.keep(k);
            change(x);
            due("back(" + k + ")", 999, x.back(k));
            PraisedFields y = most();
            y.keep(k);
            alike("back(" + k + ") of the most", trace(y), trace(x));
            Maker rich = () -> {
                PraisedFields z = rich();
                z.keep(image);
                return z;
            };
            x = rich.make();
            change(x);
            due("back(" + k + ")", 1, x.back(k));
            alike("back(" + k + ") of some", trace(rich.make()), trace(x));
        }
    }

    private static void imageHoldsSixSeen() {
        PraisedFields x = told("plain0 0;plain50 0;band0 1;");
        int[][] seen = {{1, 0, 1}, {2, 0, 2}, {3, 0, 3}, {1, 1, 50}, {2, 1, 49}, {5, 1, 40}};
        for (int[] one : seen) {
            x.see(one[0], one[1], one[2]);
        }
        due("kinds(0), six as SEEN", 1, x.kinds(0));
        x.keep(0);
        x.forget(0);
        for (int i = 0; i < 6; i++) {
            x.see(7, i < 3 ? 1 : 0, 9);
        }
        due("kinds(0), six at odds", 0, x.kinds(0));
        x.back(0);
        due("SEEN", 6, x.count(0));
        due("kinds(0), six as SEEN again", 1, x.kinds(0));
    }

    private static void change(PraisedFields x) {
        for (int what = 0; what < 3; what++) {
            x.alter(0, what, 3);
            x.alter(3, what, 2);
        }
        x.march(0, 3);
        x.play(1, 7);
        x.glut(1);
        x.weeks(1);
        x.forget(0);
        x.see(9, 1, 2);
        x.see(11, 2, 3);
        x.leave(1);
    }

    private static void backTo() {
        PraisedFields x = told(FOUR);
        x.keep(0);
        x.weeks(2);
        x.leave(0);
        x.keep(1);
        due("back(0)", 0, x.back(0));
        due("BANDS", 2, x.rule(1));
        due("back(1)", 2, x.back(1));
        due("BANDS", 0, x.rule(1));
        due("back(0) again", 0, x.back(0));
        x.alter(0, 1, 77);
        due("back(0), once more", 0, x.back(0));
        due("EARS", 10, x.field(0, 1));
        due("IMAGES stay", 2, x.count(1));
        x = new PraisedFields();
        x.glut(7);
        x.weeks(30);
        x.keep(1);
        x.weeks(1);
        due("back(1), no FIELDS", 30, x.back(1));
        due("GLUT", 7, x.rule(5));
    }

    private static void imageHoldsNoMore() {
        PraisedFields x = rich();
        x.keep(0);
        x.end(3);
        x.sheet(0, 2, 9);
        x.read(0, 0, 0, 1);
        feedAll(x, "$");
        x.text();
        x.feed(' ');
        x.back(0);
        due("THE TAPE is no part of it", 1, x.count(2));
        due("SHEETS are no part of it", 9, x.count(3));
        due("torn() is no part of it", 3, x.torn());
        due("fault() is no part of it", 1, x.fault());
        due("IMAGE 1 is no part of it", 2, x.count(1));
    }

    private static void backBad() {
        for (int k : new int[] {-1, 2, LEAST, MOST}) {
            refused("back(" + k + ")", BAD, Bench::rich, x -> x.back(k));
            refused("back(" + k + "), no IMAGES", BAD, land(FOUR), x -> x.back(k));
        }
    }

    private static void backState() {
        for (int k = 0; k < 2; k++) {
            int image = k;
            refused("back(" + k + "), no IMAGES", STATE, land(FOUR), x -> x.back(image));
            refused("back(" + k + "), the other is there", STATE, () -> {
                PraisedFields x = told(FOUR);
                x.keep(1 - image);
                return x;
            }, x -> x.back(image));
        }
        PraisedFields x = rich();
        x.text();
        due("back(0), a text took it away", STATE, x.back(0));
        due("back(1), a text took it away", STATE, x.back(1));
    }

    // ---- 36, 37

    private static void newRow() {
        bounds("sheet(%d, 1, 40)", Bench::rich, 0, 1, 3, 1, (x, v) -> x.sheet(v, 1, 40));
        bounds("sheet(3, %d, 0)", Bench::rich, 0, 1, 2, 1, (x, v) -> x.sheet(3, v, 0));
        for (int lane = 0; lane < 3; lane++) {
            for (int size : new int[] {0, 1, 39, 40}) {
                PraisedFields x = told(PAIR);
                due("sheet(0, " + lane + ", " + size + ")", 1, x.sheet(0, lane, size));
                due("CELLS", size, x.count(3));
                due("the last CELL", size == 0 ? -12 : 1, x.lay(0, size - 1, 1));
                due("a CELL more", -12, x.lay(0, size, 1));
            }
            for (int then = 0; then < 3; then++) {
                for (int k = 0; k < 4; k++) {
                    newRowOver(k, lane, then);
                }
            }
        }
        reads("the other SHEETS stay", paper(1, 0, 2, 0, 1), 1, 0, 1, 0, x -> {
            x.sheet(0, 0, 2);
            x.sheet(2, 0, 2);
            return x.read(1, 0, 0, 1);
        });
    }

    /** CELLS of 1 are laid; a new row is of 0 again, be it shorter, longer or of another lane. */
    private static void newRowOver(int k, int lane, int then) {
        String what = "SHEET " + k + ", lane " + lane + ", then lane " + then;
        reads(what + ", shorter", paper(k, lane, 40, row(40, 1)), 1, 0, 0, 2, x -> {
            bothTo2(x);
            x.sheet(k, then, 2);
            return x.read(k, then, 0, 1);
        });
        reads(what + ", longer again", paper(k, lane, 40, row(40, 1)), 20, 0, 0, 2, x -> {
            bothTo2(x);
            x.sheet(k, then, 2);
            x.sheet(k, then, 40);
            return x.read(k, then, 0, 20);
        });
    }

    /** Away from FIELD 0, so that it shows which BAND came there. */
    private static void bothTo2(PraisedFields x) {
        x.march(0, 2);
        x.march(1, 2);
    }

    private static void sheetBad() {
        for (int n : new int[] {41, 42, 1000, MOST}) {
            refused("sheet(0, 0, " + n + ")", BAD, Bench::rich, x -> x.sheet(0, 0, n));
            refused("sheet(3, 0, " + n + "), nothing stays", BAD, Bench::rich, x -> x.sheet(3, 0, n));
        }
        refused("sheet(4, 0, 2)", BAD, Bench::rich, x -> x.sheet(4, 0, 2));
        refused("sheet(0, 3, 2)", BAD, Bench::rich, x -> x.sheet(0, 3, 2));
        refused("sheet(most, most, most)", BAD, Bench::rich, x -> x.sheet(MOST, MOST, MOST));
    }

    private static void sheetSize() {
        for (int n : new int[] {-1, -2, -40, -41, LEAST}) {
            for (int lane = 0; lane < 3; lane++) {
                int which = lane;
                refused("sheet(0, " + lane + ", " + n + ")", -14, Bench::rich, x -> x.sheet(0, which, n));
                refused("sheet(3, " + lane + ", " + n + "), nothing", -14, Bench::rich, x -> x.sheet(3, which, n));
            }
            refused("sheet(4, 0, " + n + "), BAD first", BAD, Bench::rich, x -> x.sheet(4, 0, n));
            refused("sheet(-1, 0, " + n + "), BAD first", BAD, Bench::rich, x -> x.sheet(-1, 0, n));
            refused("sheet(0, 3, " + n + "), BAD first", BAD, Bench::rich, x -> x.sheet(0, 3, n));
            refused("sheet(0, -1, " + n + "), BAD first", BAD, Bench::rich, x -> x.sheet(0, -1, n));
        }
    }

    private static void cellBecomes() {
        for (int k = 0; k < 4; k++) {
            int sheet = k;
            reads("lay(" + k + ", 1, 2)", paper(k, 2, 2, 0, 2), 1, 0, 2, 0, x -> x.read(sheet, 2, 0, 1));
        }
        reads("lay(0, 39, 2), the last", paper(0, 1, 40), 1, 0, 2, 0, x -> {
            due("lay(0, 39, 2)", 1, x.lay(0, 39, 2));
            return x.read(0, 1, 38, 1);
        });
        reads("lay(0, 0, 1), the first", paper(0, 1, 40, 9, 2), 1, 0, 0, 2, x -> {
            due("lay(0, 0, 1)", 1, x.lay(0, 0, 1));
            return x.read(0, 1, 0, 1);
        });
        lowestBits(2, 2, 2, 2);
        lowestBits(258, 2, -20, -20);
        lowestBits(-254, 2, -20, -20);
        lowestBits(65538, 2, 2, -20);
        lowestBits(-65534, 2, 2, -20);
        lowestBits(LEAST + 2, 2, 2, -20);
        lowestBits(MOST, -20, -20, -20);
        lowestBits(130, -20, -20, -20);
        lowestBits(32770, 2, -20, -20);
    }

    /** FIELD 2 is read of a CELL in which v was laid, or read() is refused, by each lane. */
    private static void lowestBits(int v, int asByte, int asShort, int asInt) {
        int[] due = {asByte, asShort, asInt};
        for (int lane = 0; lane < 3; lane++) {
            PraisedFields x = paper(0, lane, 2).make();
            due("lay(0, 1, " + v + "), lane " + lane, 1, x.lay(0, 1, v));
            due("read of it", due[lane] < 0 ? due[lane] : 1, x.read(0, lane, 0, 1));
            due("BAND 0", Math.max(0, due[lane]), x.band(0, 0));
        }
    }

    private static void layBad() {
        for (int k : new int[] {-1, 4, LEAST, MOST}) {
            refused("lay(" + k + ", 0, 0)", BAD, Bench::rich, x -> x.lay(k, 0, 0));
            refused("lay(" + k + ", -1, 0), BAD first", BAD, Bench::rich, x -> x.lay(k, -1, 0));
        }
    }

    private static void layFaults() {
        for (int i : new int[] {0, -1, 1, 39, 40, LEAST, MOST}) {
            refused("lay(3, " + i + ", 1), NULL", -11, Bench::rich, x -> x.lay(3, i, 1));
            refused("lay(0, " + i + ", 1), no CELLS", -12, paper(0, 2, 0), x -> x.lay(0, i, 1));
        }
        for (int i : new int[] {-1, 4, 5, 40, -4, LEAST, MOST}) {
            refused("lay(0, " + i + ", 1), INDEX", -12, Bench::rich, x -> x.lay(0, i, 1));
        }
        refused("lay(0, 40, 1) of 40, INDEX", -12, paper(0, 1, 40), x -> x.lay(0, 40, 1));
        // The row next to it in the object is another SHEET's.
        reads("lay(0, 40, 1) lies in no other SHEET", paper(1, 2, 2, 0, 2), 1, 0, 2, 0, x -> {
            x.sheet(0, 2, 40);
            x.lay(0, 40, 1);
            x.lay(0, 41, 1);
            return x.read(1, 2, 0, 1);
        });
    }

    // ---- 38, 39

    private static void readTimes() {
        bounds("read(0, 0, 0, %d)", paper(0, 0, 40), 0, 0, 20, 20, (x, v) -> x.read(0, 0, 0, v));
        reads("read, none", paper(0, 0, 4, 0, 1, 1, 2), 0, 0, 0, 0, x -> x.read(0, 0, 0, 0));
        reads("read, one", paper(0, 0, 4, 0, 1, 1, 2), 1, 0, 1, 0, x -> x.read(0, 0, 0, 1));
        reads("read, two", paper(0, 0, 4, 0, 1, 1, 2), 2, 0, 1, 2, x -> x.read(0, 0, 0, 2));
        reads("read, two, crossed", paper(0, 0, 4, 0, 2, 1, 1), 2, 0, 2, 1, x -> x.read(0, 0, 0, 2));
        reads("read, the later stays", paper(0, 0, 4, 0, 1, 0, 2), 2, 0, 2, 0, x -> x.read(0, 0, 0, 2));
        reads("read, from CELL 2 on", paper(0, 0, 4, 0, 1, 1, 2), 1, 0, 0, 2, x -> x.read(0, 0, 2, 1));
        reads("read, from CELL 1 on", paper(0, 0, 4, 9, 1, 1, 9), 1, 0, 0, 1, x -> x.read(0, 0, 1, 1));
        reads("read, the last two of 40", paper(0, 2, 40, row(40, 1)), 1, 0, 0, 1, x -> x.read(0, 2, 38, 1));
        reads("read, all of 40", paper(0, 2, 40, row(40, 1)), 20, 0, 0, 1, x -> x.read(0, 2, 0, 20));
        for (int lane = 0; lane < 3; lane++) {
            int which = lane;
            reads("read, lane " + lane, paper(3, lane, 2, 1, 2), 1, 0, 0, 2, x -> x.read(3, which, 0, 1));
        }
    }

    private static void machineRefuses() {
        int[] four = {0, 1, 1, 2};
        reads("one more than there are", paper(0, 0, 4, four), 2, 2, 1, 2, x -> x.read(0, 0, 0, 3));
        reads("20 of 2", paper(0, 0, 4, four), 2, 2, 1, 2, x -> x.read(0, 0, 0, 20));
        reads("half of the second", paper(0, 0, 3, four), 1, 2, 1, 0, x -> x.read(0, 0, 0, 2));
        reads("half of the first", paper(0, 0, 1, four), 0, 2, 0, 0, x -> x.read(0, 0, 0, 1));
        reads("half of one, no such BAND", paper(0, 0, 3, 0, 1, 9), 1, 2, 1, 0, x -> x.read(0, 0, 0, 2));
        reads("from the last CELL", paper(0, 0, 4, four), 0, 2, 0, 0, x -> x.read(0, 0, 3, 1));
        reads("20 of 40 from CELL 1", paper(0, 1, 40, row(40, 1)), 19, 2, 0, 1, x -> x.read(0, 1, 1, 20));
        reads("from CELL 39 of 40", paper(0, 1, 40, row(40, 1)), 0, 2, 0, 0, x -> x.read(0, 1, 39, 1));
        reads("from CELL 40 of 40", paper(0, 1, 40, row(40, 1)), 0, 2, 0, 0, x -> x.read(0, 1, 40, 1));
        reads("no CELLS", paper(0, 1, 0), 0, 2, 0, 0, x -> x.read(0, 1, 0, 1));
        for (int f : new int[] {-1, -2, 4, 5, LEAST, LEAST + 1, LEAST + 2, MOST, MOST - 1, MOST - 2}) {
            reads("from CELL " + f, paper(0, 0, 4, four), 0, 2, 0, 0, x -> x.read(0, 0, f, 20));
            reads("NULL, from CELL " + f, paper(0, 0, 4, four), 0, 1, 0, 0, x -> x.read(1, 0, f, 20));
            reads("CAST, from CELL " + f, paper(0, 0, 4, four), 0, 3, 0, 0, x -> x.read(0, 1, f, 20));
        }
        for (int lane = 0; lane < 3; lane++) {
            for (int taken = 0; taken < 3; taken++) {
                int as = taken;
                boolean same = lane == taken;
                reads("lane " + lane + " taken as " + taken, paper(0, lane, 4, four), same ? 2 : 0, same ? 0 : 3,
                    same ? 1 : 0, same ? 2 : 0, x -> x.read(0, as, 0, 2));
                reads("NULL taken as " + taken, paper(0, lane, 4, four), 0, 1, 0, 0, x -> x.read(3, as, 0, 2));
                reads("no CELLS of lane " + lane + " taken as " + taken, paper(0, lane, 0), 0, same ? 2 : 3, 0, 0,
                    x -> x.read(0, as, 0, 1));
            }
        }
    }

    private static void readBad() {
        bounds("read(%d, 1, 0, 1)", Bench::rich, 0, 0, 3, 0, (x, v) -> x.read(v, 1, 0, 1));
        bounds("read(0, %d, 0, 1)", Bench::rich, 0, 1, 2, 0, (x, v) -> x.read(0, v, 0, 1));
        bounds("read(0, 0, 0, %d)", Bench::rich, 0, 0, 20, 2, (x, v) -> x.read(0, 0, 0, v));
        refused("read(3, 3, -1, 1), BAD ahead of NULL", BAD, Bench::rich, x -> x.read(3, 3, -1, 1));
        refused("read(3, 0, -1, 21), BAD ahead of NULL", BAD, Bench::rich, x -> x.read(3, 0, -1, 21));
        refused("read(0, 0, most, -1), BAD ahead of INDEX", BAD, Bench::rich, x -> x.read(0, 0, MOST, -1));
    }

    private static void marchRefuses() {
        int[][] wrong = {{2, 0}, {-1, 0}, {0, 3}, {0, -1}, {2, 3}, {127, 127}, {-128, 0}};
        for (int[] pair : wrong) {
            String what = " of BAND " + pair[0] + ", FIELD " + pair[1];
            Maker first = paper(0, 0, 4, pair[0], pair[1], 1, 2);
            Maker second = paper(0, 0, 4, 1, 2, pair[0], pair[1]);
            Maker behindAnother = paper(0, 0, 4, 0, 1, pair[0], pair[1]);
            refused("behind another" + what, -21, behindAnother, x -> x.read(0, 0, 0, 2));
            refused("the first" + what, -20, first, x -> x.read(0, 0, 0, 2));
            refused("the second" + what, -21, second, x -> x.read(0, 0, 0, 2));
            refused("the second" + what + ", ahead of INDEX", -21, second, x -> x.read(0, 0, 0, 20));
            reads("the second" + what + " is not read", second, 1, 0, 0, 2, x -> x.read(0, 0, 0, 1));
        }
        for (int k = 0; k < 4; k++) {
            int sheet = k;
            Maker third = paper(k, 2, 8, 0, 1, 1, 2, 0, 3, 1, 0);
            refused("the third of SHEET " + k, -22, third, x -> x.read(sheet, 2, 0, 4));
            refused("the second of SHEET " + k + ", from CELL 2", -21, third, x -> x.read(sheet, 2, 2, 3));
            reads("the last of SHEET " + k, third, 1, 0, 0, 0, x -> x.read(sheet, 2, 6, 1));
        }
        int[] last = row(40, 1);
        last[39] = 3;
        refused("the last of 20", -39, paper(0, 2, 40, last), x -> x.read(0, 2, 0, 20));
        refused("of two the first met", -21, paper(0, 0, 6, 0, 1, 9, 9, 8, 8), x -> x.read(0, 0, 0, 3));
        refused("no BANDS", -20, () -> {
            PraisedFields x = told("shy0 0;");
            x.sheet(0, 0, 2);
            return x;
        }, x -> x.read(0, 0, 0, 1));
        refused("no FIELDS", -20, () -> {
            PraisedFields x = new PraisedFields();
            x.sheet(0, 0, 2);
            return x;
        }, x -> x.read(0, 0, 0, 1));
        reads("INDEX ahead of it", paper(0, 0, 3, 1, 2, 9), 1, 2, 0, 2, x -> x.read(0, 0, 0, 2));
        reads("CAST ahead of it", paper(0, 0, 2, 9, 9), 0, 3, 0, 0, x -> x.read(0, 1, 0, 1));
    }

    private static void latestTorn() {
        PraisedFields x = paper(0, 0, 3, 0, 1, 9).make();
        due("ahead of all", 0, x.torn());
        x.read(1, 0, 0, 1);
        due("NULL", 1, x.torn());
        x.read(0, 0, 0, 2);
        due("INDEX", 2, x.torn());
        x.read(0, 2, 0, 1);
        due("CAST", 3, x.torn());
        x.read(0, 0, 0, 1);
        due("none", 0, x.torn());
        x.read(0, 2, 0, 1);
        x.read(0, 0, 0, 21);
        x.read(4, 0, 0, 1);
        x.read(0, 3, 0, 1);
        due("BAD did not come to an end", 3, x.torn());
        x.lay(0, 1, 9);
        due("refused by march()", -20, x.read(0, 0, 0, 1));
        due("what is refused changes nothing", 3, x.torn());
        x.sheet(2, 0, -1);
        x.lay(2, 0, 0);
        x.lay(0, 3, 0);
        x.march(9, 9);
        x.keep(0);
        x.back(0);
        feedAll(x, "$");
        x.text();
        x.text();
        due("others leave it", 3, x.torn());
        due("read, 0 times", 0, x.read(0, 0, 0, 0));
        due("0 times came to an end", 0, x.torn());
        // Nothing is read 0 times, so the machine finds nothing.
        due("read, 0 times, NULL", 0, x.read(1, 0, 0, 0));
        due("torn()", 0, x.torn());
        due("read, 0 times, CAST", 0, x.read(0, 2, 0, 0));
        due("torn()", 0, x.torn());
        due("read, 0 times, INDEX", 0, x.read(0, 0, MOST, 0));
        due("torn()", 0, x.torn());
    }

    // ---- 40

    private static void counts() {
        int[] none = {0, 0, 0, NONE, 0, 0};
        int[] some = {2, 2, 7, 4, 6, 7};
        for (int what = 0; what < 6; what++) {
            int which = what;
            asked("count(" + what + "), a new object", none[what], PraisedFields::new, x -> x.count(which));
            asked("count(" + what + ")", some[what], Bench::rich, x -> x.count(which));
        }
        PraisedFields x = told("deaf0 9;");
        for (int n = 1; n <= 6; n++) {
            x.see(0, 0, 0);
            due("SEEN", n, x.count(0));
        }
        x.see(0, 0, 0);
        due("SEEN, the most", 6, x.count(0));
        x.keep(1);
        due("IMAGES", 1, x.count(1));
        x.keep(1);
        due("IMAGES, the same again", 1, x.count(1));
        x.keep(0);
        due("IMAGES, the most", 2, x.count(1));
        feedAll(x, times(161, " "));
        due("bytes, the most", 160, x.count(2));
        x.text();
        due("bytes behind text()", 0, x.count(2));
    }

    private static void cellsOfSheet() {
        PraisedFields x = new PraisedFields();
        x.sheet(1, 0, 5);
        x.sheet(3, 0, 5);
        due("CELLS, SHEET 0 is nothing", NONE, x.count(3));
        for (int size : new int[] {0, 1, 40, 0, 7}) {
            x.sheet(0, 2, size);
            due("CELLS", size, x.count(3));
        }
        x.sheet(0, 2, -1);
        x.sheet(0, 2, 41);
        due("CELLS behind what is refused", 7, x.count(3));
    }

    private static void sums() {
        PraisedFields x = told(times(6, "deaf0 9;") + times(4, "band5 9;"));
        due("BLIGHT of all, the most", 54, x.count(4));
        due("how LOUD all are, the most", 36, x.count(5));
        x.alter(5, 2, 0);
        x.play(3, 1);
        due("BLIGHT of all, the last healed", 45, x.count(4));
        due("how LOUD all are, the last less", 28, x.count(5));
        x.leave(1);
        due("how LOUD one is", 9, x.count(5));
        x.leave(0);
        due("how LOUD none is", 0, x.count(5));
    }

    private static void countBad() {
        bounds("count(%d)", Bench::rich, 0, 2, 5, 7, (x, v) -> x.count(v));
    }

    private static void imageCalls() {
        promise(34);
        sentence("IMAGE k (0, 1) is FIELDS, BANDS (all of them), GLUT, SHEAVES, WEEK, what was SEEN:",
            SheetBoundaryTest::imageHolds);
        sentence("what was SEEN:", SheetBoundaryTest::imageHoldsSixSeen);
        sentence("whether there was one (1, 0). BAD.", SheetBoundaryTest::kept);
        promise(35);
        sentence("All is as IMAGE k: WEEK.", SheetBoundaryTest::backTo);
        sentence("All is as IMAGE k: WEEK.", SheetBoundaryTest::imageHoldsNoMore);
        sentence("BAD;", SheetBoundaryTest::backBad);
        sentence("STATE: there is none.", SheetBoundaryTest::backState);
    }

    private static void sheetCalls() {
        promise(36);
        sentence("A SHEET is a new row of CELLS 0: 1.", SheetBoundaryTest::newRow);
        sentence("BAD: also n above 40;", SheetBoundaryTest::sheetBad);
        sentence("-10 - 4.", SheetBoundaryTest::sheetSize);
        promise(37);
        sentence("CELL i of a SHEET becomes v (its lowest bits): 1.", SheetBoundaryTest::cellBecomes);
        sentence("BAD: k;", SheetBoundaryTest::layBad);
        sentence("-10 less the FAULT: NULL, INDEX.", SheetBoundaryTest::layFaults);
        promise(38);
        sentence("n (0 to 20) times a BAND, a FIELD are read of a SHEET taken as of a lane, two CELLS each from CELL f "
            + "on, one behind another as by march(): how many came.", SheetBoundaryTest::readTimes);
        sentence("What the machine refuses: those that were whole ahead came (its FAULT is asked by torn()).",
            SheetBoundaryTest::machineRefuses);
        sentence("BAD: k, lane, n;", SheetBoundaryTest::readBad);
        sentence("-20 less i: the i-th, whole, is refused by march(): then none came; the first met.",
            SheetBoundaryTest::marchRefuses);
        promise(39);
        sentence("The FAULT of the latest read() that came to an end; 0.", SheetBoundaryTest::latestTorn);
        promise(40);
        sentence("How many: 0 SEEN, 1 IMAGES, 2 bytes on THE TAPE,", SheetBoundaryTest::counts);
        sentence("3 CELLS of SHEET 0 (NONE: nothing),", SheetBoundaryTest::cellsOfSheet);
        sentence("4 BLIGHT of all, 5 how LOUD all BANDS are.", SheetBoundaryTest::sums);
        sentence("BAD.", SheetBoundaryTest::countBad);
    }

    public static void main(String[] args) {
        imageCalls();
        sheetCalls();
        allQuoted(34, 40);
        finish();
    }
}
