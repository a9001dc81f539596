/** The boundary cases of promises 19 to 27 (what is best, hail), each sentence with a test of its own. */
public final class BestBoundaryTest extends Bench {
    private static final String SIX = times(5, "deaf0 0;") + "plain0 0;";
    /** As it is nothing grows; by a BAND that goes to FIELD 1 as many EARS come as WEEKS run. */
    private static final String MOVE = "deaf0 0;plain0 0;band0 1;";
    private static final String SWAP = "plain0 0;deaf0 0;band1 1;";

    // ---- 19

    private static void ordered() {
        asked("order(0), behind 6 WEEKS", 6, land(SLOW), x -> x.order(0));
        asked("order(0), no BANDS: 99 less 1, 2, 3, 4, 5", 84, land("plain99 0;"), x -> x.order(0));
        String alike = times(6, "deaf0 0;") + "band5 1;band4 1;band3 1;band2 1;";
        asked("order(0), all rows alike", 0, land(alike), x -> x.order(0));
        for (int b = 0; b < 4; b++) {
            int what = 10 + b;
            asked("order(" + what + "), all rows alike: the first", 0, land(alike), x -> x.order(what));
            asked("order(" + what + "), the last row alone", 5,
                land(SIX + times(4, "band0 1;")), x -> x.order(what));
        }
        asked("order(0), the last row alone", 24, land(SIX + times(4, "band0 1;")), x -> x.order(0));
        // Either BAND fills either FIELD: of the rows 0 1 and 1 0 the first.
        String two = "plain60 0;plain60 0;band1 9;band1 9;";
        asked("order(0), one each", 198, land(two), x -> x.order(0));
        asked("order(10), one each", 0, land(two), x -> x.order(10));
        asked("order(11), one each", 1, land(two), x -> x.order(11));
    }

    /** Rows in the midst of all rows, each the only one by which every FIELD is full. */
    private static void orderedOnce() {
        Maker crossed = land("plain60 0;plain90 0;band0 2;band1 9;");
        asked("order(0), crossed", 198, crossed, x -> x.order(0));
        asked("order(10), crossed", 1, crossed, x -> x.order(10));
        asked("order(11), crossed", 0, crossed, x -> x.order(11));
        Maker four = land("plain45 0;plain57 0;plain69 0;plain81 0;band0 3;band0 5;band0 7;band0 9;");
        asked("order(0), four", 396, four, x -> x.order(0));
        for (int b = 0; b < 4; b++) {
            int what = 10 + b;
            asked("order(" + what + "), four", 3 - b, four, x -> x.order(what));
        }
        PraisedFields x = crossed.make();
        x.order(0);
        x.alter(0, 1, 0);
        x.alter(1, 1, 0);
        due("order(0), less than before", 66, x.order(0));
        due("order(10), less than before", 0, x.order(10));
        due("order(11), less than before", 0, x.order(11));
    }

    private static void orderOfABand() {
        for (int bands = 0; bands <= 4; bands++) {
            Maker maker = land(SIX + times(bands, "band0 1;"));
            for (int b = 0; b < 4; b++) {
                int what = 10 + b;
                asked("order(" + what + ") of " + bands, b < bands ? 5 : NONE, maker, x -> x.order(what));
            }
        }
    }

    private static void orderBad() {
        for (int what : new int[] {-1, 1, 2, 3, 4, 5, 6, 7, 8, 9, 14, 15, -10, LEAST, LEAST + 9, LEAST + 10, MOST}) {
            refused("order(" + what + ")", BAD, land(SIX + times(4, "band0 1;")), x -> x.order(what));
            refused("order(" + what + "), no FIELDS", BAD, PraisedFields::new, x -> x.order(what));
            refused("order(" + what + "), no BANDS", BAD, land(SIX), x -> x.order(what));
        }
    }

    private static void orderState() {
        for (int what : new int[] {0, 10, 11, 12, 13}) {
            refused("order(" + what + ")", STATE, PraisedFields::new, x -> x.order(what));
            refused("order(" + what + "), told nothing", STATE, land("glut5;"), x -> x.order(what));
        }
        asked("order(0), one FIELD", 0, land("deaf0 0;"), x -> x.order(0));
    }

    // ---- 20, 21

    private static void moved() {
        bounds("move(%d, 1)", land(MOVE), 0, NONE, 60, 60, (x, v) -> x.move(v, 1));
        bounds("move(%d, 0)", land(MOVE), 0, NONE, 60, 1, (x, v) -> x.move(v, 0));
        bounds("move(5, %d)", land(MOVE), 0, 1, 1, 5, (x, v) -> x.move(5, v));
        asked("move(1, 0)", 1, land(MOVE), x -> x.move(1, 0));
        asked("move(1, 0), BAND 0 to FIELD 0", 0, land("plain0 0;deaf0 0;band1 1;"), x -> x.move(1, 0));
        asked("move(1, 0), BAND 3 to FIELD 5", 35, land(SIX + times(3, "band0 1;") + "band0 2;"), x -> x.move(1, 0));
        asked("move(1, 1), BAND 3 to FIELD 5", 2, land(SIX + times(3, "band0 1;") + "band0 2;"), x -> x.move(1, 1));
        asked("move(1, 0), BANDS alike", 5, land(SIX + times(4, "band0 1;")), x -> x.move(1, 0));
        asked("move(1, 0), FIELDS alike", 1, land("deaf0 0;plain0 0;plain0 0;band0 1;"), x -> x.move(1, 0));
        asked("move(1, 1), only one goes", 2, land("deaf0 0;plain0 0;band0 2;band0 1;"), x -> x.move(1, 1));
    }

    private static void movedByNone() {
        asked("move(0, 0)", NONE, land(MOVE), x -> x.move(0, 0));
        asked("move(0, 1)", NONE, land(MOVE), x -> x.move(0, 1));
        for (int what = 0; what < 2; what++) {
            int which = what;
            asked("move(1, " + what + "), as many", NONE, land("plain0 0;plain0 0;band0 1;"), x -> x.move(1, which));
            asked("move(60, " + what + "), fewer", NONE, land("deaf0 0;plain0 0;band1 1;"), x -> x.move(60, which));
            asked("move(60, " + what + "), one FIELD", NONE, land(SLOW), x -> x.move(60, which));
            asked("move(60, " + what + "), no BANDS", NONE, land(SIX), x -> x.move(60, which));
            asked("move(60, " + what + "), nothing", NONE, PraisedFields::new, x -> x.move(60, which));
        }
        refused("move(61, 0), BAD though none", BAD, land(SIX), x -> x.move(61, 0));
        refused("move(0, 2), BAD though none", BAD, PraisedFields::new, x -> x.move(0, 2));
    }

    private static void stilled() {
        // One sells 87 SHEAVES in 14 WEEKS, the other is fined a WEEK; the first fine finds no SHEAVES.
        String both = "plain99 0;plain99 0;band0 1;band1 1;";
        bounds("still(%d, 1)", land(both), 0, NONE, 60, 28, (x, v) -> x.still(v, 1));
        bounds("still(%d, 0)", land(both), 0, NONE, 60, 1, (x, v) -> x.still(v, 0));
        bounds("still(1, %d)", land(both), 0, 1, 1, 9, (x, v) -> x.still(1, v));
        asked("still(59, 1)", 29, land(both), x -> x.still(59, 1));
        String last = "deaf0 0;plain50 0;" + times(3, "band0 1;") + "band1 1;";
        asked("still(1, 0), BAND 3", 3, land(last), x -> x.still(1, 0));
        asked("still(1, 1), BAND 3", 5, land(last), x -> x.still(1, 1));
        String alike = "plain50 0;plain50 0;band1 1;band0 1;glut99;";
        asked("still(1, 0), of two the first", 0, land(alike), x -> x.still(1, 0));
        asked("still(1, 1), one alone is still", 5, land(alike), x -> x.still(1, 1));
        // A fine less is enough: 5 are sold, 1 is not fined any more.
        String fined = "plain50 0;deaf20 0;band1 1;";
        asked("still(1, 1), a fine less and 2 sold", 7, land(fined), x -> x.still(1, 1));
        asked("still(1, 1), 9 EARS are too few, a fine less", 5, land("plain50 0;plain8 0;band1 1;glut9;"),
            x -> x.still(1, 1));
    }

    private static void stillNone() {
        for (int what = 0; what < 2; what++) {
            int which = what;
            asked("still(0, " + what + ")", NONE, land("plain99 0;band0 1;"), x -> x.still(0, which));
            asked("still(1, " + what + "), as many", NONE, land("plain9 0;band0 1;"), x -> x.still(1, which));
            asked("still(1, " + what + "), another plays there", NONE,
                land("plain50 0;band0 1;band0 1;glut99;"), x -> x.still(1, which));
            asked("still(60, " + what + "), no BANDS", NONE, land("plain99 0;"), x -> x.still(60, which));
            asked("still(60, " + what + "), nothing", NONE, PraisedFields::new, x -> x.still(60, which));
        }
        refused("still(61, 0), BAD though none", BAD, PraisedFields::new, x -> x.still(61, 0));
        refused("still(0, 2), BAD though none", BAD, PraisedFields::new, x -> x.still(0, 2));
    }

    // ---- 22 to 25

    private static void needed() {
        bounds("need(%d, 1, 8)", land(FOUR), 0, 1, 1, 2, (x, v) -> x.need(v, 1, 8));
        bounds("need(%d, 1, 1), four", land("plain0 0;" + times(4, "band0 9;")), 0, 1, 3, 1, (x, v) -> x.need(v, 1, 1));
        bounds("need(0, %d, 61)", land(SLOW), 0, NONE, 60, 2, (x, v) -> x.need(0, v, 61));
        bounds("need(0, 60, %d)", land(SLOW), 0, 1, 99, 2, (x, v) -> x.need(0, 60, v));
        asked("need(0, 0, 0), 1 at least", 1, land(SLOW), x -> x.need(0, 0, 0));
        asked("need(0, 60, 60)", 1, land(SLOW), x -> x.need(0, 60, 60));
        asked("need(0, 10, 90), 9 at most", 9, land(SLOW), x -> x.need(0, 10, 90));
        asked("need(0, 10, 81)", 9, land(SLOW), x -> x.need(0, 10, 81));
        asked("need(0, 10, 80)", 8, land(SLOW), x -> x.need(0, 10, 80));
        asked("need(0, 11, 99)", 9, land(SLOW), x -> x.need(0, 11, 99));
        String crossed = "plain0 0;plain10 0;band1 3;band0 9;";
        asked("need(0, 1, 15), AT FIELD 1", 5, land(crossed), x -> x.need(0, 1, 15));
        asked("need(1, 1, 6), AT FIELD 0", 6, land(crossed), x -> x.need(1, 1, 6));
        asked("need(0, 1, 5), by others too", 2, land("plain0 0;plain0 0;band0 9;band0 3;band1 9;"),
            x -> x.need(0, 1, 5));
    }

    private static void neededByNone() {
        asked("need(0, 10, 91)", NONE, land(SLOW), x -> x.need(0, 10, 91));
        asked("need(0, 0, 1)", NONE, land(SLOW), x -> x.need(0, 0, 1));
        asked("need(0, 60, 1), deaf", NONE, land("deaf0 0;band0 9;"), x -> x.need(0, 60, 1));
        asked("need(0, 60, 99), deaf, 99", 1, land("deaf99 0;band0 9;"), x -> x.need(0, 60, 99));
        refused("need(0, 60, 100), BAD though none", BAD, land("deaf0 0;band0 9;"), x -> x.need(0, 60, 100));
        refused("need(0, 1, 1), no BANDS", BAD, land(SIX), x -> x.need(0, 1, 1));
        refused("need(1, 61, 100)", BAD, land(SLOW), x -> x.need(1, 61, 100));
    }

    private static void swapped() {
        bounds("swap(%d, 1)", land(SWAP), 0, NONE, 60, 60, (x, v) -> x.swap(v, 1));
        bounds("swap(%d, 0)", land(SWAP), 0, NONE, 60, 1, (x, v) -> x.swap(v, 0));
        bounds("swap(5, %d)", land(SWAP), 0, 1, 1, 5, (x, v) -> x.swap(5, v));
        asked("swap(1, 0), the last two", 45, land(SIX + "band4 1;"), x -> x.swap(1, 0));
        asked("swap(1, 0), the first and the last", 5, land(SIX + "band0 1;"), x -> x.swap(1, 0));
        asked("swap(1, 1), all four go", 4, land(SIX + times(4, "band0 1;")), x -> x.swap(1, 1));
        asked("swap(1, 0), of several the least", 1, land("plain0 0;deaf0 0;plain0 0;band1 1;"), x -> x.swap(1, 0));
        // What was AT the other comes back: 9 go to the vain one, 1 to the plain one.
        asked("swap(1, 1), both ways", 19, land("plain0 0;vain0 0;band0 5;band0 4;band1 1;"), x -> x.swap(1, 1));
    }

    private static void swappedByNone() {
        for (int what = 0; what < 2; what++) {
            int which = what;
            asked("swap(0, " + what + ")", NONE, land(SWAP), x -> x.swap(0, which));
            asked("swap(1, " + what + "), as many", NONE, land("plain0 0;plain0 0;band0 1;"), x -> x.swap(1, which));
            asked("swap(1, " + what + "), fewer", NONE, land("plain0 0;deaf0 0;band0 1;"), x -> x.swap(1, which));
            asked("swap(1, " + what + "), one FIELD", NONE, land(SLOW), x -> x.swap(1, which));
            asked("swap(60, " + what + "), no BANDS", NONE, land(SIX), x -> x.swap(60, which));
            asked("swap(60, " + what + "), nothing", NONE, PraisedFields::new, x -> x.swap(60, which));
        }
        refused("swap(61, 0), BAD though none", BAD, PraisedFields::new, x -> x.swap(61, 0));
        refused("swap(0, 2), BAD though none", BAD, PraisedFields::new, x -> x.swap(0, 2));
    }

    private static void borne() {
        bounds("bear(%d, 0, 6)", land(FOUR), 0, 9, 3, 9, (x, v) -> x.bear(v, 0, 6));
        bounds("bear(0, %d, 51)", land(SLOW), 0, NONE, 60, 9, (x, v) -> x.bear(0, v, 51));
        bounds("bear(0, 60, %d)", land(SLOW), 0, 9, 99, NONE, (x, v) -> x.bear(0, 60, v));
        for (int blight = 0; blight <= 9; blight++) {
            int due = blight;
            // A BLIGHT of d costs d WEEKS, whatever it is now.
            asked("bear(0, 60, " + (60 - blight) + ")", due, land("plain0 4;band0 1;"), x -> x.bear(0, 60, 60 - due));
        }
        asked("bear(0, 0, 99), of 99", 9, land("plain99 0;"), x -> x.bear(0, 0, 99));
        asked("bear(0, 1, 99), of 99, silence", 0, land("plain99 5;"), x -> x.bear(0, 1, 99));
    }

    private static void borneByNone() {
        asked("bear(0, 60, 61)", NONE, land(SLOW), x -> x.bear(0, 60, 61));
        asked("bear(0, 0, 1)", NONE, land(SLOW), x -> x.bear(0, 0, 1));
        asked("bear(0, 2, 99), of 99, silence", NONE, land("plain99 0;"), x -> x.bear(0, 2, 99));
        refused("bear(0, 60, 100), BAD though none", BAD, land(SLOW), x -> x.bear(0, 60, 100));
        refused("bear(0, 0, 0), no FIELDS", BAD, PraisedFields::new, x -> x.bear(0, 0, 0));
    }

    private static void bestKind() {
        String two = "plain0 0;plain0 0;band0 1;";
        bounds("kind(%d, 1, 0)", land(two), 0, 1, 1, 0, (x, v) -> x.kind(v, 1, 0));
        bounds("kind(1, %d, 1)", land(two), 0, 0, 60, 60, (x, v) -> x.kind(1, v, 1));
        bounds("kind(0, 5, %d)", land(SLOW), 0, 1, 1, 10, (x, v) -> x.kind(0, 5, v));
        asked("kind(0, 0, 0), all alike: the first", 0, land("deaf5 0;"), x -> x.kind(0, 0, 0));
        asked("kind(0, 0, 1)", 5, land("deaf5 0;"), x -> x.kind(0, 0, 1));
        asked("kind(0, 1, 0), vain falls twice: the first of three", 0, land("vain9 4;"), x -> x.kind(0, 1, 0));
        asked("kind(0, 1, 1), vain falls twice", 5, land("vain9 4;"), x -> x.kind(0, 1, 1));
        asked("kind(0, 60, 0), plain and vain are both full", 0, land("plain90 0;band0 9;"), x -> x.kind(0, 60, 0));
        asked("kind(0, 60, 1), full", 99, land("plain90 0;band0 9;"), x -> x.kind(0, 60, 1));
        asked("kind(0, 1, 1), with all others", 594, land(times(6, "deaf99 0;") + "band1 1;"), x -> x.kind(0, 1, 1));
    }

    private static void kindBad() {
        refused("kind(0, 0, 0), no FIELDS", BAD, PraisedFields::new, x -> x.kind(0, 0, 0));
        refused("kind(1, 61, 2)", BAD, land(SLOW), x -> x.kind(1, 61, 2));
        refused("kind(most, least, most)", BAD, land(SLOW), x -> x.kind(MOST, LEAST, MOST));
    }

    // ---- 26, 27

    private static void fraction(String call, long top, long bottom, Maker maker, CallWith c) {
        asked(call + ", numerator", top, maker, x -> c.on(x, 0));
        asked(call + ", denominator", bottom, maker, x -> c.on(x, 1));
    }

    private static void hails() {
        bounds("luck(%d, 0, 8, 8, 0)", land(SLOW), 0, 1, 10, 0, (x, v) -> x.luck(v, 0, 8, 8, 0));
        bounds("luck(5, 0, %d, 8, 1)", land(SLOW), 0, 1, 8, 256, (x, v) -> x.luck(5, 0, v, 8, 1));
        fraction("luck(0, 0, 8, 8), never", 1, 1, land(SLOW), (x, v) -> x.luck(0, 0, 8, 8, v));
        fraction("luck(10, 0, 8, 1), always", 0, 1, land(SLOW), (x, v) -> x.luck(10, 0, 8, 1, v));
        fraction("luck(1, 0, 1, 1)", 9, 10, land(SLOW), (x, v) -> x.luck(1, 0, 1, 1, v));
        fraction("luck(9, 0, 1, 1)", 1, 10, land(SLOW), (x, v) -> x.luck(9, 0, 1, 1, v));
        fraction("luck(9, 0, 8, 8)", 1, 100000000, land(SLOW), (x, v) -> x.luck(9, 0, 8, 8, v));
        fraction("luck(5, 0, 0, 0), no WEEKS", 1, 1, land(SLOW), (x, v) -> x.luck(5, 0, 0, 0, v));
        fraction("luck(10, 0, 0, 1), no WEEKS", 0, 1, land(SLOW), (x, v) -> x.luck(10, 0, 0, 1, v));
    }

    private static void earsOrMore() {
        bounds("luck(5, 0, 1, %d, 0)", land(SLOW), 0, 1, 99, 0, (x, v) -> x.luck(5, 0, 1, v, 0));
        bounds("luck(0, %d, 0, 10, 0)", land(FOUR), 0, 1, 3, 1, (x, v) -> x.luck(0, v, 0, 10, 0));
        bounds("luck(5, 0, 8, 8, %d)", land(SLOW), 0, 1, 1, 256, (x, v) -> x.luck(5, 0, 8, 8, v));
        fraction("luck(4, 0, 1, 0), 0 or more", 1, 1, land(SLOW), (x, v) -> x.luck(4, 0, 1, 0, v));
        fraction("luck(4, 0, 1, 1), just as many", 3, 5, land(SLOW), (x, v) -> x.luck(4, 0, 1, 1, v));
        fraction("luck(4, 0, 1, 2), one more", 0, 1, land(SLOW), (x, v) -> x.luck(4, 0, 1, 2, v));
        fraction("luck(7, 0, 8, 99), sure", 1, 1, land("deaf99 0;band0 9;"), (x, v) -> x.luck(7, 0, 8, 99, v));
    }

    private static void hailStops() {
        int[] blights = {0, 6, 7, 8, 9};
        int[] ears = {48, 42, 41, 41, 41};
        for (int i = 0; i < blights.length; i++) {
            int due = ears[i];
            Maker maker = land("plain50 " + blights[i] + ";");
            fraction("hail on BLIGHT " + blights[i], 1, 1, maker, (x, v) -> x.luck(10, 0, 1, due, v));
            fraction("hail on BLIGHT " + blights[i] + ", more", 0, 1, maker, (x, v) -> x.luck(10, 0, 1, due + 1, v));
            fraction("mean, hail on BLIGHT " + blights[i], due, 1, maker, (x, v) -> x.mean(10, 1, v));
        }
        // Each WEEK by itself: 2 more, a WEEK, 2 more.
        fraction("hail twice", 1, 1, land("plain50 0;"), (x, v) -> x.luck(10, 0, 2, 43, v));
        fraction("hail twice, more", 0, 1, land("plain50 0;"), (x, v) -> x.luck(10, 0, 2, 44, v));
        fraction("hail once of two", 3, 4, land("plain50 0;"), (x, v) -> x.luck(5, 0, 2, 45, v));
        fraction("hail on each FIELD", 96, 1, land("plain50 0;plain50 0;"), (x, v) -> x.mean(10, 1, v));
    }

    private static void luckBad() {
        refused("luck(5, 0, 0, 0, 0), no FIELDS", BAD, PraisedFields::new, x -> x.luck(5, 0, 0, 0, 0));
        refused("luck(11, 1, 9, 100, 2)", BAD, land(SLOW), x -> x.luck(11, 1, 9, 100, 2));
        refused("luck(least, most, least, most, least)", BAD, land(SLOW), x -> x.luck(LEAST, MOST, LEAST, MOST, LEAST));
    }

    private static void meanOf() {
        bounds("mean(%d, 8, 0)", land(SLOW), 0, 8, 10, 0, (x, v) -> x.mean(v, 8, 0));
        bounds("mean(0, %d, 0)", land(SLOW), 0, 0, 8, 8, (x, v) -> x.mean(0, v, 0));
        bounds("mean(5, 1, %d)", land(SLOW), 0, 1, 1, 2, (x, v) -> x.mean(5, 1, v));
        fraction("mean(1, 1)", 9, 10, land(SLOW), (x, v) -> x.mean(1, 1, v));
        fraction("mean(3, 1), two FIELDS", 494, 5, land("plain50 0;plain50 0;"), (x, v) -> x.mean(3, 1, v));
        fraction("mean(5, 0), the most", 594, 1, land(times(6, "deaf99 0;")), (x, v) -> x.mean(5, 0, v));
        fraction("mean(5, 8), no FIELDS", 0, 1, PraisedFields::new, (x, v) -> x.mean(5, 8, v));
        // Three FIELDS keep 99 EARS; the fourth has 1 if it never hails, as BLIGHT heals by 7: 7 to the 8th.
        String great = times(3, "deaf99 0;") + "plain0 7;band0 9;band1 9;band2 9;band3 1;";
        fraction("mean(3, 8), beyond an int", 29705764801L, 100000000, land(great), (x, v) -> x.mean(3, 8, v));
    }

    private static void meanBad() {
        refused("mean(11, 9, 2)", BAD, land(SLOW), x -> x.mean(11, 9, 2));
        refused("mean(5, 9, 0), no FIELDS", BAD, PraisedFields::new, x -> x.mean(5, 9, 0));
        refused("mean(least, most, least)", BAD, land(SLOW), x -> x.mean(LEAST, MOST, LEAST));
    }

    private static void goCalls() {
        promise(19);
        sentence("FIELDS for all BANDS so that ALL EARS are most behind 6 WEEKS, of several the first by its row "
            + "(as numbers): ALL EARS (what 0);", BestBoundaryTest::ordered);
        sentence("so that ALL EARS are most behind 6 WEEKS, of several the first by its row", BestBoundaryTest::orderedOnce);
        sentence("10 and b: AT which BAND b is to be (NONE: there is no such BAND).", BestBoundaryTest::orderOfABand);
        sentence("BAD (also b above 3);", BestBoundaryTest::orderBad);
        sentence("STATE: there are no FIELDS.", BestBoundaryTest::orderState);
        promise(20);
        sentence("A BAND that had better go to a FIELD now so that ALL EARS are most behind n WEEKS (0 to 60), more than "
            + "as it is: 10 times the BAND and the FIELD, of several the least (what 0), how many (1). BAD;",
            BestBoundaryTest::moved);
        sentence("NONE: by none.", BestBoundaryTest::movedByNone);
        promise(21);
        sentence("The BAND that had better be still (as if it were not) so that SHEAVES are most behind n WEEKS "
            + "(0 to 60), more than as it is, of several the first (what 0), how many (1). BAD;",
            BestBoundaryTest::stilled);
        sentence("NONE: none.", BestBoundaryTest::stillNone);
    }

    private static void bestCalls() {
        promise(22);
        sentence("How LOUD a BAND must be at least so that EARS of the FIELD AT which it is are v (0 to 99) or more "
            + "behind n WEEKS (0 to 60). BAD;", BestBoundaryTest::needed);
        sentence("NONE: by none.", BestBoundaryTest::neededByNone);
        promise(23);
        sentence("Two FIELDS that are to change BANDS (all AT the one go to the other) so that ALL EARS are most behind "
            + "n WEEKS (0 to 60), more than as it is: 10 times the lesser and the greater, of several the least "
            + "(what 0), how many (1). BAD;", BestBoundaryTest::swapped);
        sentence("NONE: by none.", BestBoundaryTest::swappedByNone);
        promise(24);
        sentence("The greatest BLIGHT of a FIELD (now) by which its EARS are v (0 to 99) or more behind n WEEKS "
            + "(0 to 60). BAD;", BestBoundaryTest::borne);
        sentence("NONE: by none.", BestBoundaryTest::borneByNone);
        promise(25);
        sentence("The KIND of a FIELD by which ALL EARS are most behind n WEEKS (0 to 60), of several the first "
            + "(what 0), how many (1).", BestBoundaryTest::bestKind);
        sentence("BAD.", BestBoundaryTest::kindBad);
    }

    private static void hailCalls() {
        promise(26);
        sentence("Ahead of each of n WEEKS (0 to 8) it hails by v out of ten (0 to 10), by itself",
            BestBoundaryTest::hails);
        sentence("(BLIGHT of each FIELD is 2 more then, 9 at most):", BestBoundaryTest::hailStops);
        sentence("that EARS of a FIELD are w (0 to 99) or more behind them: 0, 1.", BestBoundaryTest::earsOrMore);
        sentence("BAD.", BestBoundaryTest::luckBad);
        promise(27);
        sentence("Likewise, the mean of ALL EARS behind them: 0, 1.", BestBoundaryTest::meanOf);
        sentence("BAD.", BestBoundaryTest::meanBad);
    }

    public static void main(String[] args) {
        goCalls();
        bestCalls();
        hailCalls();
        allQuoted(19, 27);
        finish();
    }
}
