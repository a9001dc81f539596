/** The boundary cases of promises 28 to 33 (from ears, by a seed), each sentence with a test of its own. */
public final class SeenBoundaryTest extends Bench {
    /** A WEEK on: 13 EARS if plain, 16 if vain, 11 if shy, 10 if deaf. */
    private static final String APART = "plain10 2;plain7 0;band0 5;";

    private static Maker saw(String text, int... seen) {
        return () -> {
            PraisedFields x = told(text);
            for (int i = 0; i + 2 < seen.length; i += 3) {
                x.see(seen[i], seen[i + 1], seen[i + 2]);
            }
            return x;
        };
    }

    private static PraisedFields sixSeen() {
        return saw(SLOW, 0, 0, 0, 1, 0, 1, 2, 0, 2, 3, 0, 3, 4, 0, 4, 20, 0, 20).make();
    }

    // ---- 28, 29

    private static void seen() {
        bounds("see(%d, 0, 5)", land(APART), 0, 1, 20, 1, (x, v) -> x.see(v, 0, 5));
        bounds("see(1, %d, 5)", land(APART), 0, 1, 1, 1, (x, v) -> x.see(1, v, 5));
        bounds("see(1, %d, 5), six", land(times(6, "shy0 0;")), 0, 1, 5, 1, (x, v) -> x.see(1, v, 5));
        bounds("see(1, 0, %d)", land(APART), 0, 1, 99, 1, (x, v) -> x.see(1, 0, v));
        bounds("see(%d, 0, 5), the 6th", saw(APART, 0, 0, 0, 0, 0, 0, 0, 0, 0, 0, 0, 0, 0, 0, 0), 0, 6, 20, 6,
            (x, v) -> x.see(v, 0, 5));
        refused("see(0, 0, 0), no FIELDS", BAD, PraisedFields::new, x -> x.see(0, 0, 0));
        due("SEEN now", 0, saw("plain0 0;", 0, 0, 1).make().kinds(0));
        due("SEEN now, 0 EARS", 15, saw("plain0 0;", 0, 0, 0).make().kinds(0));
        due("SEEN behind 20 WEEKS, 99 EARS", 15, saw("plain99 0;band0 9;", 20, 0, 99).make().kinds(0));
        due("SEEN behind 20 WEEKS", 1, saw(SLOW, 20, 0, 20).make().kinds(0));
        due("SEEN behind 19 WEEKS", 0, saw(SLOW, 19, 0, 20).make().kinds(0));
        PraisedFields x = told(SLOW);
        due("see(1, 0, 1)", 1, x.see(1, 0, 1));
        due("see(1, 0, 1), the same again", 2, x.see(1, 0, 1));
        due("see(1, 0, 2), at odds", 3, x.see(1, 0, 2));
        due("EARS are not changed by it", 0, x.field(0, 1));
    }

    private static void seenFull() {
        PraisedFields x = told(SLOW);
        for (int n = 1; n <= 6; n++) {
            due("see, the " + n + "th", n, x.see(n, 0, n));
        }
        due("see, the 7th", FULL, x.see(7, 0, 7));
        due("count(0)", 6, x.count(0));
        refused("see(1, 0, 9), FULL", FULL, SeenBoundaryTest::sixSeen, y -> y.see(1, 0, 9));
        refused("see(21, 0, 9), BAD though FULL", BAD, SeenBoundaryTest::sixSeen, y -> y.see(21, 0, 9));
        refused("see(1, 1, 9), BAD though FULL", BAD, SeenBoundaryTest::sixSeen, y -> y.see(1, 1, 9));
        refused("see(1, 0, 100), BAD though FULL", BAD, SeenBoundaryTest::sixSeen, y -> y.see(1, 0, 100));
        x.forget(5);
        due("see, one forgotten", 6, x.see(7, 0, 7));
        due("kinds(0), all six hold", 1, x.kinds(0));
        x.forget(0);
        due("see, all forgotten", 1, x.see(7, 0, 7));
    }

    private static void forgot() {
        bounds("forget(%d) of 6", SeenBoundaryTest::sixSeen, 0, 6, 6, 6, (x, v) -> x.forget(v));
        bounds("forget(%d) of 1", saw(SLOW, 1, 0, 1), 0, 1, 1, 1, (x, v) -> x.forget(v));
        bounds("forget(%d) of none", land(SLOW), 0, 0, 0, 0, (x, v) -> x.forget(v));
        asked("forget(6) of 6", 6, SeenBoundaryTest::sixSeen, x -> x.forget(6));
        for (int n = 0; n <= 6; n++) {
            PraisedFields x = sixSeen();
            due("forget(" + n + ")", 6, x.forget(n));
            due("count(0)", n, x.count(0));
            due("see, one more", n == 6 ? FULL : n + 1, x.see(0, 0, 0));
        }
        PraisedFields x = saw(SLOW, 1, 0, 1, 1, 0, 9).make();
        due("kinds(0), at odds", 0, x.kinds(0));
        x.forget(1);
        due("kinds(0), the first stays", 1, x.kinds(0));
        x = saw(SLOW, 1, 0, 9, 1, 0, 1).make();
        x.forget(1);
        due("kinds(0), the first stays, not the last", 0, x.kinds(0));
    }

    private static void forgetBad() {
        for (int n : new int[] {-1, 3, 6, 7, LEAST, MOST}) {
            refused("forget(" + n + ") of 2", BAD, Bench::rich, x -> x.forget(n));
        }
    }

    // ---- 30, 31

    private static void kindsLeft() {
        int[] ears = {13, 16, 11, 10, 12, 0, 99};
        int[] bits = {1, 2, 4, 8, 0, 0, 0};
        for (int i = 0; i < ears.length; i++) {
            asked("kinds(0), " + ears[i] + " SEEN", bits[i], saw(APART, 1, 0, ears[i]), x -> x.kinds(0));
        }
        asked("kinds(0), nothing SEEN", 15, land(APART), x -> x.kinds(0));
        asked("kinds(1), nothing SEEN", 15, land(APART), x -> x.kinds(1));
        asked("kinds(0), of another FIELD, as it is", 15, saw(APART, 1, 1, 7), x -> x.kinds(0));
        asked("kinds(0), of another FIELD, not as it is", 0, saw(APART, 1, 1, 8), x -> x.kinds(0));
        asked("kinds(1), of another FIELD, as it is", 15, saw(APART, 1, 0, 13), x -> x.kinds(1));
        asked("kinds(1), of another FIELD, another KIND", 0, saw(APART, 1, 0, 16), x -> x.kinds(1));
        asked("kinds(1), of another FIELD, behind 2 WEEKS", 15, saw(APART, 2, 0, 17), x -> x.kinds(1));
        asked("kinds(0), both as SEEN", 1, saw(APART, 1, 0, 13, 1, 1, 7), x -> x.kinds(0));
        asked("kinds(0), BLIGHT as it is", 0, saw("plain50 1;", 1, 0, 50), x -> x.kinds(0));
        // Six of them, the last at odds.
        asked("kinds(0), six as SEEN", 1, SeenBoundaryTest::sixSeen, x -> x.kinds(0));
        asked("kinds(0), the sixth is not", 0,
            saw(SLOW, 0, 0, 0, 1, 0, 1, 2, 0, 2, 3, 0, 3, 4, 0, 4, 20, 0, 21), x -> x.kinds(0));
    }

    private static void kindsBad() {
        bounds("kinds(%d)", land(APART), 0, 15, 1, 15, (x, v) -> x.kinds(v));
        bounds("kinds(%d), six", land(times(6, "shy0 0;")), 0, 15, 5, 15, (x, v) -> x.kinds(v));
        refused("kinds(0), no FIELDS", BAD, PraisedFields::new, x -> x.kinds(0));
    }

    private static void blightsLeft() {
        for (int blight = 0; blight <= 9; blight++) {
            asked("blights(0), " + (50 - blight) + " SEEN", 1 << blight, saw("plain50 5;", 1, 0, 50 - blight),
                x -> x.blights(0));
        }
        asked("blights(0), 51 SEEN", 0, saw("plain50 5;", 1, 0, 51), x -> x.blights(0));
        asked("blights(0), 40 SEEN", 0, saw("plain50 5;", 1, 0, 40), x -> x.blights(0));
        asked("blights(0), nothing SEEN", 1023, land("plain50 5;"), x -> x.blights(0));
        asked("blights(0), SEEN now tells nothing", 1023, saw("plain50 5;", 0, 0, 50), x -> x.blights(0));
        asked("blights(0), SEEN now, at odds", 0, saw("plain50 5;", 0, 0, 49), x -> x.blights(0));
        asked("blights(0), of 5 EARS none are left", 992, saw("plain5 0;", 1, 0, 0), x -> x.blights(0));
        asked("blights(0), 99 EARS stay", 63, saw("plain99 9;band0 5;", 1, 0, 99), x -> x.blights(0));
        asked("blights(0), KIND as it is", 16, saw("vain50 0;", 1, 0, 42), x -> x.blights(0));
        asked("blights(1), of another FIELD, as it is", 1023, saw(APART, 1, 0, 13), x -> x.blights(1));
        asked("blights(1), of another FIELD, not as it is", 0, saw(APART, 1, 0, 14), x -> x.blights(1));
        asked("blights(0), behind 20 WEEKS", 512, saw(SLOW, 20, 0, 11), x -> x.blights(0));
    }

    private static void blightsBad() {
        bounds("blights(%d)", land(APART), 0, 1023, 1, 1023, (x, v) -> x.blights(v));
        bounds("blights(%d), six", land(times(6, "shy0 0;")), 0, 1023, 5, 1023, (x, v) -> x.blights(v));
        refused("blights(0), no FIELDS", BAD, PraisedFields::new, x -> x.blights(0));
    }

    // ---- 32

    private static void lookWhen() {
        bounds("ask(%d, 1)", land("plain50 0;plain3 5;"), 0, 1, 1, 7, (x, v) -> x.ask(v, 1));
        bounds("ask(0, %d)", land("plain3 5;"), 0, 1, 1, 7, (x, v) -> x.ask(0, v));
        asked("ask(0, 0), all lie apart behind 1", 1, land("plain50 0;"), x -> x.ask(0, 0));
        asked("ask(0, 1), all lie apart behind 1", 1, land("plain50 0;"), x -> x.ask(0, 1));
        // From no EARS each BLIGHT d heals in d WEEKS: EARS lie apart behind 9, the latest that there is.
        asked("ask(0, 0), all lie apart behind 9", 9, land(SLOW), x -> x.ask(0, 0));
        asked("ask(0, 1), all lie apart behind 9", 1, land(SLOW), x -> x.ask(0, 1));
        // SEEN leave 8 and 9 alone: these two lie apart behind 9, not before.
        asked("ask(0, 0), two are left", 9, saw(SLOW, 8, 0, 0), x -> x.ask(0, 0));
        asked("ask(0, 1), two are left", 1, saw(SLOW, 8, 0, 0), x -> x.ask(0, 1));
        // 99 stay for 0 to 5, 98 to 95 come of the others: six are left at the worst, now it is ten.
        asked("ask(0, 0), six at the worst", 1, land("plain99 0;band0 5;"), x -> x.ask(0, 0));
        asked("ask(0, 1), six at the worst", 6, land("plain99 0;band0 5;"), x -> x.ask(0, 1));
        asked("ask(0, 1), the BLIGHT that it has does not count", 6, land("plain99 7;band0 5;"), x -> x.ask(0, 1));
    }

    private static void lookNone() {
        for (int what = 0; what < 2; what++) {
            int which = what;
            asked("ask(0, " + what + "), never apart", NONE, land("deaf0 0;"), x -> x.ask(0, which));
            asked("ask(0, " + what + "), one is left", NONE, saw("plain50 5;", 1, 0, 45), x -> x.ask(0, which));
            asked("ask(0, " + what + "), none is left", NONE, saw("plain50 5;", 1, 0, 51), x -> x.ask(0, which));
            asked("ask(0, " + what + "), all alike that are left", NONE, saw("plain5 0;", 1, 0, 0),
                x -> x.ask(0, which));
            asked("ask(1, " + what + "), another FIELD is not as SEEN", NONE, saw(APART, 1, 0, 14),
                x -> x.ask(1, which));
        }
        refused("ask(0, 2), BAD though none", BAD, land("deaf0 0;"), x -> x.ask(0, 2));
        refused("ask(0, 0), no FIELDS", BAD, PraisedFields::new, x -> x.ask(0, 0));
    }

    // ---- 33

    private static final String PLAINS = "plain0 0;plain0 0;vain0 0;band1 3;band1 5;";
    private static final String ALL = "plain99 0;vain50 3;shy40 9;deaf30 0;plain20 1;vain10 2;"
        + "band0 9;band1 1;band2 5;band5 3;";

    private static void drifts(String text, int seed, int n, int ears, int sheaves) {
        asked("drift(" + seed + ", " + n + ", 0)", ears, land(text), x -> x.drift(seed, n, 0));
        asked("drift(" + seed + ", " + n + ", 1)", sheaves, land(text), x -> x.drift(seed, n, 1));
    }

    private static void bySeed() {
        // Of 2147483647 and of -1 comes a seed with bits 16 to 30 of 15929: BAND 1 to FIELD 2; bit 31 differs.
        drifts(PLAINS, MOST, 1, 13, 0);
        drifts(PLAINS, -1, 1, 13, 0);
        // Of 0 and of -2147483648 comes one with none: BAND 0 to FIELD 0.
        drifts(PLAINS, 0, 1, 8, 0);
        drifts(PLAINS, LEAST, 1, 8, 0);
        drifts(PLAINS, 1, 3, 28, 0);
        drifts(PLAINS, MOST, 3, 42, 0);
        drifts(PLAINS, MOST, 60, 114, 247);
        drifts(PLAINS, LEAST, 60, 167, 260);
        drifts(ALL, 0, 1, 242, 4);
        drifts(ALL, 1, 2, 248, 8);
        drifts(ALL, -1, 10, 190, 9);
        drifts(ALL, 12345678, 60, 299, 391);
        drifts(ALL, MOST, 60, 150, 292);
        drifts(SLOW, LEAST, 60, 60, 0);
    }

    private static void driftBad() {
        bounds("drift(5, %d, 0)", land(SLOW), 1, 1, 60, 60, (x, v) -> x.drift(5, v, 0));
        bounds("drift(0, 1, %d)", land(ALL), 0, 242, 1, 4, (x, v) -> x.drift(0, 1, v));
        refused("drift(5, 0, 0)", BAD, land(SLOW), x -> x.drift(5, 0, 0));
    }

    private static void driftState() {
        for (int what = 0; what < 2; what++) {
            int which = what;
            refused("drift(5, 1, " + what + "), FIELDS alone", STATE, land("shy5 5;"), x -> x.drift(5, 1, which));
            refused("drift(5, 60, " + what + "), nothing", STATE, PraisedFields::new, x -> x.drift(5, 60, which));
        }
        refused("drift(5, 0, 0), BAD though no BANDS", BAD, land("shy5 5;"), x -> x.drift(5, 0, 0));
        refused("drift(5, 61, 0), BAD though no BANDS", BAD, land("shy5 5;"), x -> x.drift(5, 61, 0));
        refused("drift(5, 1, 2), BAD though no BANDS", BAD, land("shy5 5;"), x -> x.drift(5, 1, 2));
        PraisedFields x = told(SLOW);
        x.leave(0);
        due("drift(5, 1, 0), they have left", STATE, x.drift(5, 1, 0));
        x.hire(0, 1);
        due("drift(5, 1, 0), one is back", 1, x.drift(5, 1, 0));
    }

    private static void seenCalls() {
        promise(28);
        sentence("SEEN: behind n WEEKS (0 to 20) EARS of a FIELD are v (0 to 99): how many are. BAD;",
            SeenBoundaryTest::seen);
        sentence("FULL.", SeenBoundaryTest::seenFull);
        promise(29);
        sentence("SEEN are the first n alone: how many there were.", SeenBoundaryTest::forgot);
        sentence("BAD.", SeenBoundaryTest::forgetBad);
        promise(30);
        sentence("KINDS of a FIELD (bits) by which, all else as it is, all is as SEEN.", SeenBoundaryTest::kindsLeft);
        sentence("BAD.", SeenBoundaryTest::kindsBad);
        promise(31);
        sentence("BLIGHTS that a FIELD may have now (bits 0 to 9), all else as it is, so that all is as SEEN.",
            SeenBoundaryTest::blightsLeft);
        sentence("BAD.", SeenBoundaryTest::blightsBad);
        promise(32);
        sentence("Behind how many WEEKS (0 to 20) to look how many EARS a FIELD has, so that of blights() of it fewest "
            + "are left at the worst, fewer than now, the first (what 0), how many these are (1). BAD;",
            SeenBoundaryTest::lookWhen);
        sentence("NONE: none.", SeenBoundaryTest::lookNone);
    }

    private static void seedCalls() {
        promise(33);
        sentence("ahead of each the seed becomes seed times 1103515245 and 12345; bits 16 to 30 of it are got: "
            + "BAND got modulo BANDS goes to FIELD got by 8 (down) modulo FIELDS ahead of it: "
            + "ALL EARS in the end (what 0), SHEAVES (1).", SeenBoundaryTest::bySeed);
        sentence("By itself, n WEEKS (1 to 60) by a seed:", SeenBoundaryTest::driftBad);
        sentence("BAD; STATE: there are no BANDS.", SeenBoundaryTest::driftState);
    }

    public static void main(String[] args) {
        seenCalls();
        seedCalls();
        allQuoted(28, 33);
        finish();
    }
}
