/** Fields that hear bands, week by week: the document's promises 1 to 40 (see README.md). */
public final class PraisedFields {
    public static final int BAD = -1, STATE = -2, FULL = -3, NONE = -4;

    private static final int MOST_FIELDS = 6, MOST_BANDS = 4, MOST_SEEN = 6;
    private static final int MOST_EARS = 99, MOST_BLIGHT = 9, MOST_LOUD = 9, MOST_GLUT = 99;
    private static final int MOST_SHEAVES = 999, FIRST_GLUT = 20, WEEK_LIMIT = 1000;
    private static final int PLAIN = 0, VAIN = 1, SHY = 2, DEAF = 3, KIND_COUNT = 4;
    private static final int WEEKS_RUN = 30, WEEKS_AHEAD = 60, WEEKS_ORDER = 6, WEEKS_HAIL = 8, WEEKS_SEEN = 20;
    private static final int GROWTH_SHIFT = 80;
    private static final int IMAGES = 2, SHEETS = 4, LANES = 3, MOST_CELLS = 40, MOST_READ = 20;
    private static final int NULL_FAULT = 1, INDEX_FAULT = 2, CAST_FAULT = 3, SIZE_FAULT = 4;

    private final Land land = new Land();
    private final Land trial = new Land();
    private final Land[] images = {new Land(), new Land()};
    private final boolean[] kept = new boolean[IMAGES];
    private final Tape tape = new Tape();
    private final Orders orders = new Orders();
    private final Hail hail = new Hail();
    private final Guesses guesses = new Guesses();
    private final Sheets sheets = new Sheets();
    private int tornFault = 0;

    public PraisedFields() {
    }

    // ---- the text

    public int feed(int c) {
        if (!within(c, 0, 127)) {
            return BAD;
        }
        return tape.append(c) ? tape.length : FULL;
    }

    public int end(int n) {
        if (!within(n, 0, tape.length)) {
            return BAD;
        }
        int had = tape.length;
        tape.length = n;
        return had;
    }

    public int text() {
        // What is told goes to the trial first: a FAULT must leave all as it was.
        int lines = tape.tellAll(trial);
        tape.length = 0;
        if (lines < 0) {
            return -10 - tape.faultPlace;
        }
        land.copyFrom(trial);
        for (int k = 0; k < IMAGES; k++) {
            kept[k] = false;
        }
        return lines;
    }

    public int fault() {
        return tape.fault;
    }

    public int rule(int what) {
        switch (what) {
            case 0: return land.fieldCount;
            case 1: return land.bandCount;
            case 2: return land.week;
            case 3: return land.sheaves;
            case 4: return land.allEars();
            case 5: return land.glutFrom;
            case 6: return land.hearingFields();
            default: return BAD;
        }
    }

    public int field(int f, int what) {
        if (!isField(f)) {
            return BAD;
        }
        int heard = land.heardAt(f);
        switch (what) {
            case 0: return land.kindOf[f];
            case 1: return land.ears[f];
            case 2: return land.blight[f];
            case 3: return heard;
            case 4: return GROWTH_SHIFT + growth(land.kindOf[f], heard - land.blight[f]);
            case 5: return heed(land.kindOf[f]);
            default: return BAD;
        }
    }

    public int band(int b, int what) {
        if (!isBand(b) || !within(what, 0, 1)) {
            return BAD;
        }
        return what == 0 ? land.at[b] : land.loud[b];
    }

    // ---- what is changed

    public int alter(int f, int what, int v) {
        if (!isField(f)) {
            return BAD;
        }
        switch (what) {
            case 0: return replace(land.kindOf, f, v, KIND_COUNT - 1);
            case 1: return replace(land.ears, f, v, MOST_EARS);
            case 2: return replace(land.blight, f, v, MOST_BLIGHT);
            default: return BAD;
        }
    }

    private static int replace(int[] row, int i, int v, int most) {
        if (!within(v, 0, most) || !within(i, 0, row.length - 1)) {
            return BAD;
        }
        int was = row[i];
        row[i] = v;
        return was;
    }

    public int march(int b, int f) {
        if (!isBand(b) || !isField(f)) {
            return BAD;
        }
        int was = land.at[b];
        land.at[b] = f;
        return was;
    }

    public int play(int b, int v) {
        if (!isBand(b) || !within(v, 1, MOST_LOUD)) {
            return BAD;
        }
        int was = land.loud[b];
        land.loud[b] = v;
        return was;
    }

    public int glut(int v) {
        if (!within(v, 1, MOST_GLUT)) {
            return BAD;
        }
        int was = land.glutFrom;
        land.glutFrom = v;
        return was;
    }

    public int hire(int f, int loud) {
        if (!isField(f) || !within(loud, 1, MOST_LOUD)) {
            return BAD;
        }
        return land.addBand(f, loud) ? land.bandCount : FULL;
    }

    public int leave(int n) {
        if (!within(n, 0, land.bandCount)) {
            return BAD;
        }
        int were = land.bandCount;
        land.bandCount = n;
        return were;
    }

    // ---- weeks

    public int weeks(int n) {
        if (!within(n, 0, WEEKS_RUN)) {
            return BAD;
        }
        if (land.week + n >= WEEK_LIMIT) {
            return FULL;
        }
        land.passWeeks(n);
        return land.allEars();
    }

    public int runs(int n, int what) {
        if (!within(n, 0, WEEKS_AHEAD) || !within(what, 0, 4)) {
            return BAD;
        }
        trial.copyFrom(land);
        int fines = trial.passWeeks(n);
        switch (what) {
            case 0: return trial.allEars();
            case 1: return trial.sheaves;
            case 2: return trial.allBlight();
            case 3: return fines;
            default: return trial.earlessFields();
        }
    }

    public int ahead(int f, int n, int what) {
        if (!isField(f) || !within(n, 0, WEEKS_AHEAD) || !within(what, 0, 1)) {
            return BAD;
        }
        if (what == 0) {
            return land.earsIf(f, land.heardAt(f), n);
        }
        return blightBehind(land.kindOf[f], land.blight[f], land.heardAt(f), n);
    }

    public int late(int f, int v) {
        if (!isField(f) || !within(v, 0, MOST_EARS)) {
            return BAD;
        }
        int heard = land.heardAt(f);
        int kind = land.kindOf[f];
        int ears = land.ears[f];
        int blight = land.blight[f];
        for (int n = 0; n <= WEEKS_AHEAD; n++) {
            if (ears >= v) {
                return n;
            }
            ears = earsNext(kind, ears, blight, heard);
            blight = blightNext(kind, blight, heard);
        }
        return NONE;
    }

    // ---- what is best

    public int order(int what) {
        int b = what - 10;
        if (what != 0 && !within(what, 10, 10 + MOST_BANDS - 1)) {
            return BAD;
        }
        if (land.fieldCount == 0) {
            return STATE;
        }
        if (what != 0 && !isBand(b)) {
            return NONE;
        }
        orders.findBest(land);
        return what == 0 ? orders.best : orders.bestRow[b];
    }

    public int move(int n, int what) {
        if (!within(n, 0, WEEKS_AHEAD) || !within(what, 0, 1)) {
            return BAD;
        }
        int most = 0;
        int best = NONE;
        for (int b = 0; b < land.bandCount; b++) {
            int from = land.at[b];
            int lost = land.gainBy(from, -land.loud[b], n);
            for (int f = 0; f < land.fieldCount; f++) {
                int gain = f == from ? 0 : lost + land.gainBy(f, land.loud[b], n);
                if (gain > most) {
                    most = gain;
                    best = 10 * b + f;
                }
            }
        }
        return best == NONE || what == 0 ? best : land.allEarsBehind(n) + most;
    }

    public int still(int n, int what) {
        if (!within(n, 0, WEEKS_AHEAD) || !within(what, 0, 1)) {
            return BAD;
        }
        int most = sheavesWithout(NONE, n);
        int best = NONE;
        for (int b = 0; b < land.bandCount; b++) {
            int sheaves = sheavesWithout(b, n);
            if (sheaves > most) {
                most = sheaves;
                best = b;
            }
        }
        return best == NONE || what == 0 ? best : most;
    }

    private int sheavesWithout(int b, int n) {
        trial.copyFrom(land);
        if (isBand(b)) {
            // A BAND that is not LOUD at all is HEARD as little as one that is not there.
            trial.loud[b] = 0;
        }
        trial.passWeeks(n);
        return trial.sheaves;
    }

    public int need(int b, int n, int v) {
        if (!isBand(b) || !within(n, 0, WEEKS_AHEAD) || !within(v, 0, MOST_EARS)) {
            return BAD;
        }
        int f = land.at[b];
        int others = land.heardAt(f) - land.loud[b];
        for (int loud = 1; loud <= MOST_LOUD; loud++) {
            if (land.earsIf(f, others + loud, n) >= v) {
                return loud;
            }
        }
        return NONE;
    }

    public int swap(int n, int what) {
        if (!within(n, 0, WEEKS_AHEAD) || !within(what, 0, 1)) {
            return BAD;
        }
        int most = 0;
        int best = NONE;
        for (int f = 0; f < land.fieldCount; f++) {
            for (int g = f + 1; g < land.fieldCount; g++) {
                int more = land.heardAt(g) - land.heardAt(f);
                int gain = land.gainBy(f, more, n) + land.gainBy(g, -more, n);
                if (gain > most) {
                    most = gain;
                    best = 10 * f + g;
                }
            }
        }
        return best == NONE || what == 0 ? best : land.allEarsBehind(n) + most;
    }

    public int bear(int f, int n, int v) {
        if (!isField(f) || !within(n, 0, WEEKS_AHEAD) || !within(v, 0, MOST_EARS)) {
            return BAD;
        }
        int heard = land.heardAt(f);
        for (int blight = MOST_BLIGHT; blight >= 0; blight--) {
            if (earsBehind(land.kindOf[f], land.ears[f], blight, heard, n) >= v) {
                return blight;
            }
        }
        return NONE;
    }

    public int kind(int f, int n, int what) {
        if (!isField(f) || !within(n, 0, WEEKS_AHEAD) || !within(what, 0, 1)) {
            return BAD;
        }
        int heard = land.heardAt(f);
        int most = -1;
        int best = PLAIN;
        for (int kind = 0; kind < KIND_COUNT; kind++) {
            int ears = earsBehind(kind, land.ears[f], land.blight[f], heard, n);
            if (ears > most) {
                most = ears;
                best = kind;
            }
        }
        return what == 0 ? best : land.allEarsBehind(n) - land.earsIf(f, heard, n) + most;
    }

    // ---- hail

    public long luck(int v, int f, int n, int w, int what) {
        if (!within(v, 0, 10) || !isField(f) || !within(n, 0, WEEKS_HAIL)
                || !within(w, 0, MOST_EARS) || !within(what, 0, 1)) {
            return BAD;
        }
        hail.fallOn(land, f, n, v);
        return lowestTerms(hail.weightOf(w), tenToThe(n), what);
    }

    public long mean(int v, int n, int what) {
        if (!within(v, 0, 10) || !within(n, 0, WEEKS_HAIL) || !within(what, 0, 1)) {
            return BAD;
        }
        // The mean of a sum is the sum of the means, so each FIELD may be hailed on apart.
        long sum = 0;
        for (int f = 0; f < land.fieldCount; f++) {
            hail.fallOn(land, f, n, v);
            sum += hail.weighedEars();
        }
        return lowestTerms(sum, tenToThe(n), what);
    }

    private static long tenToThe(int n) {
        long power = 1;
        for (int i = 0; i < n; i++) {
            power *= 10;
        }
        return power;
    }

    /** The numerator (what 0) or the denominator (what 1) of top by bottom. */
    private static long lowestTerms(long top, long bottom, int what) {
        long a = bottom;
        long b = top;
        for (int i = 0; i < 200 && b != 0; i++) {
            long rest = a % b;
            a = b;
            b = rest;
        }
        if (a == 0) {
            return 0;
        }
        return what == 0 ? top / a : bottom / a;
    }

    // ---- from ears

    public int see(int n, int f, int v) {
        if (!within(n, 0, WEEKS_SEEN) || !isField(f) || !within(v, 0, MOST_EARS)) {
            return BAD;
        }
        return land.addSeen(n, f, v) ? land.seenCount : FULL;
    }

    public int forget(int n) {
        if (!within(n, 0, land.seenCount)) {
            return BAD;
        }
        int were = land.seenCount;
        land.seenCount = n;
        return were;
    }

    public int kinds(int f) {
        if (!isField(f)) {
            return BAD;
        }
        int bits = 0;
        for (int kind = 0; kind < KIND_COUNT; kind++) {
            if (land.isAsSeen(f, kind, land.blight[f])) {
                bits |= 1 << kind;
            }
        }
        return bits;
    }

    public int blights(int f) {
        return isField(f) ? blightsAsSeen(f) : BAD;
    }

    private int blightsAsSeen(int f) {
        int bits = 0;
        for (int blight = 0; blight <= MOST_BLIGHT; blight++) {
            if (land.isAsSeen(f, land.kindOf[f], blight)) {
                bits |= 1 << blight;
            }
        }
        return bits;
    }

    public int ask(int f, int what) {
        if (!isField(f) || !within(what, 0, 1)) {
            return BAD;
        }
        guesses.begin(blightsAsSeen(f), land.ears[f]);
        int heard = land.heardAt(f);
        int fewest = guesses.size;
        int best = NONE;
        for (int n = 0; n <= WEEKS_SEEN; n++) {
            int left = guesses.largestGroup();
            if (left < fewest) {
                fewest = left;
                best = n;
            }
            guesses.passWeek(land.kindOf[f], heard);
        }
        return best == NONE || what == 0 ? best : fewest;
    }

    // ---- by a seed

    public int drift(int seed, int n, int what) {
        if (!within(n, 1, WEEKS_AHEAD) || !within(what, 0, 1)) {
            return BAD;
        }
        if (land.bandCount == 0 || land.fieldCount == 0) {
            return STATE;
        }
        trial.copyFrom(land);
        int state = seed;
        for (int i = 0; i < n; i++) {
            state = state * 1103515245 + 12345;
            int got = (state >>> 16) & 0x7fff;
            trial.at[got % land.bandCount] = (got / 8) % land.fieldCount;
            trial.passWeek();
        }
        return what == 0 ? trial.allEars() : trial.sheaves;
    }

    // ---- images, sheets

    public int keep(int k) {
        if (!within(k, 0, IMAGES - 1)) {
            return BAD;
        }
        int was = kept[k] ? 1 : 0;
        images[k].copyFrom(land);
        kept[k] = true;
        return was;
    }

    public int back(int k) {
        if (!within(k, 0, IMAGES - 1)) {
            return BAD;
        }
        if (!kept[k]) {
            return STATE;
        }
        land.copyFrom(images[k]);
        return land.week;
    }

    public int sheet(int k, int lane, int n) {
        if (!within(k, 0, SHEETS - 1) || !within(lane, 0, LANES - 1) || n > MOST_CELLS) {
            return BAD;
        }
        if (n < 0) {
            return -10 - SIZE_FAULT;
        }
        sheets.renew(k, lane, n);
        return 1;
    }

    public int lay(int k, int i, int v) {
        if (!within(k, 0, SHEETS - 1)) {
            return BAD;
        }
        int found = sheets.faultAt(k, sheets.laneOf[k], i);
        if (found != 0) {
            return -10 - found;
        }
        sheets.put(k, i, v);
        return 1;
    }

    public int read(int k, int lane, int f, int n) {
        if (!within(k, 0, SHEETS - 1) || !within(lane, 0, LANES - 1) || !within(n, 0, MOST_READ)) {
            return BAD;
        }
        int whole = 0;
        int found = 0;
        // All are looked at before one marches: a refusal must leave every BAND where it was.
        for (int i = 0; i < n && found == 0; i++) {
            found = sheets.pairFault(k, lane, f + 2 * i);
            if (found == 0) {
                if (!isBand(sheets.get(k, f + 2 * i)) || !isField(sheets.get(k, f + 2 * i + 1))) {
                    return -20 - i;
                }
                whole++;
            }
        }
        for (int i = 0; i < whole; i++) {
            march(sheets.get(k, f + 2 * i), sheets.get(k, f + 2 * i + 1));
        }
        tornFault = found;
        return whole;
    }

    public int torn() {
        return tornFault;
    }

    public int count(int what) {
        switch (what) {
            case 0: return land.seenCount;
            case 1: return (kept[0] ? 1 : 0) + (kept[1] ? 1 : 0);
            case 2: return tape.length;
            case 3: return sheets.size[0] < 0 ? NONE : sheets.size[0];
            case 4: return land.allBlight();
            case 5: return land.allLoud();
            default: return BAD;
        }
    }

    // ---- what all of them use

    private static boolean within(int v, int least, int most) {
        return v >= least && v <= most;
    }

    private boolean isField(int f) {
        return within(f, 0, land.fieldCount - 1);
    }

    private boolean isBand(int b) {
        return within(b, 0, land.bandCount - 1);
    }

    /** What a FIELD of a KIND GROWS by what is HEARD less BLIGHT. */
    private static int growth(int kind, int surplus) {
        switch (kind) {
            case VAIN: return 2 * surplus;
            case SHY: return surplus > 0 ? surplus / 2 : surplus;
            case DEAF: return surplus > 0 ? 0 : surplus;
            default: return surplus;
        }
    }

    private static int heed(int kind) {
        switch (kind) {
            case VAIN: return 2;
            case DEAF: return 0;
            default: return 1;
        }
    }

    private static int earsNext(int kind, int ears, int blight, int heard) {
        return Math.max(0, Math.min(MOST_EARS, ears + growth(kind, heard - blight)));
    }

    private static int blightNext(int kind, int blight, int heard) {
        return heard > 0 ? Math.max(0, blight - heed(kind)) : Math.min(MOST_BLIGHT, blight + 1);
    }

    /** EARS behind n WEEKS: no FIELD's EARS hang on another FIELD, so one is enough. */
    private static int earsBehind(int kind, int ears, int blight, int heard, int n) {
        int nowEars = ears;
        int nowBlight = blight;
        for (int i = 0; i < n; i++) {
            nowEars = earsNext(kind, nowEars, nowBlight, heard);
            nowBlight = blightNext(kind, nowBlight, heard);
        }
        return nowEars;
    }

    private static int blightBehind(int kind, int blight, int heard, int n) {
        int now = blight;
        for (int i = 0; i < n; i++) {
            now = blightNext(kind, now, heard);
        }
        return now;
    }

    /** FIELDS, BANDS, GLUT, SHEAVES, WEEK and what was SEEN: all that an IMAGE holds. */
    private static final class Land {
        final int[] kindOf = new int[MOST_FIELDS];
        final int[] ears = new int[MOST_FIELDS];
        final int[] blight = new int[MOST_FIELDS];
        final int[] at = new int[MOST_BANDS];
        final int[] loud = new int[MOST_BANDS];
        final int[] seenWeeks = new int[MOST_SEEN];
        final int[] seenField = new int[MOST_SEEN];
        final int[] seenEars = new int[MOST_SEEN];
        int fieldCount = 0;
        int bandCount = 0;
        int seenCount = 0;
        int glutFrom = FIRST_GLUT;
        int sheaves = 0;
        int week = 0;

        void clear() {
            fieldCount = 0;
            bandCount = 0;
            seenCount = 0;
            glutFrom = FIRST_GLUT;
            sheaves = 0;
            week = 0;
        }

        void copyFrom(Land other) {
            System.arraycopy(other.kindOf, 0, kindOf, 0, MOST_FIELDS);
            System.arraycopy(other.ears, 0, ears, 0, MOST_FIELDS);
            System.arraycopy(other.blight, 0, blight, 0, MOST_FIELDS);
            System.arraycopy(other.at, 0, at, 0, MOST_BANDS);
            System.arraycopy(other.loud, 0, loud, 0, MOST_BANDS);
            System.arraycopy(other.seenWeeks, 0, seenWeeks, 0, MOST_SEEN);
            System.arraycopy(other.seenField, 0, seenField, 0, MOST_SEEN);
            System.arraycopy(other.seenEars, 0, seenEars, 0, MOST_SEEN);
            fieldCount = other.fieldCount;
            bandCount = other.bandCount;
            seenCount = other.seenCount;
            glutFrom = other.glutFrom;
            sheaves = other.sheaves;
            week = other.week;
        }

        boolean addField(int kind, int withEars, int withBlight) {
            if (fieldCount >= MOST_FIELDS) {
                return false;
            }
            kindOf[fieldCount] = kind;
            ears[fieldCount] = withEars;
            blight[fieldCount] = withBlight;
            fieldCount++;
            return true;
        }

        boolean addBand(int f, int howLoud) {
            if (bandCount >= MOST_BANDS) {
                return false;
            }
            at[bandCount] = f;
            loud[bandCount] = howLoud;
            bandCount++;
            return true;
        }

        boolean addSeen(int n, int f, int v) {
            if (seenCount >= MOST_SEEN) {
                return false;
            }
            seenWeeks[seenCount] = n;
            seenField[seenCount] = f;
            seenEars[seenCount] = v;
            seenCount++;
            return true;
        }

        int heardAt(int f) {
            int sum = 0;
            for (int b = 0; b < bandCount; b++) {
                if (at[b] == f) {
                    sum += loud[b];
                }
            }
            return sum;
        }

        int hearingFields() {
            int bits = 0;
            for (int b = 0; b < bandCount; b++) {
                bits |= 1 << at[b];
            }
            return bits;
        }

        int earlessFields() {
            int bits = 0;
            for (int f = 0; f < fieldCount; f++) {
                if (ears[f] == 0) {
                    bits |= 1 << f;
                }
            }
            return bits;
        }

        int allEars() {
            return sumOf(ears, fieldCount);
        }

        int allBlight() {
            return sumOf(blight, fieldCount);
        }

        int allLoud() {
            return sumOf(loud, bandCount);
        }

        private static int sumOf(int[] row, int size) {
            int sum = 0;
            for (int i = 0; i < size && i < row.length; i++) {
                sum += row[i];
            }
            return sum;
        }

        /** One WEEK: how many fines there were in it. */
        int passWeek() {
            int fines = 0;
            for (int f = 0; f < fieldCount; f++) {
                int heard = heardAt(f);
                ears[f] = earsNext(kindOf[f], ears[f], blight[f], heard);
                blight[f] = blightNext(kindOf[f], blight[f], heard);
                if (heard == 0) {
                    sheaves = Math.min(MOST_SHEAVES, sheaves + ears[f] / 10);
                } else if (ears[f] >= glutFrom) {
                    fines++;
                    sheaves = Math.max(0, sheaves - 1);
                }
            }
            week++;
            return fines;
        }

        int passWeeks(int n) {
            int fines = 0;
            for (int i = 0; i < n; i++) {
                fines += passWeek();
            }
            return fines;
        }

        int earsIf(int f, int heard, int n) {
            return earsBehind(kindOf[f], ears[f], blight[f], heard, n);
        }

        /** By how much EARS behind n WEEKS are more if more is HEARD at a FIELD. */
        int gainBy(int f, int more, int n) {
            if (more == 0) {
                return 0;
            }
            int heard = heardAt(f);
            return earsIf(f, heard + more, n) - earsIf(f, heard, n);
        }

        int allEarsBehind(int n) {
            int sum = 0;
            for (int f = 0; f < fieldCount; f++) {
                sum += earsIf(f, heardAt(f), n);
            }
            return sum;
        }

        /** Whether all is as SEEN if FIELD f were of that KIND, with that BLIGHT. */
        boolean isAsSeen(int f, int kind, int withBlight) {
            for (int i = 0; i < seenCount; i++) {
                int g = seenField[i];
                int heard = heardAt(g);
                int n = seenWeeks[i];
                int got = g == f ? earsBehind(kind, ears[g], withBlight, heard, n) : earsIf(g, heard, n);
                if (got != seenEars[i]) {
                    return false;
                }
            }
            return true;
        }
    }

    /** THE TAPE and the reading of it. */
    private static final class Tape {
        private static final int ROOM = 160, MOST_FIGURES = 2;
        private static final int END = 0, NAME = 1, NUMBER = 2, SEMICOLON = 3, NO_TOKEN = 4;
        // The lines of FIELDS have the numbers of their KINDS.
        private static final int BAND_LINE = 4, GLUT_LINE = 5, NO_LINE = 6;
        private static final int WRONG_TOKEN = 1, WRONG_PLACE = 2, OUT_OF_BOUNDS = 3;
        private static final int SECOND_GLUT = 4, ONE_TOO_MANY = 5, NO_SUCH_FIELD = 6;

        final byte[] bytes = new byte[ROOM];
        int length = 0;
        int fault = 0;
        int faultPlace = 0;
        private int place = 0;
        private int token = END;
        private int start = 0;
        private int value = 0;
        private boolean glutTold = false;

        boolean append(int c) {
            if (length >= ROOM) {
                return false;
            }
            bytes[length] = (byte) c;
            length++;
            return true;
        }

        /** How many lines were told to the draft; below 0 if there is a FAULT. */
        int tellAll(Land draft) {
            draft.clear();
            fault = 0;
            faultPlace = 0;
            place = 0;
            glutTold = false;
            nextToken();
            int lines = 0;
            while (lines <= ROOM && token != END) {
                if (!takeLine(draft)) {
                    return -1;
                }
                lines++;
                nextToken();
            }
            for (int b = 0; b < draft.bandCount; b++) {
                if (draft.at[b] >= draft.fieldCount) {
                    refuse(NO_SUCH_FIELD, length);
                    return -1;
                }
            }
            return lines;
        }

        private boolean refuse(int which, int where) {
            fault = which;
            faultPlace = where;
            return false;
        }

        private boolean takeLine(Land draft) {
            if (!isToken(NAME)) {
                return false;
            }
            int line = lineBegun();
            switch (line) {
                case NO_LINE: return refuse(WRONG_PLACE, start);
                case GLUT_LINE: return takeGlut(draft);
                case BAND_LINE: return takeBand(draft);
                default: return takeField(draft, line);
            }
        }

        private boolean takeField(Land draft, int kind) {
            if (draft.fieldCount >= MOST_FIELDS) {
                return refuse(ONE_TOO_MANY, start);
            }
            if (!takeNumber(0, MOST_EARS)) {
                return false;
            }
            int ears = value;
            if (!takeNumber(0, MOST_BLIGHT)) {
                return false;
            }
            return takeSemicolon() && draft.addField(kind, ears, value);
        }

        private boolean takeBand(Land draft) {
            if (draft.bandCount >= MOST_BANDS) {
                return refuse(ONE_TOO_MANY, start);
            }
            if (!takeNumber(0, MOST_FIELDS - 1)) {
                return false;
            }
            int at = value;
            if (!takeNumber(1, MOST_LOUD)) {
                return false;
            }
            return takeSemicolon() && draft.addBand(at, value);
        }

        private boolean takeGlut(Land draft) {
            if (glutTold) {
                return refuse(SECOND_GLUT, start);
            }
            if (!takeNumber(1, MOST_GLUT)) {
                return false;
            }
            glutTold = true;
            draft.glutFrom = value;
            return takeSemicolon();
        }

        private boolean takeNumber(int least, int most) {
            nextToken();
            if (!isToken(NUMBER)) {
                return false;
            }
            return within(value, least, most) || refuse(OUT_OF_BOUNDS, start);
        }

        private boolean takeSemicolon() {
            nextToken();
            return isToken(SEMICOLON);
        }

        /** Whether the TOKEN just read is one that can stand here; if not, its FAULT is told. */
        private boolean isToken(int due) {
            if (token == NO_TOKEN) {
                return refuse(WRONG_TOKEN, start);
            }
            return token == due || refuse(WRONG_PLACE, start);
        }

        private void nextToken() {
            while (place < length && bytes[place] == ' ') {
                place++;
            }
            start = place;
            if (place >= length) {
                token = END;
                return;
            }
            int letters = stretch('a', 'z');
            int figures = stretch('0', '9');
            if (letters > 0) {
                token = NAME;
            } else if (figures > 0) {
                readNumber(figures);
            } else {
                token = bytes[place] == ';' ? SEMICOLON : NO_TOKEN;
            }
            place += Math.max(1, letters + figures);
        }

        /** How many bytes from the place on lie between the two. */
        private int stretch(int first, int last) {
            int n = 0;
            while (place + n < length && bytes[place + n] >= first && bytes[place + n] <= last) {
                n++;
            }
            return n;
        }

        private void readNumber(int figures) {
            token = figures <= MOST_FIGURES ? NUMBER : NO_TOKEN;
            value = 0;
            for (int i = 0; i < figures && i < MOST_FIGURES; i++) {
                value = value * 10 + (bytes[start + i] - '0');
            }
        }

        private int lineBegun() {
            if (isNamed("plain")) {
                return PLAIN;
            }
            if (isNamed("vain")) {
                return VAIN;
            }
            if (isNamed("shy")) {
                return SHY;
            }
            if (isNamed("deaf")) {
                return DEAF;
            }
            if (isNamed("band")) {
                return BAND_LINE;
            }
            return isNamed("glut") ? GLUT_LINE : NO_LINE;
        }

        private boolean isNamed(String name) {
            if (place - start != name.length()) {
                return false;
            }
            for (int i = 0; i < name.length(); i++) {
                if (bytes[start + i] != name.charAt(i)) {
                    return false;
                }
            }
            return true;
        }
    }

    /** Every row of FIELDS for the BANDS, tried from the first on. */
    private static final class Orders {
        private static final int SETS = 1 << MOST_BANDS;

        // EARS of FIELD f with the set s (bits) of BANDS AT it: at f * SETS + s.
        private final int[] earsBy = new int[MOST_FIELDS * SETS];
        private final int[] setAt = new int[MOST_FIELDS];
        private final int[] row = new int[MOST_BANDS];
        final int[] bestRow = new int[MOST_BANDS];
        private int total = 0;
        int best = 0;

        void findBest(Land land) {
            weigh(land);
            beginRows(land);
            int rows = 1;
            for (int b = 0; b < land.bandCount; b++) {
                rows *= land.fieldCount;
            }
            best = -1;
            for (int i = 0; i < rows; i++) {
                if (total > best) {
                    best = total;
                    System.arraycopy(row, 0, bestRow, 0, MOST_BANDS);
                }
                nextRow(land);
            }
        }

        private void weigh(Land land) {
            for (int set = 0; set < 1 << land.bandCount; set++) {
                int heard = 0;
                for (int b = 0; b < land.bandCount; b++) {
                    heard += (set >> b & 1) * land.loud[b];
                }
                for (int f = 0; f < land.fieldCount; f++) {
                    earsBy[f * SETS + set] = land.earsIf(f, heard, WEEKS_ORDER);
                }
            }
        }

        private void beginRows(Land land) {
            for (int b = 0; b < MOST_BANDS; b++) {
                row[b] = 0;
            }
            total = 0;
            for (int f = 0; f < land.fieldCount; f++) {
                setAt[f] = f == 0 ? (1 << land.bandCount) - 1 : 0;
                total += earsBy[f * SETS + setAt[f]];
            }
        }

        private void nextRow(Land land) {
            for (int b = land.bandCount - 1; b >= 0; b--) {
                if (row[b] < land.fieldCount - 1) {
                    place(b, row[b] + 1);
                    return;
                }
                place(b, 0);
            }
        }

        private void place(int b, int f) {
            toggle(b, row[b]);
            toggle(b, f);
            row[b] = f;
        }

        private void toggle(int b, int f) {
            total -= earsBy[f * SETS + setAt[f]];
            setAt[f] ^= 1 << b;
            total += earsBy[f * SETS + setAt[f]];
        }
    }

    /** All the ways in which it may hail on one FIELD, each with its weight. */
    private static final class Hail {
        private static final int WAYS = 1 << WEEKS_HAIL;

        private final int[] ears = new int[WAYS];
        private final int[] blight = new int[WAYS];
        private final long[] weight = new long[WAYS];
        private int ways = 0;

        void fallOn(Land land, int f, int n, int v) {
            int heard = land.heardAt(f);
            ears[0] = land.ears[f];
            blight[0] = land.blight[f];
            weight[0] = 1;
            ways = 1;
            for (int i = 0; i < n && 2 * ways <= WAYS; i++) {
                part(v);
                passWeek(land.kindOf[f], heard);
            }
        }

        /** Each way becomes two: as it is, and with hail. */
        private void part(int v) {
            for (int i = 0; i < ways; i++) {
                ears[ways + i] = ears[i];
                blight[ways + i] = Math.min(MOST_BLIGHT, blight[i] + 2);
                weight[ways + i] = weight[i] * v;
                weight[i] *= 10 - v;
            }
            ways *= 2;
        }

        private void passWeek(int kind, int heard) {
            for (int i = 0; i < ways; i++) {
                ears[i] = earsNext(kind, ears[i], blight[i], heard);
                blight[i] = blightNext(kind, blight[i], heard);
            }
        }

        long weightOf(int leastEars) {
            long sum = 0;
            for (int i = 0; i < ways; i++) {
                if (ears[i] >= leastEars) {
                    sum += weight[i];
                }
            }
            return sum;
        }

        long weighedEars() {
            long sum = 0;
            for (int i = 0; i < ways; i++) {
                sum += weight[i] * ears[i];
            }
            return sum;
        }
    }

    /** One FIELD with each BLIGHT that it may have, side by side. */
    private static final class Guesses {
        private final int[] ears = new int[MOST_BLIGHT + 1];
        private final int[] blight = new int[MOST_BLIGHT + 1];
        int size = 0;

        void begin(int blightBits, int withEars) {
            size = 0;
            for (int d = 0; d <= MOST_BLIGHT; d++) {
                if ((blightBits >> d & 1) != 0) {
                    ears[size] = withEars;
                    blight[size] = d;
                    size++;
                }
            }
        }

        void passWeek(int kind, int heard) {
            for (int i = 0; i < size; i++) {
                ears[i] = earsNext(kind, ears[i], blight[i], heard);
                blight[i] = blightNext(kind, blight[i], heard);
            }
        }

        /** How many are left, at the worst, once EARS are looked at. */
        int largestGroup() {
            int largest = 0;
            for (int i = 0; i < size; i++) {
                int alike = 0;
                for (int j = 0; j < size; j++) {
                    if (ears[j] == ears[i]) {
                        alike++;
                    }
                }
                largest = Math.max(largest, alike);
            }
            return largest;
        }
    }

    /** SHEETS: each with a lane and CELLS, or nothing (a size below 0). */
    private static final class Sheets {
        private static final int BYTES = 0, SHORTS = 1;

        private final int[] cells = new int[SHEETS * MOST_CELLS];
        final int[] laneOf = new int[SHEETS];
        final int[] size = {-1, -1, -1, -1};

        void renew(int k, int lane, int n) {
            laneOf[k] = lane;
            size[k] = n;
            for (int i = 0; i < n; i++) {
                cells[k * MOST_CELLS + i] = 0;
            }
        }

        /** The FAULT that the machine would find at a CELL of a SHEET taken as of a lane; 0. */
        int faultAt(int k, int lane, int i) {
            if (size[k] < 0) {
                return NULL_FAULT;
            }
            if (laneOf[k] != lane) {
                return CAST_FAULT;
            }
            return within(i, 0, size[k] - 1) ? 0 : INDEX_FAULT;
        }

        int pairFault(int k, int lane, int i) {
            int first = faultAt(k, lane, i);
            return first != 0 ? first : faultAt(k, lane, i + 1);
        }

        void put(int k, int i, int v) {
            cells[k * MOST_CELLS + i] = lowestBits(laneOf[k], v);
        }

        int get(int k, int i) {
            return cells[k * MOST_CELLS + i];
        }

        private static int lowestBits(int lane, int v) {
            switch (lane) {
                case BYTES: return (byte) v;
                case SHORTS: return (short) v;
                default: return v;
            }
        }
    }
}
