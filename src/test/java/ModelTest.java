import java.math.BigInteger;
import java.util.ArrayList;
import java.util.Arrays;
import java.util.List;
import java.util.Random;

/**
 * Long runs of calls by fixed seeds, each answer against a slow model that follows the document's
 * words: it copies the whole land for every question and lets the machine itself find FAULTS.
 */
public final class ModelTest {
    private static final int BAD = -1, STATE = -2, FULL = -3, NONE = -4;
    private static final int RUNS = 3000, CALLS = 512;

    /** KINDS as the document tells them: each by the one that it is like. */
    private static class Plain {
        int grows(int surplus) { return surplus; }
        int heeds() { return 1; }
    }

    private static final class Vain extends Plain {
        @Override int grows(int surplus) { return 2 * super.grows(surplus); }
        @Override int heeds() { return super.heeds() + 1; }
    }

    private static class Shy extends Plain {
        @Override int grows(int surplus) {
            int much = super.grows(surplus);
            return much > 0 ? Math.floorDiv(much, 2) : much;
        }
    }

    private static final class Deaf extends Shy {
        @Override int grows(int surplus) {
            int much = super.grows(surplus);
            return much > 0 ? 0 : much;
        }
        @Override int heeds() { return super.heeds() - 1; }
    }

    private static final Plain[] KINDS = {new Plain(), new Vain(), new Shy(), new Deaf()};
    private static final List<String> KIND_NAMES = List.of("plain", "vain", "shy", "deaf");

    private static final class World {
        List<int[]> fields = new ArrayList<>(); // kind, ears, blight
        List<int[]> bands = new ArrayList<>();  // at, loud
        List<int[]> seen = new ArrayList<>();   // weeks, field, ears
        int glut = 20, sheaves = 0, week = 0, fines = 0;

        World copy() {
            World w = new World();
            for (int[] f : fields) w.fields.add(f.clone());
            for (int[] b : bands) w.bands.add(b.clone());
            for (int[] s : seen) w.seen.add(s.clone());
            w.glut = glut;
            w.sheaves = sheaves;
            w.week = week;
            return w;
        }

        int heard(int f) { return bands.stream().filter(b -> b[0] == f).mapToInt(b -> b[1]).sum(); }
        int grows(int f) { return KINDS[fields.get(f)[0]].grows(heard(f) - fields.get(f)[2]); }
        int sum(int which) { return fields.stream().mapToInt(f -> f[which]).sum(); }

        World run(int n) {
            for (int i = 0; i < n; i++) {
                for (int f = 0; f < fields.size(); f++) step(f);
                week++;
            }
            return this;
        }

        void step(int f) {
            int[] it = fields.get(f);
            it[1] += grows(f);
            if (it[1] < 0) it[1] = 0;
            if (it[1] > 99) it[1] = 99;
            if (heard(f) > 0) {
                it[2] -= KINDS[it[0]].heeds();
                if (it[2] < 0) it[2] = 0;
                if (it[1] >= glut) {
                    fines++;
                    if (sheaves > 0) sheaves--;
                }
            } else {
                if (it[2] < 9) it[2]++;
                sheaves += it[1] / 10;
                if (sheaves > 999) sheaves = 999;
            }
        }

        boolean asSeen() {
            for (int[] s : seen) if (copy().run(s[0]).fields.get(s[1])[1] != s[2]) return false;
            return true;
        }
    }

    private static final class Fault extends Exception {
        private static final long serialVersionUID = 1L;
        final int which, place;
        Fault(int which, int place) { this.which = which; this.place = place; }
    }

    /** Reads a text by going over it once, one TOKEN ahead of what is taken. */
    private static final class Reader {
        final String text;
        int at = 0;
        Reader(String text) { this.text = text; }

        int skip() {
            while (at < text.length() && text.charAt(at) == ' ') at++;
            return at;
        }

        String next() throws Fault {
            int from = skip();
            if (from == text.length()) return "";
            String rest = text.substring(from);
            String token = rest.replaceFirst("(?s)^([a-z]+|[0-9]+|;).*", "$1");
            if (!token.matches("[a-z]+|[0-9]{1,2}|;")) throw new Fault(1, from);
            at = from + token.length();
            return token;
        }

        int number(int least, int most) throws Fault {
            int from = skip();
            String token = next();
            if (token.isEmpty() || !Character.isDigit(token.charAt(0))) throw new Fault(2, from);
            int v = Integer.parseInt(token);
            if (v < least || v > most) throw new Fault(3, from);
            return v;
        }

        void semicolon() throws Fault {
            int from = skip();
            if (!next().equals(";")) throw new Fault(2, from);
        }

        int lines(World w) throws Fault {
            int lines = 0;
            boolean glut = false;
            while (true) {
                int from = skip();
                String name = next();
                if (name.isEmpty()) break;
                int kind = KIND_NAMES.indexOf(name);
                if (kind >= 0) {
                    if (w.fields.size() == 6) throw new Fault(5, from);
                    w.fields.add(new int[] {kind, number(0, 99), number(0, 9)});
                } else if (name.equals("band")) {
                    if (w.bands.size() == 4) throw new Fault(5, from);
                    w.bands.add(new int[] {number(0, 5), number(1, 9)});
                } else if (name.equals("glut")) {
                    if (glut) throw new Fault(4, from);
                    glut = true;
                    w.glut = number(1, 99);
                } else throw new Fault(2, from);
                semicolon();
                lines++;
            }
            for (int[] b : w.bands) if (b[0] >= w.fields.size()) throw new Fault(6, text.length());
            return lines;
        }
    }

    private static final class Model {
        World w = new World();
        final World[] images = new World[2];
        final Object[] sheets = new Object[4];
        StringBuilder tape = new StringBuilder();
        int fault = 0, torn = 0;

        static boolean in(int v, int least, int most) { return least <= v && v <= most; }
        boolean isField(int f) { return in(f, 0, w.fields.size() - 1); }
        boolean isBand(int b) { return in(b, 0, w.bands.size() - 1); }

        int feed(int c) {
            if (!in(c, 0, 127)) return BAD;
            if (tape.length() == 160) return FULL;
            tape.append((char) c);
            return tape.length();
        }

        int end(int n) {
            int had = tape.length();
            if (!in(n, 0, had)) return BAD;
            tape.setLength(n);
            return had;
        }

        int text() {
            String all = tape.toString();
            tape = new StringBuilder();
            World told = new World();
            try {
                int lines = new Reader(all).lines(told);
                w = told;
                Arrays.fill(images, null);
                fault = 0;
                return lines;
            } catch (Fault e) {
                fault = e.which;
                return -10 - e.place;
            }
        }

        int rule(int what) {
            int bits = 0;
            for (int f = 0; f < w.fields.size(); f++) if (w.heard(f) > 0) bits |= 1 << f;
            int[] all = {w.fields.size(), w.bands.size(), w.week, w.sheaves, w.sum(1), w.glut, bits};
            return in(what, 0, 6) ? all[what] : BAD;
        }

        int field(int f, int what) {
            if (!isField(f) || !in(what, 0, 5)) return BAD;
            int[] it = w.fields.get(f);
            return new int[] {it[0], it[1], it[2], w.heard(f), 80 + w.grows(f), KINDS[it[0]].heeds()}[what];
        }

        int band(int b, int what) { return isBand(b) && in(what, 0, 1) ? w.bands.get(b)[what] : BAD; }

        int alter(int f, int what, int v) {
            if (!isField(f) || !in(what, 0, 2) || !in(v, 0, new int[] {3, 99, 9}[what])) return BAD;
            int was = w.fields.get(f)[what];
            w.fields.get(f)[what] = v;
            return was;
        }

        int march(int b, int f) {
            if (!isBand(b) || !isField(f)) return BAD;
            int was = w.bands.get(b)[0];
            w.bands.get(b)[0] = f;
            return was;
        }

        int play(int b, int v) {
            if (!isBand(b) || !in(v, 1, 9)) return BAD;
            int was = w.bands.get(b)[1];
            w.bands.get(b)[1] = v;
            return was;
        }

        int glut(int v) {
            if (!in(v, 1, 99)) return BAD;
            int was = w.glut;
            w.glut = v;
            return was;
        }

        int hire(int f, int loud) {
            if (!isField(f) || !in(loud, 1, 9)) return BAD;
            if (w.bands.size() == 4) return FULL;
            w.bands.add(new int[] {f, loud});
            return w.bands.size();
        }

        static int cut(List<int[]> list, int n) {
            int were = list.size();
            if (!in(n, 0, were)) return BAD;
            while (list.size() > n) list.remove(list.size() - 1);
            return were;
        }

        int weeks(int n) {
            if (!in(n, 0, 30)) return BAD;
            if (w.week + n >= 1000) return FULL;
            return w.run(n).sum(1);
        }

        int runs(int n, int what) {
            if (!in(n, 0, 60) || !in(what, 0, 4)) return BAD;
            World then = w.copy().run(n);
            int bits = 0;
            for (int f = 0; f < then.fields.size(); f++) if (then.fields.get(f)[1] == 0) bits |= 1 << f;
            return new int[] {then.sum(1), then.sheaves, then.sum(2), then.fines, bits}[what];
        }

        int ahead(int f, int n, int what) {
            if (!isField(f) || !in(n, 0, 60) || !in(what, 0, 1)) return BAD;
            return w.copy().run(n).fields.get(f)[1 + what];
        }

        int late(int f, int v) {
            if (!isField(f) || !in(v, 0, 99)) return BAD;
            for (int n = 0; n <= 60; n++) if (w.copy().run(n).fields.get(f)[1] >= v) return n;
            return NONE;
        }

        int order(int what) {
            if (what != 0 && !in(what, 10, 13)) return BAD;
            if (w.fields.isEmpty()) return STATE;
            if (what != 0 && !isBand(what - 10)) return NONE;
            int[] best = {-1, 0, 0, 0, 0};
            tryRows(w.copy(), 0, best);
            return what == 0 ? best[0] : best[what - 9];
        }

        void tryRows(World row, int b, int[] best) {
            if (b == row.bands.size()) {
                int ears = row.copy().run(6).sum(1);
                if (ears > best[0]) {
                    best[0] = ears;
                    for (int i = 0; i < b; i++) best[1 + i] = row.bands.get(i)[0];
                }
                return;
            }
            for (int f = 0; f < row.fields.size(); f++) {
                row.bands.get(b)[0] = f;
                tryRows(row, b + 1, best);
            }
        }

        int move(int n, int what) {
            if (!in(n, 0, 60) || !in(what, 0, 1)) return BAD;
            int most = w.copy().run(n).sum(1), best = NONE;
            for (int b = 0; b < w.bands.size(); b++) {
                for (int f = 0; f < w.fields.size(); f++) {
                    World c = w.copy();
                    c.bands.get(b)[0] = f;
                    int ears = c.run(n).sum(1);
                    if (ears > most) { most = ears; best = 10 * b + f; }
                }
            }
            return best == NONE || what == 0 ? best : most;
        }

        int still(int n, int what) {
            if (!in(n, 0, 60) || !in(what, 0, 1)) return BAD;
            int most = w.copy().run(n).sheaves, best = NONE;
            for (int b = 0; b < w.bands.size(); b++) {
                World c = w.copy();
                c.bands.remove(b);
                int sheaves = c.run(n).sheaves;
                if (sheaves > most) { most = sheaves; best = b; }
            }
            return best == NONE || what == 0 ? best : most;
        }

        int need(int b, int n, int v) {
            if (!isBand(b) || !in(n, 0, 60) || !in(v, 0, 99)) return BAD;
            for (int loud = 1; loud <= 9; loud++) {
                World c = w.copy();
                c.bands.get(b)[1] = loud;
                if (c.run(n).fields.get(w.bands.get(b)[0])[1] >= v) return loud;
            }
            return NONE;
        }

        int swap(int n, int what) {
            if (!in(n, 0, 60) || !in(what, 0, 1)) return BAD;
            int most = w.copy().run(n).sum(1), best = NONE;
            for (int f = 0; f < w.fields.size(); f++) {
                for (int g = f + 1; g < w.fields.size(); g++) {
                    World c = w.copy();
                    for (int[] b : c.bands) b[0] = b[0] == f ? g : b[0] == g ? f : b[0];
                    int ears = c.run(n).sum(1);
                    if (ears > most) { most = ears; best = 10 * f + g; }
                }
            }
            return best == NONE || what == 0 ? best : most;
        }

        int bear(int f, int n, int v) {
            if (!isField(f) || !in(n, 0, 60) || !in(v, 0, 99)) return BAD;
            int most = NONE;
            for (int d = 0; d <= 9; d++) if (with(f, 2, d).run(n).fields.get(f)[1] >= v) most = d;
            return most;
        }

        World with(int f, int what, int v) {
            World c = w.copy();
            c.fields.get(f)[what] = v;
            return c;
        }

        int kind(int f, int n, int what) {
            if (!isField(f) || !in(n, 0, 60) || !in(what, 0, 1)) return BAD;
            int most = -1, best = NONE;
            for (int k = 0; k < 4; k++) {
                int ears = with(f, 0, k).run(n).sum(1);
                if (ears > most) { most = ears; best = k; }
            }
            return what == 0 ? best : most;
        }

        /** The weights of all ways, each times EARS of all (f below 0) or whether EARS of f are w or more. */
        BigInteger hailed(World c, int v, int n, int f, int ears) {
            if (n == 0) {
                int worth = f < 0 ? c.sum(1) : c.fields.get(f)[1] >= ears ? 1 : 0;
                return BigInteger.valueOf(worth);
            }
            World hail = c.copy();
            for (int[] it : hail.fields) it[2] = Math.min(9, it[2] + 2);
            BigInteger yes = hailed(hail.run(1), v, n - 1, f, ears).multiply(BigInteger.valueOf(v));
            BigInteger no = hailed(c.copy().run(1), v, n - 1, f, ears).multiply(BigInteger.valueOf(10 - v));
            return yes.add(no);
        }

        static long part(BigInteger top, int n, int what) {
            BigInteger bottom = BigInteger.TEN.pow(n);
            BigInteger common = top.gcd(bottom);
            return (what == 0 ? top : bottom).divide(common).longValueExact();
        }

        long luck(int v, int f, int n, int ears, int what) {
            if (!in(v, 0, 10) || !isField(f) || !in(n, 0, 8) || !in(ears, 0, 99) || !in(what, 0, 1)) return BAD;
            return part(hailed(w, v, n, f, ears), n, what);
        }

        long mean(int v, int n, int what) {
            if (!in(v, 0, 10) || !in(n, 0, 8) || !in(what, 0, 1)) return BAD;
            return part(hailed(w, v, n, -1, 0), n, what);
        }

        int see(int n, int f, int v) {
            if (!in(n, 0, 20) || !isField(f) || !in(v, 0, 99)) return BAD;
            if (w.seen.size() == 6) return FULL;
            w.seen.add(new int[] {n, f, v});
            return w.seen.size();
        }

        int told(int f, int what, int most) {
            if (!isField(f)) return BAD;
            int bits = 0;
            for (int v = 0; v <= most; v++) if (with(f, what, v).asSeen()) bits |= 1 << v;
            return bits;
        }

        int ask(int f, int what) {
            if (!isField(f) || !in(what, 0, 1)) return BAD;
            int bits = told(f, 2, 9), fewest = Integer.bitCount(bits), best = NONE;
            for (int n = 0; n <= 20; n++) {
                int[] left = new int[100];
                for (int d = 0; d <= 9; d++) {
                    if ((bits & 1 << d) != 0) left[with(f, 2, d).run(n).fields.get(f)[1]]++;
                }
                int worst = Arrays.stream(left).max().getAsInt();
                if (worst < fewest) { fewest = worst; best = n; }
            }
            return best == NONE || what == 0 ? best : fewest;
        }

        int drift(int seed, int n, int what) {
            if (!in(n, 1, 60) || !in(what, 0, 1)) return BAD;
            if (w.bands.isEmpty()) return STATE;
            World c = w.copy();
            long s = seed;
            for (int i = 0; i < n; i++) {
                s = s * 1103515245L + 12345L & 0xffffffffL;
                int got = (int) (s >> 16) & 0x7fff;
                c.bands.get(got % c.bands.size())[0] = (got >> 3) % c.fields.size();
                c.run(1);
            }
            return what == 0 ? c.sum(1) : c.sheaves;
        }

        int keep(int k) {
            if (!in(k, 0, 1)) return BAD;
            int was = images[k] == null ? 0 : 1;
            images[k] = w.copy();
            return was;
        }

        int back(int k) {
            if (!in(k, 0, 1)) return BAD;
            if (images[k] == null) return STATE;
            w = images[k].copy();
            return w.week;
        }

        int sheet(int k, int lane, int n) {
            if (!in(k, 0, 3) || !in(lane, 0, 2) || n > 40) return BAD;
            try {
                sheets[k] = lane == 0 ? new byte[n] : lane == 1 ? new short[n] : new int[n];
                return 1;
            } catch (NegativeArraySizeException e) {
                return -14;
            }
        }

        int lay(int k, int i, int v) {
            if (!in(k, 0, 3)) return BAD;
            try {
                Object s = sheets[k];
                if (s instanceof byte[]) ((byte[]) s)[i] = (byte) v;
                else if (s instanceof short[]) ((short[]) s)[i] = (short) v;
                else ((int[]) s)[i] = v;
                return 1;
            } catch (NullPointerException e) {
                return -11;
            } catch (ArrayIndexOutOfBoundsException e) {
                return -12;
            }
        }

        static int cell(Object s, int lane, int i) {
            return lane == 0 ? ((byte[]) s)[i] : lane == 1 ? ((short[]) s)[i] : ((int[]) s)[i];
        }

        int read(int k, int lane, int f, int n) {
            if (!in(k, 0, 3) || !in(lane, 0, 2) || !in(n, 0, 20)) return BAD;
            World was = w.copy();
            int came = 0, found = 0;
            try {
                for (int i = 0; i < n; i++) {
                    int b = cell(sheets[k], lane, f + 2 * i);
                    int g = cell(sheets[k], lane, f + 2 * i + 1);
                    if (march(b, g) == BAD) {
                        w = was;
                        return -20 - i;
                    }
                    came++;
                }
            } catch (NullPointerException e) {
                found = 1;
            } catch (ArrayIndexOutOfBoundsException e) {
                found = 2;
            } catch (ClassCastException e) {
                found = 3;
            }
            torn = found;
            return came;
        }

        int count(int what) {
            int cells = sheets[0] == null ? NONE : java.lang.reflect.Array.getLength(sheets[0]);
            int kept = (images[0] == null ? 0 : 1) + (images[1] == null ? 0 : 1);
            int loud = w.bands.stream().mapToInt(b -> b[1]).sum();
            int[] all = {w.seen.size(), kept, tape.length(), cells, w.sum(2), loud};
            return in(what, 0, 5) ? all[what] : BAD;
        }
    }

    private static final class Run {
        final Random dice;
        final PraisedFields x = new PraisedFields();
        final Model m = new Model();
        final List<String> calls = new ArrayList<>();
        boolean failed = false;

        Run(long seed) { dice = new Random(seed); }

        void due(String call, long want, long got) {
            calls.add(call + " = " + got);
            if (want != got && !failed) {
                failed = true;
                System.out.println("due is " + want + " in the last of: " + calls);
            }
        }

        /** Mostly within the bounds, at times just outside or far outside them. */
        int pick(int least, int most) {
            int p = dice.nextInt(60);
            if (p == 0) return least - 1;
            if (p == 1) return most + 1;
            if (p == 2) return dice.nextInt();
            if (p == 3) return dice.nextBoolean() ? Integer.MIN_VALUE : Integer.MAX_VALUE;
            if (p < 7) return least;
            if (p < 10) return most;
            return least + dice.nextInt(Math.max(1, most - least + 1));
        }

        int aField() { return pick(0, m.w.fields.size() - 1); }
        int aBand() { return pick(0, m.w.bands.size() - 1); }
        int few() { return dice.nextInt(3) == 0 ? pick(0, 60) : pick(0, 8); }

        void tell(String text) {
            for (char c : text.toCharArray()) due("feed(" + (int) c + ")", m.feed(c), x.feed(c));
            due("text()", m.text(), x.text());
            due("fault()", m.fault, x.fault());
        }

        String blanks() { return dice.nextInt(4) == 0 ? " " : ""; }

        String aText() {
            StringBuilder s = new StringBuilder();
            int fields = 1 + dice.nextInt(6), bands = dice.nextInt(5);
            if (dice.nextBoolean()) s.append("glut ").append(1 + dice.nextInt(99)).append(";");
            for (int i = 0; i < fields; i++) {
                s.append(KIND_NAMES.get(dice.nextInt(4))).append(blanks()).append(dice.nextInt(100))
                    .append(" ").append(dice.nextInt(10)).append(blanks()).append(";");
            }
            for (int i = 0; i < bands; i++) {
                s.append("band").append(dice.nextInt(fields)).append(" ").append(1 + dice.nextInt(9)).append(";");
            }
            return s.length() > 160 ? "plain 5 5;band0 9;" : s.toString();
        }

        /** A text with a few bytes or words put wrong. */
        String aWrongText() {
            StringBuilder s = new StringBuilder(aText());
            String[] words = {"glut 5;", "band 5 1;", "plain 1 1;", "0", "99", ";", " ", "$", "deaf", "A", "100 "};
            for (int i = 0; i < 1 + dice.nextInt(3); i++) {
                int at = dice.nextInt(s.length() + 1);
                if (dice.nextBoolean()) s.insert(at, words[dice.nextInt(words.length)]);
                else if (at < s.length()) s.deleteCharAt(at);
                else s.append(words[dice.nextInt(words.length)]);
                if (s.length() == 0) s.append("x");
            }
            return s.substring(0, Math.min(160, s.length()));
        }

        void change() {
            int a, b, c;
            switch (dice.nextInt(9)) {
                case 0: a = aField(); b = pick(0, 2); c = pick(0, b == 0 ? 3 : b == 1 ? 99 : 9);
                    due("alter(" + a + ", " + b + ", " + c + ")", m.alter(a, b, c), x.alter(a, b, c)); break;
                case 1: a = aBand(); b = aField();
                    due("march(" + a + ", " + b + ")", m.march(a, b), x.march(a, b)); break;
                case 2: a = aBand(); b = pick(1, 9);
                    due("play(" + a + ", " + b + ")", m.play(a, b), x.play(a, b)); break;
                case 3: a = pick(1, 99);
                    due("glut(" + a + ")", m.glut(a), x.glut(a)); break;
                case 4: a = aField(); b = pick(1, 9);
                    due("hire(" + a + ", " + b + ")", m.hire(a, b), x.hire(a, b)); break;
                case 5: if (dice.nextInt(3) != 0) break;
                    a = pick(0, m.w.bands.size());
                    due("leave(" + a + ")", Model.cut(m.w.bands, a), x.leave(a)); break;
                case 6: a = dice.nextInt(3) == 0 ? pick(0, 30) : pick(0, 3);
                    due("weeks(" + a + ")", m.weeks(a), x.weeks(a)); break;
                case 7: a = pick(0, 1);
                    due("keep(" + a + ")", m.keep(a), x.keep(a)); break;
                default: a = pick(0, 1);
                    due("back(" + a + ")", m.back(a), x.back(a)); break;
            }
        }

        void question() {
            int a, b, c;
            switch (dice.nextInt(12)) {
                case 0: a = few(); b = pick(0, 4);
                    due("runs(" + a + ", " + b + ")", m.runs(a, b), x.runs(a, b)); break;
                case 1: a = aField(); b = few(); c = pick(0, 1);
                    due("ahead(" + a + ", " + b + ", " + c + ")", m.ahead(a, b, c), x.ahead(a, b, c)); break;
                case 2: a = aField(); b = pick(0, 99);
                    due("late(" + a + ", " + b + ")", m.late(a, b), x.late(a, b)); break;
                case 3: if (dice.nextInt(12) != 0) break;
                    a = dice.nextInt(3) == 0 ? pick(0, 0) : pick(10, 13);
                    due("order(" + a + ")", m.order(a), x.order(a)); break;
                case 4: a = few(); b = pick(0, 1);
                    due("move(" + a + ", " + b + ")", m.move(a, b), x.move(a, b)); break;
                case 5: a = few(); b = pick(0, 1);
                    due("still(" + a + ", " + b + ")", m.still(a, b), x.still(a, b)); break;
                case 6: a = aBand(); b = few(); c = pick(0, 99);
                    due("need(" + a + ", " + b + ", " + c + ")", m.need(a, b, c), x.need(a, b, c)); break;
                case 7: a = few(); b = pick(0, 1);
                    due("swap(" + a + ", " + b + ")", m.swap(a, b), x.swap(a, b)); break;
                case 8: a = aField(); b = few(); c = pick(0, 99);
                    due("bear(" + a + ", " + b + ", " + c + ")", m.bear(a, b, c), x.bear(a, b, c)); break;
                case 9: a = aField(); b = few(); c = pick(0, 1);
                    due("kind(" + a + ", " + b + ", " + c + ")", m.kind(a, b, c), x.kind(a, b, c)); break;
                case 10: a = dice.nextInt(); b = pick(1, 60); c = pick(0, 1);
                    due("drift(" + a + ", " + b + ", " + c + ")", m.drift(a, b, c), x.drift(a, b, c)); break;
                default: hail(); break;
            }
        }

        void hail() {
            int v = pick(0, 10), f = aField(), n = dice.nextInt(10) == 0 ? pick(0, 8) : pick(0, 4);
            int ears = pick(0, 99), what = pick(0, 1);
            if (dice.nextBoolean()) {
                due("luck(" + v + ", " + f + ", " + n + ", " + ears + ", " + what + ")",
                    m.luck(v, f, n, ears, what), x.luck(v, f, n, ears, what));
            } else {
                due("mean(" + v + ", " + n + ", " + what + ")", m.mean(v, n, what), x.mean(v, n, what));
            }
        }

        void sight() {
            int a, b, c;
            switch (dice.nextInt(6)) {
                case 0: a = pick(0, 20); b = aField();
                    // Half of them are true, so that SEEN are not all at odds.
                    c = dice.nextBoolean() && Model.in(a, 0, 20) && m.isField(b) ? m.ahead(b, a, 0) : pick(0, 99);
                    due("see(" + a + ", " + b + ", " + c + ")", m.see(a, b, c), x.see(a, b, c)); break;
                case 1: a = pick(0, m.w.seen.size());
                    due("forget(" + a + ")", Model.cut(m.w.seen, a), x.forget(a)); break;
                case 2: a = aField();
                    due("kinds(" + a + ")", m.told(a, 0, 3), x.kinds(a)); break;
                case 3: a = aField();
                    due("blights(" + a + ")", m.told(a, 2, 9), x.blights(a)); break;
                default: a = aField(); b = pick(0, 1);
                    due("ask(" + a + ", " + b + ")", m.ask(a, b), x.ask(a, b)); break;
            }
        }

        void paper() {
            int k = pick(0, 3), a, b, c;
            switch (dice.nextInt(8)) {
                case 0: a = pick(0, 2); b = dice.nextInt(8) == 0 ? -1 - dice.nextInt(9) : pick(0, 40);
                    due("sheet(" + k + ", " + a + ", " + b + ")", m.sheet(k, a, b), x.sheet(k, a, b)); break;
                case 1: case 2: case 3: a = pick(0, 12); b = pick(0, 3) + (dice.nextInt(9) == 0 ? 256 : 0);
                    due("lay(" + k + ", " + a + ", " + b + ")", m.lay(k, a, b), x.lay(k, a, b)); break;
                default: a = pick(0, 2); b = dice.nextInt(4) == 0 ? pick(0, 40) : 0; c = pick(0, 20);
                    due("read(" + k + ", " + a + ", " + b + ", " + c + ")", m.read(k, a, b, c), x.read(k, a, b, c));
                    due("torn()", m.torn, x.torn()); break;
            }
        }

        void look() {
            int a = pick(0, 6), f = aField(), b = aBand(), c = pick(0, 5), d = pick(0, 1);
            due("rule(" + a + ")", m.rule(a), x.rule(a));
            due("field(" + f + ", " + c + ")", m.field(f, c), x.field(f, c));
            due("band(" + b + ", " + d + ")", m.band(b, d), x.band(b, d));
            due("count(" + c + ")", m.count(c), x.count(c));
            due("fault()", m.fault, x.fault());
            due("torn()", m.torn, x.torn());
        }

        void tapeOnly() {
            int a = pick(0, 127), b = pick(0, m.tape.length());
            due("feed(" + a + ")", m.feed(a), x.feed(a));
            due("end(" + b + ")", m.end(b), x.end(b));
        }

        void go() {
            if (dice.nextInt(10) != 0) tell(aText());
            while (calls.size() < CALLS - 170 && !failed) {
                int p = dice.nextInt(60);
                if (p == 0) tell(aText());
                else if (p == 1) tell(aWrongText());
                else if (p < 4) tapeOnly();
                else if (p < 20) change();
                else if (p < 40) question();
                else if (p < 47) sight();
                else if (p < 54) paper();
                else look();
            }
        }
    }

    public static void main(String[] args) {
        int wrong = 0;
        long answers = 0;
        for (int seed = 1; seed <= RUNS && wrong < 5; seed++) {
            Run run = new Run(seed);
            run.go();
            answers += run.calls.size();
            if (run.failed) {
                wrong++;
                System.out.println("in the run of seed " + seed);
            }
        }
        System.out.println(answers + " answers against the model, " + wrong + " runs not as due");
        if (wrong != 0) System.exit(1);
    }
}
