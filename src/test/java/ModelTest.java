import java.util.ArrayList;
import java.util.List;
import java.util.Random;
import java.util.TreeSet;
import java.util.regex.Matcher;
import java.util.regex.Pattern;

/**
 * The class against a second, naive writing of the document: whole heaps are copied for every trial,
 * nothing is shared or left out. Calls are drawn, with wrong numbers among them.
 */
public final class ModelTest {
    private static final int BAD = -1, NO = -2, FULL = -3, NONE = -4;

    static final class Cell {
        int heat = 20, fuel, kind;
        boolean lit, covered;

        Cell copy() {
            Cell c = new Cell();
            c.heat = heat; c.fuel = fuel; c.kind = kind; c.lit = lit; c.covered = covered;
            return c;
        }
    }

    static final class Pot {
        int x, y, t, q, g, s, warm = 20, hard, fate, colour;
        boolean was500;

        Pot copy() {
            Pot p = new Pot();
            p.x = x; p.y = y; p.t = t; p.q = q; p.g = g; p.s = s;
            p.warm = warm; p.hard = hard; p.fate = fate; p.colour = colour; p.was500 = was500;
            return p;
        }
    }

    static final class Heap {
        int w = 4, h = 3, l = 8, hh = 75, nn = 10, d = 60, u = 90, v = 0, gone = 0, bursts = 0;
        int[] b = {6, 2, 15}, gives = {20, 40, 8};
        Cell[][] cells = new Cell[6][5];
        List<Pot> pots = new ArrayList<>();

        Heap() {
            for (int x = 0; x < 6; x++) for (int y = 0; y < 5; y++) cells[x][y] = new Cell();
        }

        Heap copy() {
            Heap o = new Heap();
            o.w = w; o.h = h; o.l = l; o.hh = hh; o.nn = nn; o.d = d; o.u = u; o.v = v; o.gone = gone;
            o.b = b.clone();
            o.gives = gives.clone();
            for (int x = 0; x < 6; x++) for (int y = 0; y < 5; y++) o.cells[x][y] = cells[x][y].copy();
            for (Pot p : pots) o.pots.add(p.copy());
            return o;
        }

        Cell at(int c) { return cells[c % w][c / w]; }

        int loss(Pot p) { return p.fate != 0 ? p.fate : p.hard >= nn ? 0 : 5; }

        int good() {
            int k = 0;
            for (Pot p : pots) if (loss(p) == 0) k++;
            return k;
        }

        void minute(int wind) {
            for (int x = 0; x < w; x++) for (int y = 0; y < h; y++) {
                Cell c = cells[x][y];
                int burnt = c.lit ? (c.fuel < b[c.kind] ? c.fuel : b[c.kind]) : 0;
                c.fuel -= burnt;
                c.heat += burnt * gives[c.kind];
            }
            int[][] old = new int[w][h];
            for (int x = 0; x < w; x++) for (int y = 0; y < h; y++) old[x][y] = cells[x][y].heat;
            for (int x = 0; x < w; x++) for (int y = 0; y < h; y++) {
                int sum = 0;
                if (x > 0) sum += (old[x - 1][y] - old[x][y]) / 10;
                if (y > 0) sum += (old[x][y - 1] - old[x][y]) / 10;
                if (x < w - 1) sum += (old[x + 1][y] - old[x][y]) / 10;
                if (y < h - 1) sum += (old[x][y + 1] - old[x][y]) / 10;
                cells[x][y].heat += sum;
            }
            for (int x = 0; x < w; x++) for (int y = 0; y < h; y++) {
                Cell c = cells[x][y];
                int loses = (c.heat - 20) * (l + wind) / 100;
                c.heat -= c.covered ? loses / 2 : loses;
                if (c.heat > 3000) c.heat = 3000;
                if (c.heat >= 200) c.lit = true;
            }
            List<Pot> burst = new ArrayList<>();
            for (Pot p : pots) {
                if (p.fate != 0) continue;
                int before = p.warm;
                p.warm = before + (cells[p.x][p.y].heat - before) / (p.t + 1);
                if (p.warm > before && (p.warm - before) * p.t > 10 * u) p.fate = 3;
                else if (p.warm > 100 && p.q * (p.warm - 100) / (10 * (p.g + 1)) > p.s) { p.fate = 1; burst.add(p); }
                else if (before - p.warm > d && p.hard > 0) p.fate = 4;
                else {
                    if (p.warm > 60) p.q = Math.max(0, p.q - (p.g + 1) * (p.warm - 60) / 100);
                    if (p.warm >= 10 * hh) p.hard++;
                }
            }
            bursts += burst.size();
            for (Pot p : pots) for (Pot o : burst) {
                boolean near = Math.abs(p.x - o.x) <= 1 && Math.abs(p.y - o.y) <= 1;
                if (p.fate == 0 && p.hard < nn && near) p.fate = 2;
            }
            for (Pot p : pots) {
                if (p.fate != 0) continue;
                Cell c = cells[p.x][p.y];
                if (p.colour == 0 && p.was500 && p.warm < 500) p.colour = c.covered || c.fuel > 0 ? 2 : 1;
                if (p.warm >= 500) p.was500 = true;
            }
            gone++;
        }

        Heap run(int n, int wind) {
            Heap o = copy();
            for (int t = 0; t < n; t++) o.minute(wind);
            return o;
        }

        Heap evening(int z, int n) {
            Heap o = copy();
            for (int t = 0; t < n; t++) {
                long x = 7919L * z + 6151L * t + 1;
                o.minute((int) (((x * x) % 65521) % (v + 1)));
            }
            return o;
        }

        void dry(int m) {
            for (Pot p : pots) if (p.fate == 0) p.q = Math.max(0, p.q - m * (p.g + 1) / 4);
        }
    }

    static final class Model {
        StringBuilder text = new StringBuilder();
        Heap heap = new Heap();
        List<Heap> kept = new ArrayList<>();
        List<Integer> spots = new ArrayList<>();
        Heap read;

        static final Pattern ITEM = Pattern.compile("([a-z])(\\d{1,3}(?:,\\d{1,3})*);");

        static boolean in(int n, int low, int high) { return n >= low && n <= high; }

        boolean take(char letter, int[] a) {
            int n = a.length;
            switch (letter) {
                case 'w': if (n != 2 || !in(a[0], 2, 6) || !in(a[1], 2, 5)) return false;
                    read.w = a[0]; read.h = a[1]; return true;
                case 'c': if (n != 4 || !in(a[0], 0, 5) || !in(a[1], 0, 4) || !in(a[2], 0, 2) || !in(a[3], 0, 199)) return false;
                    read.cells[a[0]][a[1]].kind = a[2]; read.cells[a[0]][a[1]].fuel = a[3]; return true;
                case 'o': if (n != 2 || !in(a[0], 0, 5) || !in(a[1], 0, 4)) return false;
                    read.cells[a[0]][a[1]].lit = true; return true;
                case 's': if (n != 2 || !in(a[0], 0, 5) || !in(a[1], 0, 4)) return false;
                    read.cells[a[0]][a[1]].covered = true; return true;
                case 'p': if (n != 6 || !in(a[0], 0, 5) || !in(a[1], 0, 4) || !in(a[2], 1, 9) || !in(a[3], 0, 99)
                        || !in(a[4], 0, 9) || !in(a[5], 1, 99) || read.pots.size() == 6) return false;
                    Pot p = new Pot();
                    p.x = a[0]; p.y = a[1]; p.t = a[2]; p.q = a[3]; p.g = a[4]; p.s = a[5];
                    read.pots.add(p); return true;
                case 'k': if (n != 3 || !in(a[0], 0, 2) || !in(a[1], 1, 20) || !in(a[2], 1, 60)) return false;
                    read.b[a[0]] = a[1]; read.gives[a[0]] = a[2]; return true;
                case 'l': if (n != 1 || !in(a[0], 1, 30)) return false;
                    read.l = a[0]; return true;
                case 'h': if (n != 2 || !in(a[0], 30, 99) || !in(a[1], 1, 60)) return false;
                    read.hh = a[0]; read.nn = a[1]; return true;
                case 'd': if (n != 2 || !in(a[0], 10, 300) || !in(a[1], 10, 300)) return false;
                    read.d = a[0]; read.u = a[1]; return true;
                case 'v': if (n != 1 || !in(a[0], 0, 9)) return false;
                    read.v = a[0]; return true;
                default: return false;
            }
        }

        int write(int n, long v) {
            if (!in(n, 1, 8)) return BAD;
            if (text.length() + n > 500) return FULL;
            for (int i = n - 1; i >= 0; i--) text.append((char) (v >> 8 * i & 255));
            return text.length();
        }

        int wipe() { int was = text.length(); text.setLength(0); return was; }

        int fault() {
            read = new Heap();
            Matcher m = ITEM.matcher(text);
            int at = 0;
            while (at < text.length()) {
                m.region(at, text.length());
                if (!m.lookingAt()) return at;
                String[] parts = m.group(2).split(",");
                int[] a = new int[parts.length];
                for (int i = 0; i < a.length; i++) a[i] = Integer.parseInt(parts[i]);
                if (!take(m.group(1).charAt(0), a)) return at;
                at = m.end();
            }
            return NONE;
        }

        int lay() {
            if (fault() != NONE) return NO;
            TreeSet<Integer> places = new TreeSet<>();
            for (Pot p : read.pots) {
                if (p.x >= read.w || p.y >= read.h || !places.add(p.x + 100 * p.y)) return NO;
            }
            heap = read;
            kept.clear();
            spots.clear();
            return heap.w * heap.h;
        }

        boolean noCell(int c) { return !in(c, 0, heap.w * heap.h - 1); }
        boolean noPot(int i) { return !in(i, 0, heap.pots.size() - 1); }
        boolean noRun(int n, int w) { return !in(n, 0, 240) || !in(w, 0, 9); }

        int cell(int c, int what) {
            if (noCell(c) || !in(what, 0, 5)) return BAD;
            Cell k = heap.at(c);
            if (what < 5) return new int[] {k.heat, k.fuel, k.kind, k.lit ? 1 : 0, k.covered ? 1 : 0}[what];
            for (int i = 0; i < heap.pots.size(); i++) {
                Pot p = heap.pots.get(i);
                if (p.fate == 0 && p.x + heap.w * p.y == c) return i;
            }
            return NONE;
        }

        int pot(int i, int what) {
            if (noPot(i) || !in(what, 0, 5)) return BAD;
            Pot p = heap.pots.get(i);
            return new int[] {p.x + heap.w * p.y, p.warm, p.q, p.hard, heap.loss(p), p.colour}[what];
        }

        int minute(int w) {
            if (!in(w, 0, 9)) return BAD;
            heap.minute(w);
            int whole = 0;
            for (Pot p : heap.pots) if (p.fate == 0) whole++;
            return whole;
        }

        int fuel(int c, int f) {
            if (noCell(c) || !in(f, 1, 99)) return BAD;
            if (heap.at(c).fuel + f > 999) return NO;
            return heap.at(c).fuel += f;
        }

        int cover(int c, boolean is) {
            if (noCell(c)) return BAD;
            int was = heap.at(c).covered ? 1 : 0;
            heap.at(c).covered = is;
            return was;
        }

        int light(int c) {
            if (noCell(c)) return BAD;
            int was = heap.at(c).lit ? 1 : 0;
            heap.at(c).lit = true;
            return was;
        }

        int take(int i) {
            if (noPot(i)) return BAD;
            Pot p = heap.pots.get(i);
            if (p.fate != 0) return NO;
            int was = heap.loss(p);
            p.fate = 6;
            return was;
        }

        int dry(int m) {
            if (!in(m, 1, 240)) return BAD;
            heap.dry(m);
            int all = 0;
            for (Pot p : heap.pots) all += p.q;
            return all;
        }

        int run(int n, int w, int what) {
            if (noRun(n, w) || !in(what, 0, 1)) return BAD;
            Heap o = heap.run(n, w);
            if (what == 0) return o.good();
            int lost = 0;
            for (Pot p : o.pots) if (in(o.loss(p), 1, 4)) lost++;
            return lost;
        }

        int of(int n, int w, int i, int what) {
            if (noRun(n, w) || noPot(i) || !in(what, 0, 3)) return BAD;
            Heap o = heap.copy();
            int top = 0;
            for (int t = 0; t <= n; t++) {
                if (t > 0) o.minute(w);
                top = Math.max(top, o.cells[o.pots.get(i).x][o.pots.get(i).y].heat);
            }
            Pot p = o.pots.get(i);
            return new int[] {o.loss(p), top, p.colour, p.hard}[what];
        }

        int drying(int n, int w) {
            if (noRun(n, w)) return BAD;
            for (int m = 0; m <= 240; m++) {
                Heap o = heap.copy();
                o.dry(m);
                if (o.run(n, w).bursts == 0) return m;
            }
            return NONE;
        }

        int grit(int i, int n, int w) {
            if (noRun(n, w) || noPot(i)) return BAD;
            int best = NONE, longest = -1;
            for (int g = 0; g <= 9; g++) {
                Heap o = heap.copy();
                o.pots.get(i).g = g;
                o = o.run(n, w);
                Pot p = o.pots.get(i);
                if (o.loss(p) == 0 && p.hard > longest) { best = g; longest = p.hard; }
            }
            return best;
        }

        int enough(int k, int n, int w) {
            if (!in(k, 1, 6) || noRun(n, w)) return BAD;
            for (int f = 10; f <= 200; f += 10) {
                Heap o = heap.copy();
                for (Cell[] row : o.cells) for (Cell c : row) c.fuel = c.fuel * f / 100;
                if (o.run(n, w).good() >= k) return f;
            }
            return NONE;
        }

        int spot(int c) {
            if (noCell(c)) return BAD;
            if (spots.contains(c)) return NO;
            if (spots.size() == 6) return FULL;
            spots.add(c);
            return spots.size();
        }

        int noSpots() { int were = spots.size(); spots.clear(); return were; }

        int best;
        int[] bestWay;

        void place(Heap o, int i, int k, int[] way, int n, int w) {
            if (i == k) {
                int good = o.run(n, w).good();
                if (good > best) { best = good; bestWay = way.clone(); }
                return;
            }
            for (int s = 0; s < spots.size(); s++) {
                boolean free = true;
                for (int j = 0; j < i; j++) if (way[j] == s) free = false;
                for (int j = k; j < o.pots.size(); j++) {
                    if (o.pots.get(j).x + o.w * o.pots.get(j).y == spots.get(s)) free = false;
                }
                if (!free) continue;
                way[i] = s;
                o.pots.get(i).x = spots.get(s) % o.w;
                o.pots.get(i).y = spots.get(s) / o.w;
                place(o, i + 1, k, way, n, w);
            }
        }

        int lies(int k, int n, int w, int i) {
            if (!in(k, 1, Math.min(4, heap.pots.size())) || noRun(n, w) || !in(i, -1, k - 1)) return BAD;
            best = -1;
            place(heap.copy(), 0, k, new int[k], n, w);
            if (best < 0) return NONE;
            return i < 0 ? best : bestWay[i];
        }

        int rake(int n, int w) {
            if (noRun(n, w)) return BAD;
            int due = heap.run(n, w).good();
            for (int r = 0; r <= n; r++) {
                Heap o = heap.run(r, w);
                for (Cell[] row : o.cells) for (Cell c : row) { c.fuel = 0; c.covered = false; }
                if (o.run(n - r, w).good() >= due) return r;
            }
            return 99999;
        }

        int black(int i, int n, int w) {
            if (noRun(n, w) || noPot(i)) return BAD;
            for (int r = 0; r <= n; r++) {
                Heap o = heap.run(r, w);
                for (Cell[] row : o.cells) for (Cell c : row) c.covered = true;
                o = o.run(n - r, w);
                if (o.pots.get(i).colour == 2 && o.loss(o.pots.get(i)) == 0) return r;
            }
            return NONE;
        }

        int evening(int z, int n) {
            if (!in(z, 0, 9999) || !in(n, 0, 240)) return BAD;
            return heap.evening(z, n).good();
        }

        int ten(int z, int n, int i) {
            if (!in(z, 0, 9999) || !in(n, 0, 240) || noPot(i)) return BAD;
            int k = 0;
            for (int e = 0; e < 10; e++) {
                Heap o = heap.evening((z + e) % 10000, n);
                if (o.loss(o.pots.get(i)) == 0) k++;
            }
            return k;
        }

        int sherd(int i, int loss, int colour, int what) {
            if (noPot(i) || !in(loss, 0, 5) || !in(colour, 0, 2) || !in(what, 0, 4)) return BAD;
            TreeSet<Integer> waters = new TreeSet<>(), minutes = new TreeSet<>();
            int k = 0;
            for (int q = 0; q <= 90; q += 10) for (int n = 30; n <= 240; n += 30) {
                Heap o = heap.copy();
                o.pots.get(i).q = q;
                o = o.run(n, 0);
                if (o.loss(o.pots.get(i)) != loss || o.pots.get(i).colour != colour) continue;
                k++;
                waters.add(q);
                minutes.add(n);
            }
            if (what == 0) return k;
            if (k == 0) return NONE;
            return what == 1 ? waters.first() : what == 2 ? waters.last() : what == 3 ? minutes.first() : minutes.last();
        }

        int keep() {
            if (kept.size() == 2) return FULL;
            kept.add(heap.copy());
            return kept.size();
        }

        int back() {
            if (kept.isEmpty()) return NO;
            heap = kept.remove(kept.size() - 1);
            return kept.size();
        }

        int count(int what) {
            if (!in(what, 0, 5)) return BAD;
            return new int[] {heap.w * heap.h, heap.pots.size(), text.length(), heap.gone, spots.size(), kept.size()}[what];
        }
    }

    private static final Random DRAW = new Random(20261118);
    private static final TreeSet<String> SEEN = new TreeSet<>();
    private static int wrong = 0;

    private static int draw(int low, int high) { return low + DRAW.nextInt(high - low + 1); }

    private static final int[] ODD = {Integer.MIN_VALUE, -2, -1, 0, 1, 2, 3, 4, 5, 6, 7, 9, 10, 11, 12, 30, 99, 100, 240,
        241, 9999, 10000, Integer.MAX_VALUE};

    /** A number from low to high; seldom an odd one, which may be out of them. */
    private static int some(int low, int high) {
        if (draw(0, 29) == 0) return ODD[draw(0, ODD.length - 1)];
        return high < low ? low : draw(low, high);
    }

    private static String text() {
        int w = draw(2, 6), h = draw(2, 5);
        StringBuilder s = new StringBuilder();
        int strong = draw(0, 3);
        if (draw(0, 5) > 0) s.append("h").append(draw(30, strong > 1 ? 55 : 80)).append(",").append(draw(1, strong > 0 ? 15 : 40)).append(";");
        if (draw(0, 5) > 0) s.append("d").append(draw(10, 200)).append(",").append(draw(strong > 0 ? 100 : 10, 300)).append(";");
        if (draw(0, 3) > 0) s.append("l").append(draw(1, draw(0, 1) == 0 ? 8 : 30)).append(";");
        if (draw(0, 3) > 0) s.append("v").append(draw(0, 9)).append(";");
        for (int k = 0; k < 3; k++) {
            if (draw(0, 2) > 0) s.append("k").append(k).append(",").append(draw(1, 20)).append(",").append(draw(strong > 1 ? 15 : 1, 60)).append(";");
        }
        int pots = draw(1, 6);
        for (int i = 0; i < pots; i++) {
            s.append("p").append(draw(0, w - 1)).append(",").append(draw(0, h - 1)).append(",").append(draw(1, 9));
            s.append(",").append(draw(0, draw(0, 1) == 0 ? 10 : 99)).append(",").append(draw(0, 9)).append(",").append(draw(1, 99)).append(";");
        }
        for (int i = draw(1, 3); i > 0; i--) s.append("o").append(draw(0, w - 1)).append(",").append(draw(0, h - 1)).append(";");
        for (int i = draw(0, 3); i > 0; i--) s.append("s").append(draw(0, w - 1)).append(",").append(draw(0, h - 1)).append(";");
        s.append("w").append(w).append(",").append(h).append(";");
        int most = draw(20, 199);
        for (int x = 0; x < w; x++) for (int y = 0; y < h; y++) {
            if (draw(0, 9) == 0 || s.length() > 485) continue;
            s.append("c").append(x).append(",").append(y).append(",").append(draw(0, 2)).append(",").append(draw(0, most)).append(";");
        }
        return s.toString();
    }

    private static void due(int object, String call, int got, int want) {
        SEEN.add(call.substring(0, call.indexOf('(')) + " " + (want < 0 ? want : want == 0 ? "0" : "above 0"));
        if (got != want && wrong++ < 40) {
            System.out.println("object " + object + ": " + call + " answered " + got + ", the model " + want);
        }
    }

    private static void write(int object, PotBonfire x, Model m, String s) {
        int at = 0;
        while (at < s.length()) {
            int n = Math.min(draw(6, 8), s.length() - at);
            long v = draw(-1, 0);
            for (int i = 0; i < n; i++) v = v << 8 | s.charAt(at + i) & 255;
            due(object, "write(" + n + ", " + v + ")", x.write(n, v), m.write(n, v));
            at += n;
        }
    }

    private static void call(int o, PotBonfire x, Model m, int which) {
        int cells = m.heap.w * m.heap.h, pots = m.heap.pots.size();
        int c = some(0, cells - 1), i = some(0, pots - 1), n = some(0, draw(0, 1) == 0 ? 60 : 240), w = some(0, draw(0, 9));
        switch (which) {
            case 0: { int a = some(0, 5); due(o, "cell(" + c + ", " + a + ")", x.cell(c, a), m.cell(c, a)); break; }
            case 1: { int a = some(0, 5); due(o, "pot(" + i + ", " + a + ")", x.pot(i, a), m.pot(i, a)); break; }
            case 2: case 3: due(o, "minute(" + w + ")", x.minute(w), m.minute(w)); break;
            case 4: { int f = some(1, 99); due(o, "fuel(" + c + ", " + f + ")", x.fuel(c, f), m.fuel(c, f)); break; }
            case 5: { boolean is = draw(0, 1) == 0; due(o, "cover(" + c + ", " + is + ")", x.cover(c, is), m.cover(c, is)); break; }
            case 6: due(o, "light(" + c + ")", x.light(c), m.light(c)); break;
            case 7: if (draw(0, 3) == 0) due(o, "take(" + i + ")", x.take(i), m.take(i)); break;
            case 8: { int a = some(1, 20); due(o, "dry(" + a + ")", x.dry(a), m.dry(a)); break; }
            case 9: { int a = some(0, 1); due(o, "run(" + n + ", " + w + ", " + a + ")", x.run(n, w, a), m.run(n, w, a)); break; }
            case 10: { int a = some(0, 3); due(o, "of(" + n + ", " + w + ", " + i + ", " + a + ")", x.of(n, w, i, a), m.of(n, w, i, a)); break; }
            case 11: due(o, "drying(" + n + ", " + w + ")", x.drying(n, w), m.drying(n, w)); break;
            case 12: due(o, "grit(" + i + ", " + n + ", " + w + ")", x.grit(i, n, w), m.grit(i, n, w)); break;
            case 13: { int k = some(1, Math.max(1, pots)); due(o, "enough(" + k + ", " + n + ", " + w + ")", x.enough(k, n, w), m.enough(k, n, w)); break; }
            case 14: case 15: due(o, "spot(" + c + ")", x.spot(c), m.spot(c)); break;
            case 16: if (draw(0, 5) == 0) due(o, "noSpots()", x.noSpots(), m.noSpots()); break;
            case 17: {
                int k = some(1, Math.min(4, pots)), a = some(-1, Math.min(4, Math.max(k, 0)) - 1), t = Math.min(n, 100);
                due(o, "lies(" + k + ", " + t + ", " + w + ", " + a + ")", x.lies(k, t, w, a), m.lies(k, t, w, a)); break;
            }
            case 18: due(o, "rake(" + n + ", " + w + ")", x.rake(n, w), m.rake(n, w)); break;
            case 19: due(o, "black(" + i + ", " + n + ", " + w + ")", x.black(i, n, w), m.black(i, n, w)); break;
            case 20: { int z = some(0, 9999); due(o, "evening(" + z + ", " + n + ")", x.evening(z, n), m.evening(z, n)); break; }
            case 21: { int z = draw(0, 4) == 0 ? draw(9990, 9999) : some(0, 9999); due(o, "ten(" + z + ", " + n + ", " + i + ")", x.ten(z, n, i), m.ten(z, n, i)); break; }
            case 22: {
                int l = some(0, 5), a = some(0, 2), b = some(0, 4);
                due(o, "sherd(" + i + ", " + l + ", " + a + ", " + b + ")", x.sherd(i, l, a, b), m.sherd(i, l, a, b)); break;
            }
            case 23: due(o, "keep()", x.keep(), m.keep()); break;
            case 24: due(o, "back()", x.back(), m.back()); break;
            default: { int a = some(0, 5); due(o, "count(" + a + ")", x.count(a), m.count(a)); break; }
        }
    }

    /** All that can be asked of the HEAP as it is. */
    private static void look(int o, PotBonfire x, Model m) {
        for (int a = 0; a <= 5; a++) {
            due(o, "count(" + a + ")", x.count(a), m.count(a));
            for (int i = 0; i < m.heap.pots.size(); i++) {
                due(o, "pot(" + i + ", " + a + ")", x.pot(i, a), m.pot(i, a));
                if (a >= 4) SEEN.add("pot " + a + " is " + m.pot(i, a));
            }
        }
        for (int c = 0; c < m.heap.w * m.heap.h; c += 1 + c % 3) {
            int a = draw(0, 5);
            due(o, "cell(" + c + ", " + a + ")", x.cell(c, a), m.cell(c, a));
        }
    }

    private static void lay(int o, PotBonfire x, Model m) {
        due(o, "wipe()", x.wipe(), m.wipe());
        String s = text();
        write(o, x, m, s);
        due(o, "fault()", x.fault(), m.fault());
        due(o, "lay()", x.lay(), m.lay());
    }

    /** Texts with a byte or two changed, left out or put in. */
    private static void spoil(int o) {
        PotBonfire x = new PotBonfire();
        Model m = new Model();
        String signs = "0123456789,;,;wcospklhdvx \u00ff";
        for (int times = 0; times < 6; times++) {
            StringBuilder s = new StringBuilder(text());
            for (int k = draw(0, 2); k > 0; k--) {
                int at = draw(0, s.length() - 1);
                char sign = signs.charAt(draw(0, signs.length() - 1));
                int how = draw(0, 2);
                if (how == 0) s.setCharAt(at, sign);
                else if (how == 1) s.deleteCharAt(at);
                else if (s.length() < 500) s.insert(at, sign);
            }
            due(o, "wipe()", x.wipe(), m.wipe());
            write(o, x, m, s.toString());
            due(o, "fault()", x.fault(), m.fault());
            due(o, "lay()", x.lay(), m.lay());
            due(o, "count(1)", x.count(1), m.count(1));
        }
    }

    public static void main(String[] args) {
        for (int o = 0; o < 400; o++) {
            PotBonfire x = new PotBonfire();
            Model m = new Model();
            lay(o, x, m);
            if (draw(0, 1) == 0) {
                for (int k = draw(1, 8) * draw(1, 8); k > 0; k--) call(o, x, m, 2);
            }
            for (int k = 0; k < 40; k++) call(o, x, m, draw(0, 25));
            look(o, x, m);
            for (int k = 0; k < 60; k++) call(o, x, m, 2);
            look(o, x, m);
            for (int k = 0; k < 20; k++) call(o, x, m, draw(0, 25));
            look(o, x, m);
            spoil(o);
        }
        // What was never seen was never tested.
        String[] needed = {"pot 4 is 0", "pot 4 is 1", "pot 4 is 2", "pot 4 is 3", "pot 4 is 4", "pot 4 is 5", "pot 4 is 6",
            "pot 5 is 0", "pot 5 is 1", "pot 5 is 2", "drying above 0", "drying 0", "drying -4", "grit above 0", "grit 0",
            "grit -4", "enough above 0", "enough -4", "lies above 0", "lies 0", "lies -4", "rake above 0", "black above 0",
            "black 0", "black -4", "evening above 0", "ten above 0", "sherd above 0", "sherd -4", "spot -2", "spot -3",
            "take -2", "back -2", "keep -3", "fault above 0", "lay -2", "run above 0"};
        for (String need : needed) {
            if (!SEEN.contains(need)) { wrong++; System.out.println("never seen: " + need); }
        }
        System.out.println(wrong == 0 ? "as the model" : wrong + " answers are not as the model's");
        if (wrong != 0) System.exit(1);
    }
}
