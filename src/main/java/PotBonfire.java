import java.util.Arrays;

/**
 * Pots in a bonfire, told in a text, burnt minute by minute by whole sums.
 *
 * The cells never feel the pots, so a run burns the fire first, keeps what the pots feel of it in
 * an Air, and leads as many trials of pots through that Air as a question needs. Every row is made
 * once, in the constructor: no call makes an object.
 */
public final class PotBonfire {
    public static final int BAD = -1, NO = -2, FULL = -3, NONE = -4;

    private static final int TEXT_MOST = 500, WRITE_MOST = 8, BYTE_BITS = 8;
    private static final int WIDE_MOST = 6, HIGH_MOST = 5, CELLS_MOST = WIDE_MOST * HIGH_MOST;
    private static final int KINDS = 3, POTS_MOST = 6, SPOTS_MOST = 6, KEPT_MOST = 2;
    private static final int FIGURES_MOST = 3, NUMBERS_MOST = 6;
    private static final int MINUTES_MOST = 240, WIND_MOST = 9, GRIT_MOST = 9;
    private static final int FUEL_MOST = 999, FUEL_PUT_MOST = 99;
    private static final int COOL_AIR = 20, HEAT_MOST = 3000, LIT_FROM = 200;
    private static final int STEAM_FROM = 60, BURST_FROM = 100, COLOUR_FROM = 500;
    private static final int WHOLE = 0, BURST = 1, STRUCK = 2, SPLIT = 3, DUNTED = 4, TAKEN = 6;
    private static final int GOOD = 0, SOFT = 5;
    private static final int NO_COLOUR = 0, RED = 1, BLACK = 2;
    private static final int SHARE_STEP = 10, SHARE_MOST = 200;
    private static final int LAID_ANEW_MOST = 4;
    private static final int DRAWS = 10000, DRAW_Z = 7919, DRAW_T = 6151, DRAW_PRIME = 65521;
    private static final int EVENINGS = 10;
    private static final int SHERD_WATER_STEP = 10, SHERD_WATER_MOST = 90, SHERD_STEP = 30;

    private final byte[] text = new byte[TEXT_MOST];
    private int textLength = 0;
    private final Plan plan = new Plan();
    private final Rules rules = new Rules();
    private final Heap heap = new Heap();
    private final Heap stage = new Heap();
    private final Heap trial = new Heap();
    private final Heap firstKept = new Heap();
    private final Heap secondKept = new Heap();
    private int keptCount = 0;
    private final int[] spots = new int[SPOTS_MOST];
    private int spotCount = 0;
    private final Air air = new Air();
    private final Tally tally = new Tally();

    public PotBonfire() {
        plan.layOn(rules, heap);
    }

    // ---- heaps

    public int write(int n, long v) {
        if (n < 1 || n > WRITE_MOST) return BAD;
        if (textLength + n > TEXT_MOST) return FULL;
        for (int i = n - 1; i >= 0; i--) {
            text[textLength] = (byte) (v >> (BYTE_BITS * i));
            textLength++;
        }
        return textLength;
    }

    public int wipe() {
        int was = textLength;
        textLength = 0;
        return was;
    }

    public int fault() {
        return plan.read(text, textLength);
    }

    public int lay() {
        if (plan.read(text, textLength) != NONE || !plan.isLayable()) return NO;
        plan.layOn(rules, heap);
        spotCount = 0;
        keptCount = 0;
        return rules.cells();
    }

    public int cell(int c, int what) {
        if (!isCell(c)) return BAD;
        Fire fire = heap.fire;
        switch (what) {
            case 0: return fire.heat[c];
            case 1: return fire.fuel[c];
            case 2: return fire.kind[c];
            case 3: return oneIf(fire.lit[c]);
            case 4: return oneIf(fire.covered[c]);
            case 5: return heap.pots.wholeIn(c);
            default: return BAD;
        }
    }

    public int pot(int i, int what) {
        if (!isPot(i)) return BAD;
        Pots pots = heap.pots;
        switch (what) {
            case 0: return pots.cell[i];
            case 1: return pots.warmth[i];
            case 2: return pots.water[i];
            case 3: return pots.hardened[i];
            case 4: return pots.lossOf(i, rules);
            case 5: return pots.colour[i];
            default: return BAD;
        }
    }

    public int minute(int w) {
        if (!isWind(w)) return BAD;
        heap.pass(rules, w, air);
        return heap.pots.countWhole();
    }

    public int fuel(int c, int f) {
        if (!isCell(c) || f < 1 || f > FUEL_PUT_MOST) return BAD;
        int then = heap.fire.fuel[c] + f;
        if (then > FUEL_MOST) return NO;
        heap.fire.fuel[c] = then;
        return then;
    }

    public int cover(int c, boolean is) {
        if (!isCell(c)) return BAD;
        int was = oneIf(heap.fire.covered[c]);
        heap.fire.covered[c] = is;
        return was;
    }

    public int light(int c) {
        if (!isCell(c)) return BAD;
        int was = oneIf(heap.fire.lit[c]);
        heap.fire.lit[c] = true;
        return was;
    }

    public int take(int i) {
        if (!isPot(i)) return BAD;
        if (heap.pots.state[i] != WHOLE) return NO;
        int was = heap.pots.lossOf(i, rules);
        heap.pots.state[i] = TAKEN;
        return was;
    }

    public int dry(int m) {
        if (m < 1 || m > MINUTES_MOST) return BAD;
        heap.pots.dryFor(m);
        return heap.pots.allWater();
    }

    // ---- runs

    public int run(int n, int w, int what) {
        if (!isRun(n, w) || what < 0 || what > 1) return BAD;
        tryRun(n, w);
        return what == 0 ? trial.pots.countGood(rules) : trial.pots.countLost();
    }

    public int of(int n, int w, int i, int what) {
        if (!isRun(n, w) || !isPot(i) || what < 0 || what > 3) return BAD;
        tryRun(n, w);
        switch (what) {
            case 0: return trial.pots.lossOf(i, rules);
            case 1: return greatestHeat(heap.pots.cell[i], n);
            case 2: return trial.pots.colour[i];
            default: return trial.pots.hardened[i];
        }
    }

    public int drying(int n, int w) {
        if (!isRun(n, w)) return BAD;
        burnAfresh(n, w);
        for (int m = 0; m <= MINUTES_MOST; m++) {
            trial.pots.copyFrom(heap.pots);
            trial.pots.dryFor(m);
            if (!anyBursts(n)) return m;
        }
        return NONE;
    }

    public int grit(int i, int n, int w) {
        if (!isPot(i) || !isRun(n, w)) return BAD;
        burnAfresh(n, w);
        int best = NONE;
        int longest = -1;
        for (int g = 0; g <= GRIT_MOST; g++) {
            trial.pots.copyFrom(heap.pots);
            trial.pots.grit[i] = g;
            passPots(0, n);
            if (trial.pots.lossOf(i, rules) == GOOD && trial.pots.hardened[i] > longest) {
                best = g;
                longest = trial.pots.hardened[i];
            }
        }
        return best;
    }

    public int enough(int k, int n, int w) {
        if (k < 1 || k > POTS_MOST || !isRun(n, w)) return BAD;
        for (int share = SHARE_STEP; share <= SHARE_MOST; share += SHARE_STEP) {
            trial.copyFrom(heap);
            trial.fire.shareFuel(share);
            goOn(0, n, w);
            if (trial.pots.countGood(rules) >= k) return share;
        }
        return NONE;
    }

    public int spot(int c) {
        if (!isCell(c)) return BAD;
        for (int s = 0; s < spotCount; s++) {
            if (spots[s] == c) return NO;
        }
        if (spotCount >= SPOTS_MOST) return FULL;
        spots[spotCount] = c;
        spotCount++;
        return spotCount;
    }

    public int noSpots() {
        int were = spotCount;
        spotCount = 0;
        return were;
    }

    public int lies(int k, int n, int w, int i) {
        if (k < 1 || k > LAID_ANEW_MOST || k > heap.pots.count) return BAD;
        if (!isRun(n, w) || i < -1 || i >= k) return BAD;
        burnAfresh(n, w);
        int ways = countWays(k);
        int whole = heap.pots.countWhole();
        int best = NONE;
        int most = -1;
        // No way can do better than all whole POTS being GOOD.
        for (int way = 0; way < ways && most < whole; way++) {
            if (!layWay(way, k)) continue;
            passPots(0, n);
            int good = trial.pots.countGood(rules);
            if (good > most) {
                best = way;
                most = good;
            }
        }
        if (best == NONE) return NONE;
        return i < 0 ? most : spotInWay(best, k, i);
    }

    public int rake(int n, int w) {
        if (!isRun(n, w)) return BAD;
        tryRun(n, w);
        int due = trial.pots.countGood(rules);
        stage.copyFrom(heap);
        for (int r = 0; r < n; r++) {
            trial.copyFrom(stage);
            trial.fire.rakeOff();
            goOn(r, n, w);
            if (trial.pots.countGood(rules) >= due) return r;
            stage.pass(rules, w, air);
        }
        // Raking behind the last MINUTE changes nothing any more.
        return n;
    }

    public int black(int i, int n, int w) {
        if (!isPot(i) || !isRun(n, w)) return BAD;
        stage.copyFrom(heap);
        for (int r = 0; r <= n; r++) {
            // A broken or RED POT stays so, however late all is covered.
            if (stage.pots.state[i] != WHOLE || stage.pots.colour[i] == RED) return NONE;
            trial.copyFrom(stage);
            trial.fire.coverAll();
            goOn(r, n, w);
            if (trial.pots.colour[i] == BLACK && trial.pots.lossOf(i, rules) == GOOD) return r;
            stage.pass(rules, w, air);
        }
        return NONE;
    }

    // ---- evenings, sherds

    public int evening(int z, int n) {
        if (!isDraw(z) || !isLength(n)) return BAD;
        tryEvening(z, n);
        return trial.pots.countGood(rules);
    }

    public int ten(int z, int n, int i) {
        if (!isDraw(z) || !isLength(n) || !isPot(i)) return BAD;
        int good = 0;
        for (int e = 0; e < EVENINGS; e++) {
            tryEvening((z + e) % DRAWS, n);
            if (trial.pots.lossOf(i, rules) == GOOD) good++;
        }
        return good;
    }

    public int sherd(int i, int loss, int colour, int what) {
        if (!isPot(i) || loss < GOOD || loss > SOFT) return BAD;
        if (colour < NO_COLOUR || colour > BLACK || what < 0 || what > 4) return BAD;
        burnAfresh(MINUTES_MOST, 0);
        tally.clear();
        for (int water = 0; water <= SHERD_WATER_MOST; water += SHERD_WATER_STEP) {
            trial.pots.copyFrom(heap.pots);
            trial.pots.water[i] = water;
            for (int n = SHERD_STEP; n <= MINUTES_MOST; n += SHERD_STEP) {
                passPots(n - SHERD_STEP, n);
                boolean fits = trial.pots.lossOf(i, rules) == loss && trial.pots.colour[i] == colour;
                if (fits) tally.add(water, n);
            }
        }
        return tally.told(what);
    }

    public int keep() {
        if (keptCount >= KEPT_MOST) return FULL;
        keptAt(keptCount).copyFrom(heap);
        keptCount++;
        return keptCount;
    }

    public int back() {
        if (keptCount < 1) return NO;
        keptCount--;
        heap.copyFrom(keptAt(keptCount));
        return keptCount;
    }

    public int count(int what) {
        switch (what) {
            case 0: return rules.cells();
            case 1: return heap.pots.count;
            case 2: return textLength;
            case 3: return heap.gone;
            case 4: return spotCount;
            case 5: return keptCount;
            default: return BAD;
        }
    }

    // ---- what numbers are told

    private boolean isCell(int c) {
        return c >= 0 && c < rules.cells();
    }

    private boolean isPot(int i) {
        return i >= 0 && i < heap.pots.count;
    }

    private static boolean isWind(int w) {
        return w >= 0 && w <= WIND_MOST;
    }

    private static boolean isLength(int n) {
        return n >= 0 && n <= MINUTES_MOST;
    }

    private static boolean isRun(int n, int w) {
        return isLength(n) && isWind(w);
    }

    private static boolean isDraw(int z) {
        return z >= 0 && z < DRAWS;
    }

    private static int oneIf(boolean is) {
        return is ? 1 : 0;
    }

    // ---- trials

    private Heap keptAt(int place) {
        return place == 0 ? firstKept : secondKept;
    }

    private void tryRun(int n, int w) {
        burnAfresh(n, w);
        trial.pots.copyFrom(heap.pots);
        passPots(0, n);
    }

    private void tryEvening(int z, int n) {
        trial.copyFrom(heap);
        for (int t = 0; t < n; t++) {
            trial.fire.burn(rules, rules.drawnWind(z, t));
            trial.fire.tell(air, t);
        }
        passPots(0, n);
    }

    private void burnAfresh(int n, int w) {
        trial.fire.copyFrom(heap.fire);
        burnFire(0, n, w);
    }

    private void goOn(int from, int n, int w) {
        burnFire(from, n, w);
        passPots(from, n);
    }

    private void burnFire(int from, int n, int w) {
        for (int t = from; t < n; t++) {
            trial.fire.burn(rules, w);
            trial.fire.tell(air, t);
        }
    }

    private void passPots(int from, int n) {
        for (int t = from; t < n; t++) trial.pots.feel(rules, air, t);
    }

    private boolean anyBursts(int n) {
        for (int t = 0; t < n; t++) {
            if (trial.pots.feel(rules, air, t)) return true;
        }
        return false;
    }

    private int greatestHeat(int c, int n) {
        int greatest = heap.fire.heat[c];
        for (int t = 0; t < n; t++) greatest = Math.max(greatest, air.heatAt(t, c));
        return greatest;
    }

    // ---- ways to lay the first POTS: a number with one figure a POT, POT 0 in front

    private int countWays(int k) {
        int ways = 1;
        for (int i = 0; i < k; i++) ways *= spotCount;
        return ways;
    }

    /** Only for ways that countWays counts: there is a SPOT then. */
    private int spotInWay(int way, int k, int i) {
        if (spotCount < 1) return 0;
        int rest = way;
        for (int behind = k - 1; behind > i; behind--) rest /= spotCount;
        return rest % spotCount;
    }

    /** Lays the POTS of the trial so; false if two would be in one CELL. */
    private boolean layWay(int way, int k) {
        Pots pots = trial.pots;
        pots.copyFrom(heap.pots);
        for (int i = 0; i < k; i++) pots.cell[i] = spots[spotInWay(way, k, i)];
        return !pots.anyTwoInOne();
    }

    // ---- the parts

    /** The numbers of a TEXT that stay as they are while the HEAP burns. */
    private static final class Rules {
        int wide, high;
        final int[] burns = new int[KINDS];
        final int[] gives = new int[KINDS];
        int cools, hardensFrom, hardensFor, duntsAbove, splitsAbove, windMost;

        Rules() {
            setDefaults();
        }

        private void setDefaults() {
            wide = 4;
            high = 3;
            setKind(0, 6, 20);
            setKind(1, 2, 40);
            setKind(2, 15, 8);
            cools = 8;
            hardensFrom = 75;
            hardensFor = 10;
            duntsAbove = 60;
            splitsAbove = 90;
            windMost = 0;
        }

        private void setKind(int k, int b, int v) {
            burns[k] = b;
            gives[k] = v;
        }

        private void copyFrom(Rules other) {
            wide = other.wide;
            high = other.high;
            for (int k = 0; k < KINDS; k++) setKind(k, other.burns[k], other.gives[k]);
            cools = other.cools;
            hardensFrom = other.hardensFrom;
            hardensFor = other.hardensFor;
            duntsAbove = other.duntsAbove;
            splitsAbove = other.splitsAbove;
            windMost = other.windMost;
        }

        private int cells() {
            return wide * high;
        }

        private boolean areBeside(int c, int d) {
            if (wide < 1) return false;
            int right = c % wide - d % wide;
            int below = c / wide - d / wide;
            return right >= -1 && right <= 1 && below >= -1 && below <= 1;
        }

        private int drawnWind(int z, int t) {
            if (windMost < 0) return 0;
            long x = (long) DRAW_Z * z + (long) DRAW_T * t + 1;
            return (int) (x * x % DRAW_PRIME % (windMost + 1));
        }
    }

    /**
     * What the POTS feel of each MINUTE of a fire: rows of CELLS. HEAT and whether a POT comes out
     * BLACK there share a number, since these rows are most of what an object holds.
     */
    private static final class Air {
        private final int[] felt = new int[MINUTES_MOST * CELLS_MOST];

        private void put(int t, int c, int heat, boolean blackens) {
            felt[place(t, c)] = 2 * heat + oneIf(blackens);
        }

        private int heatAt(int t, int c) {
            return felt[place(t, c)] / 2;
        }

        private boolean blackensAt(int t, int c) {
            return felt[place(t, c)] % 2 == 1;
        }

        private static int place(int t, int c) {
            boolean isThere = t >= 0 && t < MINUTES_MOST && c >= 0 && c < CELLS_MOST;
            return isThere ? t * CELLS_MOST + c : 0;
        }
    }

    /** The CELLS. */
    private static final class Fire {
        final int[] heat = new int[CELLS_MOST];
        final int[] fuel = new int[CELLS_MOST];
        final int[] kind = new int[CELLS_MOST];
        final boolean[] lit = new boolean[CELLS_MOST];
        final boolean[] covered = new boolean[CELLS_MOST];
        private final int[] gain = new int[CELLS_MOST];

        private void clear() {
            for (int c = 0; c < CELLS_MOST; c++) {
                heat[c] = COOL_AIR;
                fuel[c] = 0;
                kind[c] = 0;
                lit[c] = false;
                covered[c] = false;
            }
        }

        private void copyFrom(Fire other) {
            for (int c = 0; c < CELLS_MOST; c++) copyCell(c, other, c);
        }

        private void copyCell(int c, Fire other, int d) {
            heat[c] = other.heat[d];
            fuel[c] = other.fuel[d];
            kind[c] = other.kind[d];
            lit[c] = other.lit[d];
            covered[c] = other.covered[d];
        }

        private void burn(Rules rules, int wind) {
            burnFuel(rules);
            spread(rules);
            cool(rules, wind);
        }

        private void burnFuel(Rules rules) {
            for (int c = 0; c < rules.cells(); c++) {
                if (!lit[c]) continue;
                int burnt = Math.min(fuel[c], rules.burns[kind[c]]);
                fuel[c] -= burnt;
                heat[c] += burnt * rules.gives[kind[c]];
            }
        }

        /** All at once: what goes over is summed up before any HEAT changes. */
        private void spread(Rules rules) {
            Arrays.fill(gain, 0);
            for (int y = 0; y < rules.high; y++) {
                for (int x = 0; x < rules.wide; x++) {
                    int c = x + rules.wide * y;
                    if (x + 1 < rules.wide) flow(c, c + 1);
                    if (y + 1 < rules.high) flow(c, c + rules.wide);
                }
            }
            for (int c = 0; c < rules.cells(); c++) heat[c] += gain[c];
        }

        private void flow(int c, int d) {
            int over = (heat[c] - heat[d]) / 10;
            gain[c] -= over;
            gain[d] += over;
        }

        private void cool(Rules rules, int wind) {
            for (int c = 0; c < rules.cells(); c++) {
                int lost = (heat[c] - COOL_AIR) * (rules.cools + wind) / 100;
                if (covered[c]) lost /= 2;
                heat[c] = Math.min(HEAT_MOST, heat[c] - lost);
                if (heat[c] >= LIT_FROM) lit[c] = true;
            }
        }

        private void tell(Air air, int t) {
            for (int c = 0; c < CELLS_MOST; c++) {
                air.put(t, c, heat[c], covered[c] || fuel[c] > 0);
            }
        }

        private void shareFuel(int hundredths) {
            for (int c = 0; c < CELLS_MOST; c++) fuel[c] = fuel[c] * hundredths / 100;
        }

        private void rakeOff() {
            Arrays.fill(fuel, 0);
            for (int c = 0; c < CELLS_MOST; c++) covered[c] = false;
        }

        private void coverAll() {
            for (int c = 0; c < CELLS_MOST; c++) covered[c] = true;
        }
    }

    /** The POTS. */
    private static final class Pots {
        int count = 0;
        final int[] cell = new int[POTS_MOST];
        final int[] thick = new int[POTS_MOST];
        final int[] water = new int[POTS_MOST];
        final int[] grit = new int[POTS_MOST];
        final int[] strength = new int[POTS_MOST];
        final int[] warmth = new int[POTS_MOST];
        final int[] hardened = new int[POTS_MOST];
        final int[] state = new int[POTS_MOST];
        final int[] colour = new int[POTS_MOST];
        private final boolean[] wasHot = new boolean[POTS_MOST];
        private final boolean[] burstNow = new boolean[POTS_MOST];

        private void copyFrom(Pots other) {
            count = other.count;
            for (int i = 0; i < POTS_MOST; i++) {
                cell[i] = other.cell[i];
                thick[i] = other.thick[i];
                water[i] = other.water[i];
                grit[i] = other.grit[i];
                strength[i] = other.strength[i];
                warmth[i] = other.warmth[i];
                hardened[i] = other.hardened[i];
                state[i] = other.state[i];
                colour[i] = other.colour[i];
                wasHot[i] = other.wasHot[i];
            }
        }

        /** The POT of numbers X, Y, T, Q, G, S, still without its CELL. */
        private void add(int[] numbers) {
            if (count >= POTS_MOST || numbers.length < NUMBERS_MOST) return;
            int i = count;
            cell[i] = 0;
            thick[i] = numbers[2];
            water[i] = numbers[3];
            grit[i] = numbers[4];
            strength[i] = numbers[5];
            warmth[i] = COOL_AIR;
            hardened[i] = 0;
            state[i] = WHOLE;
            colour[i] = NO_COLOUR;
            wasHot[i] = false;
            count++;
        }

        /** A MINUTE in the air of MINUTE t: whether one BURST. */
        private boolean feel(Rules rules, Air air, int t) {
            boolean anyBurst = false;
            for (int i = 0; i < count; i++) {
                burstNow[i] = false;
                if (state[i] != WHOLE) continue;
                warm(i, rules, air.heatAt(t, cell[i]));
                burstNow[i] = state[i] == BURST;
                if (burstNow[i]) anyBurst = true;
            }
            if (anyBurst) strike(rules);
            for (int i = 0; i < count; i++) {
                if (state[i] == WHOLE) takeColour(i, air.blackensAt(t, cell[i]));
            }
            return anyBurst;
        }

        private void warm(int i, Rules rules, int heat) {
            int parts = thick[i] + 1;
            int change = parts < 1 ? 0 : (heat - warmth[i]) / parts;
            warmth[i] += change;
            if (change > 0 && change * thick[i] > 10 * rules.splitsAbove) {
                state[i] = SPLIT;
            } else if (isBursting(i)) {
                state[i] = BURST;
            } else if (-change > rules.duntsAbove && hardened[i] >= 1) {
                state[i] = DUNTED;
            } else {
                steamAndHarden(i, rules);
            }
        }

        private boolean isBursting(int i) {
            int hold = 10 * (grit[i] + 1);
            if (hold < 1 || warmth[i] <= BURST_FROM) return false;
            return water[i] * (warmth[i] - BURST_FROM) / hold > strength[i];
        }

        private void steamAndHarden(int i, Rules rules) {
            if (warmth[i] > STEAM_FROM) {
                loseWater(i, (grit[i] + 1) * (warmth[i] - STEAM_FROM) / 100);
            }
            if (warmth[i] >= 10 * rules.hardensFrom) hardened[i]++;
        }

        private void loseWater(int i, int much) {
            water[i] -= Math.min(water[i], much);
        }

        private void strike(Rules rules) {
            for (int i = 0; i < count; i++) {
                boolean isFrail = state[i] == WHOLE && hardened[i] < rules.hardensFor;
                if (isFrail && isBesideBurst(i, rules)) state[i] = STRUCK;
            }
        }

        private boolean isBesideBurst(int i, Rules rules) {
            for (int j = 0; j < count; j++) {
                if (burstNow[j] && rules.areBeside(cell[i], cell[j])) return true;
            }
            return false;
        }

        private void takeColour(int i, boolean blackens) {
            if (warmth[i] >= COLOUR_FROM) {
                wasHot[i] = true;
            } else if (wasHot[i] && colour[i] == NO_COLOUR) {
                colour[i] = blackens ? BLACK : RED;
            }
        }

        private void dryFor(int m) {
            for (int i = 0; i < count; i++) {
                if (state[i] == WHOLE) loseWater(i, m * (grit[i] + 1) / 4);
            }
        }

        private int allWater() {
            int all = 0;
            for (int i = 0; i < count; i++) all += water[i];
            return all;
        }

        private int lossOf(int i, Rules rules) {
            if (state[i] != WHOLE) return state[i];
            return hardened[i] >= rules.hardensFor ? GOOD : SOFT;
        }

        private int countGood(Rules rules) {
            int good = 0;
            for (int i = 0; i < count; i++) {
                if (lossOf(i, rules) == GOOD) good++;
            }
            return good;
        }

        private int countLost() {
            int lost = 0;
            for (int i = 0; i < count; i++) {
                if (state[i] >= BURST && state[i] <= DUNTED) lost++;
            }
            return lost;
        }

        private int countWhole() {
            int whole = 0;
            for (int i = 0; i < count; i++) {
                if (state[i] == WHOLE) whole++;
            }
            return whole;
        }

        private int wholeIn(int c) {
            for (int i = 0; i < count; i++) {
                if (state[i] == WHOLE && cell[i] == c) return i;
            }
            return NONE;
        }

        private boolean anyTwoInOne() {
            for (int i = 0; i < count; i++) {
                for (int j = i + 1; j < count; j++) {
                    if (cell[i] == cell[j]) return true;
                }
            }
            return false;
        }
    }

    /** All that burns on MINUTE by MINUTE, and that is KEPT. */
    private static final class Heap {
        final Fire fire = new Fire();
        final Pots pots = new Pots();
        int gone = 0;

        private void copyFrom(Heap other) {
            fire.copyFrom(other.fire);
            pots.copyFrom(other.pots);
            gone = other.gone;
        }

        private void pass(Rules rules, int wind, Air air) {
            fire.burn(rules, wind);
            fire.tell(air, 0);
            pots.feel(rules, air, 0);
            gone++;
        }
    }

    /** Of RUNS that fit a SHERD: how many, and the bounds of their WATER and MINUTES. */
    private static final class Tally {
        private int runs, leastWater, mostWater, leastMinutes, mostMinutes;

        private void clear() {
            runs = 0;
        }

        private void add(int water, int minutes) {
            boolean isFirst = runs == 0;
            leastWater = isFirst ? water : Math.min(leastWater, water);
            mostWater = isFirst ? water : Math.max(mostWater, water);
            leastMinutes = isFirst ? minutes : Math.min(leastMinutes, minutes);
            mostMinutes = isFirst ? minutes : Math.max(mostMinutes, minutes);
            runs++;
        }

        private int told(int what) {
            if (what == 0) return runs;
            if (runs == 0) return NONE;
            switch (what) {
                case 1: return leastWater;
                case 2: return mostWater;
                case 3: return leastMinutes;
                default: return mostMinutes;
            }
        }
    }

    /**
     * What a TEXT tells. Its CELLS lie by X and 6 times Y here, its POTS by X and Y, since the
     * ITEM that tells how wide the HEAP is may come last.
     */
    private static final class Plan {
        private static final int[] W_BOUNDS = {2, 6, 2, 5};
        private static final int[] C_BOUNDS = {0, 5, 0, 4, 0, 2, 0, 199};
        private static final int[] XY_BOUNDS = {0, 5, 0, 4};
        private static final int[] P_BOUNDS = {0, 5, 0, 4, 1, 9, 0, 99, 0, 9, 1, 99};
        private static final int[] K_BOUNDS = {0, 2, 1, 20, 1, 60};
        private static final int[] L_BOUNDS = {1, 30};
        private static final int[] H_BOUNDS = {30, 99, 1, 60};
        private static final int[] D_BOUNDS = {10, 300, 10, 300};
        private static final int[] V_BOUNDS = {0, 9};
        private static final int[] NO_BOUNDS = {};

        private final Rules told = new Rules();
        private final Fire ground = new Fire();
        private final Pots pots = new Pots();
        private final int[] potX = new int[POTS_MOST];
        private final int[] potY = new int[POTS_MOST];
        private final int[] numbers = new int[NUMBERS_MOST];

        Plan() {
            forget();
        }

        private void forget() {
            told.setDefaults();
            ground.clear();
            pots.count = 0;
        }

        /** The FAULT, or NONE. */
        private int read(byte[] text, int length) {
            forget();
            int at = 0;
            // An ITEM has a byte at least, so there are no more ITEMS than bytes.
            for (int item = 0; item < length && at < length; item++) {
                int behind = readNumbers(text, at, length);
                if (behind == NONE || !takeItem(text[at])) return at;
                at = behind;
            }
            return NONE;
        }

        /** The place behind the ITEM, its numbers being in their row; NONE if it is no ITEM. */
        private int readNumbers(byte[] text, int from, int length) {
            int[] bounds = boundsOf(text[from]);
            int wanted = bounds.length / 2;
            if (wanted < 1 || wanted > NUMBERS_MOST) return NONE;
            int at = from + 1;
            for (int i = 0; i < wanted; i++) {
                int figures = countFigures(text, at, length);
                int end = at + figures;
                if (figures < 1 || figures > FIGURES_MOST || end >= length) return NONE;
                int number = numberOf(text, at, end);
                if (number < bounds[2 * i] || number > bounds[2 * i + 1]) return NONE;
                if (text[end] != (i + 1 < wanted ? ',' : ';')) return NONE;
                numbers[i] = number;
                at = end + 1;
            }
            return at;
        }

        /** Least and most of each number; without any where no ITEM begins so. */
        private static int[] boundsOf(byte letter) {
            switch (letter) {
                case 'w': return W_BOUNDS;
                case 'c': return C_BOUNDS;
                case 'o': return XY_BOUNDS;
                case 's': return XY_BOUNDS;
                case 'p': return P_BOUNDS;
                case 'k': return K_BOUNDS;
                case 'l': return L_BOUNDS;
                case 'h': return H_BOUNDS;
                case 'd': return D_BOUNDS;
                case 'v': return V_BOUNDS;
                default: return NO_BOUNDS;
            }
        }

        private static int countFigures(byte[] text, int from, int length) {
            int figures = 0;
            for (int at = from; at < length; at++) {
                if (text[at] < '0' || text[at] > '9') break;
                figures++;
            }
            return figures;
        }

        private static int numberOf(byte[] text, int from, int end) {
            int number = 0;
            for (int at = from; at < end; at++) number = 10 * number + (text[at] - '0');
            return number;
        }

        /** False if it is a POT too many. */
        private boolean takeItem(byte letter) {
            switch (letter) {
                case 'w': told.wide = numbers[0]; told.high = numbers[1]; return true;
                case 'c': takeCell(); return true;
                case 'o': ground.lit[numbers[0] + WIDE_MOST * numbers[1]] = true; return true;
                case 's': ground.covered[numbers[0] + WIDE_MOST * numbers[1]] = true; return true;
                case 'p': return takePot();
                case 'k': told.setKind(numbers[0], numbers[1], numbers[2]); return true;
                case 'l': told.cools = numbers[0]; return true;
                case 'h': told.hardensFrom = numbers[0]; told.hardensFor = numbers[1]; return true;
                case 'd': told.duntsAbove = numbers[0]; told.splitsAbove = numbers[1]; return true;
                case 'v': told.windMost = numbers[0]; return true;
                default: return false;
            }
        }

        private void takeCell() {
            int c = numbers[0] + WIDE_MOST * numbers[1];
            ground.kind[c] = numbers[2];
            ground.fuel[c] = numbers[3];
        }

        private boolean takePot() {
            if (pots.count >= POTS_MOST) return false;
            potX[pots.count] = numbers[0];
            potY[pots.count] = numbers[1];
            pots.add(numbers);
            return true;
        }

        /** Whether the POTS of a TEXT without FAULT are in CELLS of the HEAP, no two in one. */
        private boolean isLayable() {
            for (int i = 0; i < pots.count; i++) {
                if (potX[i] >= told.wide || potY[i] >= told.high) return false;
                pots.cell[i] = potX[i] + told.wide * potY[i];
            }
            return !pots.anyTwoInOne();
        }

        /** Only behind isLayable, which gives the POTS their CELLS. */
        private void layOn(Rules rules, Heap heap) {
            rules.copyFrom(told);
            heap.fire.clear();
            for (int y = 0; y < told.high; y++) {
                for (int x = 0; x < told.wide; x++) {
                    heap.fire.copyCell(x + told.wide * y, ground, x + WIDE_MOST * y);
                }
            }
            heap.pots.copyFrom(pots);
            heap.gone = 0;
        }
    }
}
