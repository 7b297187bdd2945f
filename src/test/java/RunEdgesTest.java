/** Sections 3 and 4 of the document, sentence by sentence: RUNS, EVENINGS and SHERDS at their edges. */
public final class RunEdgesTest extends HeapTest {
    private static final String DRY_POT = "p0,0,1,0,0,1;";
    /** Its POT of T 1 is 300 warm and hardens behind a MINUTE without WIND, 298 or less with it. */
    private static final String HOT = alike(11, 53, 4, 11) + CALM + "h30,1;";
    /** Its POT of T 1 is 120 warm behind a MINUTE: it BURSTS by twice its WATER by (G and 1), cut, above S. */
    private static final String MILD = alike(7, 29, 1, 7) + CALM;
    /** CELL 0 alone is hot: a POT of T 1 hardens there in a MINUTE, one of T 9 does not, and none elsewhere. */
    private static final String ONE_HOT = "k0,20,60;c0,0,0,99;o0,0;h30,1;" + CALM;

    private static void runLengths() {
        says("A RUN is of n MINUTES (0 to 240) with WIND w (0 to 9) from the HEAP as it is");
        String slow = alike(1, 60, 1, 199) + CALM + "h30,60;" + DRY_POT;
        PotBonfire x = laid(slow);
        due("hardened by 5", x.of(5, 0, 0, 3), 0);
        due("hardened by 6", x.of(6, 0, 0, 3), 1);
        due("hardened by 239", x.of(239, 0, 0, 3), 234);
        due("hardened by 240", x.of(240, 0, 0, 3), 235);
        due("GOOD by 64", x.run(64, 0, 0), 0);
        due("GOOD by 65", x.run(65, 0, 0), 1);
        due("GOOD by 240", x.run(240, 0, 0), 1);
        // 20 of 60 are 1200; they lose 1 hundredth and one a WIND
        PotBonfire windy = laid(alike(20, 60, 1, 20) + DRY_POT);
        for (int w = 0; w <= 9; w++) due("HEAT in WIND " + w, windy.of(1, w, 0, 1), 1208 - 12 * w);
        PotBonfire later = burnt(60, slow);
        due("from the HEAP as it is: by 0", later.run(0, 0, 0), 0);
        due("from the HEAP as it is: by 4", later.run(4, 0, 0), 0);
        due("from the HEAP as it is: by 5", later.run(5, 0, 0), 1);
        due("hardened now", later.of(0, 0, 0, 3), 55);
        due("hardened in all", later.of(180, 0, 0, 3), 235);
    }

    private static void noMinuteBehindOne() {
        says("A RUN is of n MINUTES (0 to 240)");
        PotBonfire x = laid(HOT + DRY_POT + "p1,1,1,99,0,1;h30,1;");
        x.take(1);
        x.spot(0);
        int[] byOne = {1, 0, 1, 0, 0, 100, 1, 1, 10}, byNone = {0, 5, 0, 0, NONE, NONE, 0, 0, 0};
        for (int n = 1; n >= 0; n--) {
            int[] want = n == 1 ? byOne : byNone;
            due("run of " + n, x.run(n, 0, 0), want[0]);
            due("of of " + n, x.of(n, 0, 0, 0), want[1]);
            due("hardened by " + n, x.of(n, 0, 0, 3), want[2]);
            due("drying of " + n, x.drying(n, 0), want[3]);
            due("grit of " + n, x.grit(0, n, 0), want[4]);
            due("enough of " + n, x.enough(1, n, 0), want[5]);
            due("lies of " + n, x.lies(1, n, 0, -1), want[6]);
            due("evening of " + n, x.evening(0, n), want[7]);
            due("ten of " + n, x.ten(0, n, 0), want[8]);
            due("rake of " + n, x.rake(n, 0), n);
            due("black of " + n, x.black(0, n, 0), NONE);
        }
    }

    private static void runLikeMinutes() {
        says("how many are GOOD then; of LOSS 1 to 4; of a POT its LOSS, its colour, how long it hardened in all");
        String text = alike(20, 60, 30, 60) + "h40,3;d140,45;p0,0,1,0,0,1;p1,0,1,9,0,1;p0,1,9,0,0,1;p1,1,2,0,0,1;";
        PotBonfire asked = laid(text), burns = laid(text);
        for (int n = 0; n <= 12; n++) {
            int good = 0, lost = 0;
            for (int i = 0; i < 4; i++) {
                int loss = burns.pot(i, 4);
                if (loss == 0) good++;
                if (loss >= 1 && loss <= 4) lost++;
                due("LOSS of " + i + " by " + n, asked.of(n, 2, i, 0), loss);
                due("colour of " + i + " by " + n, asked.of(n, 2, i, 2), burns.pot(i, 5));
                due("hardened, " + i + " by " + n, asked.of(n, 2, i, 3), burns.pot(i, 3));
            }
            due("GOOD by " + n, asked.run(n, 2, 0), good);
            due("lost by " + n, asked.run(n, 2, 1), lost);
            burns.minute(2);
        }
        says("of LOSS 1 to 4");
        // HEAT 221: T 2 SPLITS, two BURST, one is STRUCK
        PotBonfire x = burnt(1, alike(7, 29, 1, 99) + "d60,10;p0,0,2,0,0,1;p1,0,1,99,0,1;p0,1,1,99,0,1;p1,1,1,0,0,1;");
        due("SPLIT, BURST, STRUCK", x.run(0, 0, 1), 4);
        due("none of them GOOD", x.run(0, 0, 0), 0);
        PotBonfire dunted = burnt(8, alike(20, 60, 4, 40) + DRY_POT);
        due("DUNTED", dunted.run(0, 0, 1), 1);
        PotBonfire whole = burnt(1, HOT + DRY_POT + "p1,1,9,0,0,1;p1,0,1,0,0,1;");
        whole.take(2);
        due("GOOD, SOFT, taken out", whole.run(0, 0, 1), 0);
        due("GOOD alone", whole.run(0, 0, 0), 1);
    }

    private static void greatestHeat() {
        says("the greatest HEAT its CELL had (now and behind each MINUTE)");
        PotBonfire x = laid(alike(6, 60, 4, 24) + CALM + DRY_POT + "p1,1,1,99,0,1;");
        due("now", x.of(0, 0, 0, 1), 20);
        PotBonfire burns = laid(alike(6, 60, 4, 24) + CALM + DRY_POT + "p1,1,1,99,0,1;");
        int top = 20;
        for (int n = 1; n <= 8; n++) {
            burns.minute(0);
            top = Math.max(top, burns.cell(0, 0));
            due("behind " + n, x.of(n, 0, 0, 1), top);
            due("behind " + n + ", though it BURST", x.of(n, 0, 1, 1), top);
        }
        due("it was greatest behind 4", x.of(4, 0, 0, 1), top);
        PotBonfire apart = laid(ONE_HOT + "p3,2,1,0,0,1;p0,0,1,0,0,1;");
        due("of a CELL far off", apart.of(1, 0, 0, 1), 20);
        due("of CELL 0: 1220 less 240 less 76", apart.of(1, 0, 1, 1), 904);
        due("of a CELL far off, no MINUTE", apart.of(0, 0, 0, 1), 20);
        PotBonfire cools = burnt(4, alike(6, 60, 4, 24) + CALM + DRY_POT);
        due("now is the greatest", cools.of(240, 9, 0, 1), top);
        burn(cools, 1, 9);
        due("what was ahead of now does not count", cools.of(240, 9, 0, 1), cools.cell(0, 0));
    }

    private static void drying() {
        says("DRY for m MINUTES: of the WATER of each whole POT m times (G and 1) by 4 go, no more than there is");
        int[][] rows = {{1, 0, 9, 9}, {3, 0, 9, 9}, {4, 0, 9, 8}, {7, 0, 9, 8}, {8, 0, 9, 7}, {1, 2, 9, 9}, {1, 3, 9, 8},
            {1, 9, 9, 7}, {2, 9, 5, 0}, {2, 9, 4, 0}, {2, 9, 6, 1}, {240, 0, 99, 39}, {239, 0, 99, 40}, {240, 9, 99, 0},
            {1, 9, 0, 0}, {240, 9, 0, 0}};
        for (int[] row : rows) {
            PotBonfire x = laid("p0,0,1," + row[2] + "," + row[1] + ",99;");
            due("dry(" + row[0] + ") with GRIT " + row[1] + ", WATER " + row[2], x.dry(row[0]), row[3]);
            due("WATER then", x.pot(0, 2), row[3]);
        }
        PotBonfire x = burnt(1, MILD + "p0,0,1,50,0,1;p1,1,9,40,9,99;p0,1,1,30,9,99;");
        due("BURST", x.pot(0, 4), 1);
        due("STRUCK", x.pot(1, 4), 2);
        due("none is whole", x.dry(240), 50 + 40 + x.pot(2, 2));
        PotBonfire y = laid(MILD + "p0,0,1,50,0,1;p1,1,9,40,3,99;");
        y.take(0);
        due("one is taken out", y.dry(10), 50 + 30);
        says("(it does not burn by that, no MINUTE goes by)");
        due("MINUTES", y.count(3), 0);
        due("HEAT", y.cell(0, 0), 20);
        due("FUEL", y.cell(0, 1), 7);
        due("warmth", y.pot(1, 1), 20);
        says("WATER of all together then");
        due("no POT", new PotBonfire().dry(1), 0);
    }

    private static void dryingFirst() {
        says("DRYING: the least m (0 to 240) behind which in a RUN no POT BURSTS; none");
        // 2 times WATER must be S at most; 4 MINUTES take 1 off
        due("it holds as it is", laid(MILD + "p0,0,1,9,0,19;").drying(1, 0), 0);
        due("1 must go", laid(MILD + "p0,0,1,10,0,19;").drying(1, 0), 4);
        due("60 must go", laid(MILD + "p0,0,1,99,0,78;").drying(1, 0), 240);
        due("61 must go", laid(MILD + "p0,0,1,99,0,77;").drying(1, 0), NONE);
        due("no MINUTE", laid(MILD + "p0,0,1,99,0,1;").drying(0, 0), 0);
        due("the second one needs longer", laid(MILD + "p0,0,1,10,0,19;p1,0,1,12,0,19;").drying(1, 0), 12);
        due("no POT", new PotBonfire().drying(240, 9), 0);
        PotBonfire dried = laid(MILD + "p0,0,1,10,0,19;");
        dried.dry(3);
        due("dried for 3", dried.run(1, 0, 1), 1);
        due("dried for 3: 1 more takes none", dried.drying(1, 0), 4);
        dried.dry(4);
        due("dried for 4", dried.run(1, 0, 1), 0);
        due("one that SPLITS does not BURST", laid(alike(4, 51, 1, 4) + "d60,10;p0,0,1,99,0,1;").drying(1, 0), 0);
        PotBonfire burst = burnt(1, MILD + "p0,0,1,99,0,1;");
        due("it BURST ahead of the RUN", burst.drying(240, 0), 0);
        PotBonfire asked = laid(MILD + "p0,0,1,99,0,1;");
        due("a MINUTE", asked.drying(1, 0), NONE);
        due("no MINUTE, asked behind that", asked.drying(0, 0), 0);
        PotBonfire taken = laid(MILD + "p0,0,1,99,0,1;");
        taken.take(0);
        due("it is taken out", taken.drying(240, 0), 0);
    }

    private static void gritOfAPot() {
        says("GRIT of a POT: of G from 0 to 9, in place of its own, that by which in a RUN it comes out GOOD; none");
        // 300 warm: 10 of WATER times 200 by (10 times (G and 1)), so 200 by (G and 1) must be S at most
        int[][] rows = {{99, 2}, {66, 2}, {65, 3}, {50, 3}, {49, 4}, {20, 9}, {19, NONE}};
        for (int[] row : rows) {
            for (int own = 0; own <= 9; own += 9) {
                String pot = "p0,0,1,10," + own + "," + row[0] + ";";
                due("S " + row[0] + ", its own " + own, laid(HOT + pot).grit(0, 1, 0), row[1]);
            }
        }
        due("any will do: the least", laid(HOT + "p0,0,1,0,9,1;").grit(0, 1, 0), 0);
        due("SOFT by any", laid(HOT + "p0,0,9,0,9,1;").grit(0, 1, 0), NONE);
        due("no MINUTE: SOFT", laid(HOT + DRY_POT).grit(0, 0, 0), NONE);
        due("no MINUTE: GOOD as it is", burnt(1, HOT + DRY_POT).grit(0, 0, 0), 0);
        PotBonfire x = laid(HOT + "p0,0,1,10,0,20;p1,1,9,0,0,1;");
        due("of another, STRUCK by it", x.grit(1, 1, 0), NONE);
        due("its own stays", x.of(1, 0, 0, 0), 1);
        x.take(0);
        due("one that is taken out", x.grit(0, 1, 0), NONE);
    }

    private static String six(int much) {
        StringBuilder text = new StringBuilder("w3,2;k0,12,50;l6;h30,1;" + CALM);
        for (int c = 0; c < 6; c++) {
            String place = c % 3 + "," + c / 3;
            text.append("c" + place + ",0," + much + ";o" + place + ";p" + place + ",1,0,0,1;");
        }
        return text.toString();
    }

    private static void enoughFuel() {
        says("FUEL: the least hundredths f (10, 20, .. 200) of all FUEL (of each CELL, cut)");
        // 12 thorns make it 302 warm, 11 but 278
        int[][] rows = {{199, 10}, {120, 10}, {119, 20}, {60, 20}, {59, 30}, {13, 100}, {12, 100}, {11, 110}, {10, 120},
            {7, 180}, {6, 200}, {5, NONE}, {0, NONE}};
        for (int[] row : rows) due("of " + row[0], laid(six(row[0])).enough(1, 1, 0), row[1]);
        says("by which in a RUN k POTS (1 to 6) or more are GOOD; none");
        PotBonfire all = laid(six(11));
        for (int k = 1; k <= 6; k++) due("for " + k + " of 6", all.enough(k, 1, 0), 110);
        all.take(0);
        due("for 5 of 5", all.enough(5, 1, 0), 110);
        due("for 6 of 5", all.enough(6, 1, 0), NONE);
        due("for 1 of none", new PotBonfire().enough(1, 240, 0), NONE);
        PotBonfire good = burnt(1, six(12));
        due("no MINUTE, GOOD as they are", good.enough(6, 0, 0), 10);
        due("no MINUTE, SOFT", laid(six(12)).enough(1, 0, 0), NONE);
        PotBonfire heaped = laid(six(199));
        for (int t = 0; t < 8; t++) heaped.fuel(0, 99);
        heaped.fuel(0, 8);
        due("999 twice over", heaped.enough(6, 1, 0), 10);
        due("FUEL stays", heaped.cell(0, 1), 999);
    }

    private static PotBonfire fourPots(String more) {
        return laid(ONE_HOT + "p3,2,1,0,0,1;p2,2,1,0,0,1;p1,2,1,0,0,1;p0,2,1,0,0,1;" + more);
    }

    private static void waysDue(String what, PotBonfire x, int good, int... spots) {
        due(what + ": GOOD ones", x.lies(spots.length, 1, 0, -1), good);
        for (int i = 0; i < spots.length; i++) {
            due(what + ": the SPOT of POT " + i, x.lies(spots.length, 1, 0, i), spots[i]);
        }
    }

    private static void ways() {
        says("LIES: of all ways to lay the first k POTS (1 to 4) on told SPOTS (CELLS, 6 at most), no two on one");
        PotBonfire x = fourPots("");
        for (int k = 1; k <= 4; k++) due("no SPOT for " + k, x.lies(k, 1, 0, -1), NONE);
        int[] cells = {1, 2, 3, 5, 6};
        for (int c : cells) {
            int spots = x.spot(c);
            for (int k = 1; k <= 4; k++) {
                due(k + " on " + spots, x.lies(k, 1, 0, -1), k <= spots ? 0 : NONE);
                due(k + " on " + spots + ": POT 0", x.lies(k, 1, 0, 0), k <= spots ? 0 : NONE);
                due(k + " on " + spots + ": the last one", x.lies(k, 1, 0, k - 1), k <= spots ? k - 1 : NONE);
            }
        }
        says("that by whose RUN most are GOOD, of several the first by the SPOT of POT 0, then 1, ..");
        x.spot(0);
        waysDue("one of six", x, 1, 5);
        waysDue("two of six", x, 1, 0, 5);
        waysDue("three of six", x, 1, 0, 1, 5);
        waysDue("four of six", x, 1, 0, 1, 2, 5);
        PotBonfire thick = laid(ONE_HOT + "p3,2,1,0,0,1;p2,2,1,0,0,1;p1,2,1,0,0,1;p0,2,9,0,0,1;");
        for (int c : cells) thick.spot(c);
        thick.spot(0);
        waysDue("the last one is too thick", thick, 1, 0, 1, 5, 2);
        PotBonfire exact = fourPots("");
        for (int c : new int[] {0, 1, 2, 3}) exact.spot(c);
        waysDue("four of four", exact, 1, 0, 1, 2, 3);
        PotBonfire last = laid(ONE_HOT + "p3,2,9,0,0,1;p2,2,9,0,0,1;p1,2,9,0,0,1;p0,2,1,0,0,1;");
        for (int c : new int[] {0, 1, 2, 3}) last.spot(c);
        waysDue("the thin one is the last of four", last, 1, 1, 2, 3, 0);
    }

    private static void waysAndOthers() {
        says("none in a CELL of one of the other POTS");
        PotBonfire x = fourPots("p0,0,1,0,0,1;");
        x.spot(0);
        due("the CELL of POT 4", x.lies(1, 1, 0, -1), NONE);
        x.spot(8);
        due("the CELL of POT 3, which stays", x.lies(3, 1, 0, 0), NONE);
        due("too few are left", x.lies(4, 1, 0, 0), NONE);
        x.spot(10);
        due("the CELL of POT 1, which stays", x.lies(1, 1, 0, -1), NONE);
        due("the CELL of POT 1, which is laid anew", x.lies(2, 1, 0, -1), NONE);
        x.spot(11);
        due("change of places: GOOD ones, of all POTS", x.lies(2, 1, 0, -1), 1);
        due("change of places: POT 0", x.lies(2, 1, 0, 0), 2);
        due("change of places: POT 1", x.lies(2, 1, 0, 1), 3);
        due("its own CELL", x.lies(1, 1, 0, 0), 3);
        x.take(4);
        due("a CELL of one that is taken out", x.lies(1, 1, 0, 0), 3);
        says("LIES: how many are GOOD");
        due("no MINUTE", x.lies(2, 0, 0, -1), 0);
        due("they lie as they lay", x.pot(0, 0), 11);
    }

    private static void rakingOff() {
        says("RAKE: the least r (0 to n) by which, all FUEL and sherds being taken off, no fewer are GOOD than without that");
        String fed = alike(5, 55, 30, 199) + CALM + "h60,5;" + DRY_POT;
        int[] want = {0, 0, 0, 0, 0, 0, 0, 0, 0, 0, 0, 0, 12, 12, 12};
        PotBonfire x = laid(fed);
        for (int n = 0; n < want.length; n++) due("of " + n, x.rake(n, 0), want[n]);
        due("of 240", laid(alike(1, 60, 1, 199) + CALM + "h30,60;" + DRY_POT).rake(240, 0) <= 65 ? 1 : 0, 1);
        // all FUEL burns in the first MINUTE: what counts then is how long the sherds lie on
        String under = alike(20, 40, 20, 20) + "s0,0;s1,0;s0,1;s1,1;" + CALM + "h30,8;" + DRY_POT;
        PotBonfire covered = laid(under);
        for (int n : new int[] {8, 12, 16}) due("of " + n + ", under sherds", covered.rake(n, 0), 5);
        due("no POT", new PotBonfire().rake(240, 9), 0);
        PotBonfire good = burnt(1, HOT + DRY_POT);
        due("GOOD as it is", good.rake(9, 0), 0);
    }

    private static void covering() {
        says("COVER: the least r (0 to n) by which, all CELLS being covered, a POT comes out BLACK and GOOD; none");
        String smokes = alike(1, 40, 1, 150) + CALM + "h50,1;" + DRY_POT;
        PotBonfire x = burnt(30, smokes);
        // its FUEL makes it BLACK as it cools in WIND 9; sherds keep it too warm for that
        due("of 18", x.black(0, 18, 9), NONE);
        due("of 19", x.black(0, 19, 9), 19);
        due("of 20", x.black(0, 20, 9), 19);
        String once = alike(20, 60, 30, 40) + CALM + DRY_POT;
        PotBonfire y = burnt(2, once + "h50,1;");
        int[] want = {NONE, NONE, NONE, NONE, NONE, 3, 2, 1, 0, 0};
        for (int n = 0; n < want.length; n++) due("of " + n + ", without FUEL", y.black(0, n, 0), want[n]);
        due("it stays bare", y.cell(0, 4), 0);
        due("SOFT", burnt(2, once + "h50,60;").black(0, 20, 0), NONE);
        PotBonfire red = burnt(9, once + "h50,1;");
        due("GOOD", red.pot(0, 4), 0);
        due("RED", red.pot(0, 5), 1);
        due("RED as it is", red.black(0, 0, 0), NONE);
        due("RED as it is", red.black(0, 240, 0), NONE);
        PotBonfire black = burnt(2, once + "h50,1;");
        for (int c = 0; c < 4; c++) black.cover(c, true);
        burn(black, 20, 0);
        due("BLACK", black.pot(0, 5), 2);
        due("BLACK and GOOD as it is", black.black(0, 0, 0), 0);
        black.take(0);
        due("taken out", black.black(0, 0, 0), NONE);
    }

    private static void evenings() {
        says("AN EVENING by z (0 to 9999), n MINUTES: the WIND of MINUTE t is ((x times x) modulo 65521) modulo (V and 1)");
        int[] draws = {0, 1, 2, 3, 4, 5, 17, 9997, 9998, 9999};
        // whether the first WIND is none
        int[] byOne = {0, 0, 0, 1, 0, 1, 0, 1, 1, 0}, byTwo = {0, 1, 0, 1, 0, 0, 1, 0, 0, 1}, byNine = {0, 0, 0, 1, 0, 0, 0, 1, 0, 0};
        // whether the second WIND is none
        int[] second = {0, 1, 1, 0, 0, 0, -1, 0, 0, 1};
        PotBonfire one = laid(HOT + DRY_POT + "v1;"), two = laid(HOT + DRY_POT + "v2;"), nine = laid(HOT + DRY_POT + "v9;");
        PotBonfire still = laid(HOT + DRY_POT + "v0;");
        // 321 or 320 warm behind two MINUTES if the second is still, else 318 or 317
        PotBonfire later = laid(alike(5, 51, 4, 10) + CALM + "h32,1;v1;" + DRY_POT);
        for (int i = 0; i < draws.length; i++) {
            due("V 0, z " + draws[i], still.evening(draws[i], 1), 1);
            due("V 1, z " + draws[i], one.evening(draws[i], 1), byOne[i]);
            due("V 2, z " + draws[i], two.evening(draws[i], 1), byTwo[i]);
            due("V 9, z " + draws[i], nine.evening(draws[i], 1), byNine[i]);
            if (second[i] >= 0) due("two MINUTES, z " + draws[i], later.evening(draws[i], 2), second[i]);
            due("no MINUTE, z " + draws[i], still.evening(draws[i], 0), 0);
        }
        PotBonfire longest = laid(alike(1, 4, 1, 199) + CALM + "h30,33;v1;" + DRY_POT);
        for (int c = 0; c < 4; c++) longest.fuel(c, 99);
        due("it hardens for the 33rd MINUTE in the last of 240", longest.evening(9999, 240), 1);
        due("so not in 239", longest.evening(9999, 239), 0);
        says("the WIND of MINUTE t (0 first)");
        // nothing is lit while five MINUTES go by
        PotBonfire late = burnt(5, "w2,2;k0,11,53;l4;h30,1;v1;" + CALM + fuels(0, 11) + DRY_POT);
        for (int c = 0; c < 4; c++) late.light(c);
        for (int i = 0; i < draws.length; i++) due("five MINUTES late, z " + draws[i], late.evening(draws[i], 1), byOne[i]);
        due("GOOD as it is", burnt(1, HOT + DRY_POT + "v9;").evening(0, 0), 1);
    }

    private static void tens() {
        says("of ten (z, z and 1, .. modulo 10000) how often a POT is GOOD");
        for (int z : new int[] {0, 1, 9989, 9990, 9991, 9995, 9999}) {
            PotBonfire x = laid(HOT + DRY_POT + "v1;");
            int good = 0;
            for (int e = 0; e < 10; e++) good += x.evening((z + e) % 10000, 1);
            due("from " + z, x.ten(z, 1, 0), good);
        }
        PotBonfire x = laid(HOT + DRY_POT + "p1,1,9,0,0,1;v1;");
        due("from 0", x.ten(0, 1, 0), 3);
        due("from 9995", x.ten(9995, 1, 0), 4);
        due("a thick one", x.ten(0, 1, 1), 0);
        due("no MINUTE", x.ten(9999, 0, 0), 0);
        due("always", laid(HOT + DRY_POT).ten(9999, 1, 0), 10);
        due("GOOD as it is", burnt(1, HOT + DRY_POT + "v9;").ten(9999, 0, 0), 10);
    }

    private static void sherdDue(String what, PotBonfire x, int loss, int colour, int... want) {
        for (int asked = 0; asked <= 4; asked++) {
            due(what + ", " + asked, x.sherd(0, loss, colour, asked), want.length == 0 ? asked == 0 ? 0 : NONE : want[asked]);
        }
    }

    private static void sherdsByMinutes() {
        says("A SHERD of a POT: of all RUNS with 30, 60, .. 240 MINUTES, WIND 0; how many; the least, greatest MINUTES; none");
        PotBonfire late = laid(alike(1, 9, 1, 199) + CALM + "h75,60;p0,0,1,50,9,99;v9;");
        due("GOOD by 210", late.run(210, 0, 0), 0);
        due("GOOD by 211", late.run(211, 0, 0), 1);
        sherdDue("GOOD by 240 alone", late, 0, 0, 10, 0, 90, 240, 240);
        sherdDue("SOFT by 210", late, 5, 0, 70, 0, 90, 30, 210);
        PotBonfire early = laid(alike(1, 15, 1, 199) + CALM + "h30,10;p0,0,1,50,9,99;");
        due("GOOD by 30", early.run(30, 0, 0), 0);
        due("GOOD by 31", early.run(31, 0, 0), 1);
        sherdDue("SOFT by 30 alone", early, 5, 0, 10, 0, 90, 30, 30);
        sherdDue("GOOD from 60 on", early, 0, 0, 70, 0, 90, 60, 240);
        PotBonfire soon = laid(alike(1, 17, 1, 199) + CALM + "h30,10;p0,0,3,50,9,99;");
        due("GOOD by 29", soon.run(29, 0, 0), 0);
        due("GOOD by 30", soon.run(30, 0, 0), 1);
        sherdDue("GOOD from 30 on", soon, 0, 0, 80, 0, 90, 30, 240);
        sherdDue("never SOFT", soon, 5, 0);
    }

    private static void sherdsByWater() {
        says("WATER 0, 10, .. 90 in place of that of the POT: the least, greatest WATER");
        // 200 warm and cooling in the next MINUTE: with GRIT 9 it BURSTS by more WATER than STRENGTH
        for (int strength : new int[] {9, 10, 49, 50, 79, 80, 89, 90, 99}) {
            PotBonfire x = burnt(6, alike(3, 60, 20, 9) + "p0,0,1,0,9," + strength + ";");
            due("warmth", x.pot(0, 1), 235);
            due("warmth in the next MINUTE, without WATER", burnt(7, alike(3, 60, 20, 9) + DRY_POT).pot(0, 1), 200);
            int held = Math.min(9, strength / 10);
            sherdDue("SOFT, S " + strength, x, 5, 0, 8 * (held + 1), 0, 10 * held, 30, 240);
            if (held < 9) sherdDue("BURST, S " + strength, x, 1, 0, 8 * (9 - held), 10 * held + 10, 90, 30, 240);
            else sherdDue("BURST, S " + strength, x, 1, 0);
        }
        PotBonfire told = laid(MILD + "p0,0,1,55,0,19;");
        sherdDue("WATER 0 alone", told, 5, 0, 8, 0, 0, 30, 240);
        due("its own WATER stays", told.pot(0, 2), 55);
    }

    private static void sherdsByColour() {
        says("those by which it comes out with a told LOSS and colour");
        String once = alike(20, 60, 30, 40) + CALM + "h50,1;" + DRY_POT;
        int[] found = {8, 0, 0, 30, 240};
        for (int colour = 0; colour <= 2; colour++) {
            PotBonfire bare = laid(once), covered = laid(once + "s0,0;s1,0;s0,1;s1,1;");
            sherdDue("bare, GOOD, " + colour, bare, 0, colour, colour == 1 ? found : new int[0]);
            sherdDue("covered, GOOD, " + colour, covered, 0, colour, colour == 2 ? found : new int[0]);
            sherdDue("STRUCK, " + colour, bare, 2, colour);
            sherdDue("SOFT, " + colour, bare, 5, colour);
        }
        PotBonfire burst = burnt(1, MILD + "p0,0,1,99,0,1;");
        sherdDue("BURST ahead of it", burst, 1, 0, 80, 0, 90, 30, 240);
        PotBonfire taken = laid(once);
        taken.take(0);
        for (int loss = 0; loss <= 5; loss++) sherdDue("taken out, LOSS " + loss, taken, loss, 0);
    }

    private static void kept() {
        says("KEPT is all of it: 2 at most");
        PotBonfire x = laid(alike(20, 60, 30, 40) + CALM + "h50,1;p0,0,1,9,9,99;p1,1,9,20,0,99;");
        String[] seen = new String[3];
        for (int t = 0; t < 3; t++) {
            seen[t] = heapOf(x);
            due("keep()", x.keep(), t < 2 ? t + 1 : FULL);
            x.minute(0);
            x.cover(t, true);
            x.fuel(t, 9);
            if (t == 2) x.take(0);
        }
        due("two are KEPT", x.count(5), 2);
        says("As KEPT last (it is KEPT no more then): how many are left");
        for (int t = 1; t >= 0; t--) {
            due("back()", x.back(), t);
            dueText("the HEAP", heapOf(x), seen[t]);
            due("KEPT", x.count(5), t);
        }
        due("nothing is KEPT", x.back(), NO);
        dueText("the HEAP", heapOf(x), seen[0]);
        due("keep() again", x.keep(), 1);
        due("keep() again", x.keep(), 2);
        due("the same twice", x.back(), 1);
        dueText("the HEAP", heapOf(x), seen[0]);
        says("lay(): nothing KEPT");
        due("lay()", x.lay(), 4);
        due("back()", x.back(), NO);
    }

    /** The HEAP without what is KEPT. */
    private static String heapOf(PotBonfire x) {
        return look(x).replaceFirst("\\d+\n", "\n");
    }

    public static void main(String[] args) {
        runLengths();
        noMinuteBehindOne();
        runLikeMinutes();
        greatestHeat();
        drying();
        dryingFirst();
        gritOfAPot();
        enoughFuel();
        ways();
        waysAndOthers();
        rakingOff();
        covering();
        evenings();
        tens();
        sherdsByMinutes();
        sherdsByWater();
        sherdsByColour();
        kept();
        end("RUNS, EVENINGS and SHERDS are as told at their edges");
    }
}
