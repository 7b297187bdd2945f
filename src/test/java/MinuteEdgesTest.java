/** Section 2 of the document, sentence by sentence: a MINUTE at its edges. */
public final class MinuteEdgesTest extends HeapTest {
    private static final String DRY_POT = "p0,0,1,0,0,1;";

    private static void heatsDue(String what, PotBonfire x, int... want) {
        for (int c = 0; c < want.length; c++) due(what + ": HEAT of " + c, x.cell(c, 0), want[c]);
    }

    private static void fuelBurns() {
        says("1 of each CELL that is lit B of its KIND burn, no more than there is: that many times V come to its HEAT");
        // 6 burn of 20 each; 8 hundredths of what is above 20 are lost
        int[] much = {0, 1, 5, 6, 7, 199}, heat = {20, 39, 112, 131, 131, 131}, left = {0, 0, 0, 0, 1, 193};
        for (int i = 0; i < much.length; i++) {
            PotBonfire x = burnt(1, LIT + fuels(0, much[i]));
            due("HEAT by " + much[i], x.cell(0, 0), heat[i]);
            due("FUEL left of " + much[i], x.cell(0, 1), left[i]);
        }
        PotBonfire dark = burnt(3, "w2,2;" + fuels(0, 99));
        heatsDue("not lit", dark, 20, 20, 20, 20);
        due("its FUEL", dark.cell(0, 1), 99);
        due("it is not lit by FUEL", dark.cell(0, 3), 0);
        PotBonfire out = burnt(9, LIT + fuels(0, 6));
        due("it stays lit without FUEL", out.cell(0, 3), 1);
        due("so what is put on burns", out.fuel(0, 7), 7);
        out.minute(0);
        due("6 of 7", out.cell(0, 1), 1);
    }

    private static void heatSpreads() {
        says("a tenth of the difference of HEATS goes over to the cooler one");
        int[] gives = {9, 10, 19, 20}, here = {29, 28, 37, 36}, beside = {20, 21, 21, 22};
        for (int i = 0; i < gives.length; i++) {
            String one = "w2,2;l1;k0,1," + gives[i] + ";";
            heatsDue("from above, left: " + gives[i], burnt(1, one + "c0,0,0,1;o0,0;"), here[i], beside[i], beside[i], 20);
            heatsDue("from below, right: " + gives[i], burnt(1, one + "c1,1,0,1;o1,1;"), 20, beside[i], beside[i], here[i]);
        }
        says("Between each CELL and the one to the right of it (X more), and the one below it (Y more)");
        for (int c = 0; c < 30; c++) {
            String place = c % 6 + "," + c / 6;
            PotBonfire x = burnt(1, "w6,5;l1;k0,1,10;c" + place + ",0,1;o" + place + ";");
            int neighbours = 0;
            for (int d = 0; d < 30; d++) {
                boolean isBeside = Math.abs(c % 6 - d % 6) + Math.abs(c / 6 - d / 6) == 1;
                if (isBeside) neighbours++;
                if (d != c) due("HEAT of " + d + " by " + c, x.cell(d, 0), isBeside ? 21 : 20);
            }
            due("HEAT of " + c, x.cell(c, 0), 30 - neighbours);
        }
        says("as they are behind 1, all at once");
        // 140 in the middle of three: 12 to each side and 12 below; 8 hundredths of 84 are lost
        heatsDue("one of six", burnt(1, "w3,2;c1,0,0,6;o1,0;"), 32, 98, 32, 20, 32, 20);
        // two burn alike, so nothing goes from one to the other
        heatsDue("two of four", burnt(1, "w2,2;c0,0,0,6;o0,0;c1,0,0,6;o1,0;"), 120, 120, 32, 32);
    }

    private static void heatIsLost() {
        says("3 Each CELL loses (HEAT less 20) times (L and w) by 100");
        due("12 times 8: none", burnt(1, alike(1, 12, 8, 1)).cell(0, 0), 32);
        due("13 times 8: 1", burnt(1, alike(1, 13, 8, 1)).cell(0, 0), 32);
        due("99 times 1: none", burnt(1, alike(9, 11, 1, 9)).cell(0, 0), 119);
        due("100 times 1: 1", burnt(1, alike(10, 10, 1, 10)).cell(0, 0), 119);
        int[] winds = {0, 1, 8, 9};
        // 50 times (L and w)
        int[] leastLeft = {70, 69, 66, 65}, mostLeft = {55, 55, 51, 51};
        for (int i = 0; i < winds.length; i++) {
            PotBonfire least = laid(alike(1, 50, 1, 1)), most = laid(alike(1, 50, 30, 1));
            least.minute(winds[i]);
            most.minute(winds[i]);
            due("L 1, WIND " + winds[i], least.cell(0, 0), leastLeft[i]);
            due("L 30, WIND " + winds[i], most.cell(0, 0), mostLeft[i]);
        }
        due("20 is never lost", burnt(200, alike(1, 1, 30, 1)).cell(0, 0) - burnt(1, alike(1, 1, 30, 1)).cell(0, 0), 0);
        says("a covered one half of that");
        String covers = "s0,0;s1,0;s0,1;s1,1;";
        // 25 times 8 by 100 are 2, times 12 are 3, times 4 are 1
        due("half of 2", burnt(1, alike(1, 25, 8, 1) + covers).cell(0, 0), 44);
        due("half of 3", burnt(1, alike(1, 25, 12, 1) + covers).cell(0, 0), 44);
        due("half of 1", burnt(1, alike(1, 25, 4, 1) + covers).cell(0, 0), 45);
        due("bare: 3", burnt(1, alike(1, 25, 12, 1)).cell(0, 0), 42);
    }

    private static void heatIsBound() {
        says("HEAT is 3000 at most then");
        due("2999", burnt(11, alike(7, 41, 1, 199)).cell(0, 0), 2999);
        due("3000", burnt(9, alike(16, 24, 3, 199)).cell(0, 0), 3000);
        due("3001 would be", burnt(8, alike(19, 28, 8, 199)).cell(0, 0), 3000);
        // 3000 and 1200 less 8 hundredths are still above 3000, and are cut only then
        due("3866 would be", burnt(9, alike(20, 60, 8, 199)).cell(0, 0), 3000);
        due("behind all FUEL", burnt(11, alike(20, 60, 8, 199)).cell(0, 0), 2762);
    }

    private static void cellsAreLit() {
        says("4 Each CELL of HEAT 200 or more is lit");
        // 92 come to CELL 3 from two sides each, a covered one loses 4 or 5 of 184
        String three = "w2,2;k0,20,46;c0,0,0,199;c1,0,0,199;c0,1,0,199;o0,0;o1,0;o0,1;s1,1;c1,1,0,50;";
        PotBonfire lit = burnt(1, three + "l5;"), dark = burnt(1, three + "l6;");
        due("HEAT", lit.cell(3, 0), 200);
        due("lit by 200", lit.cell(3, 3), 1);
        due("it burns from the next MINUTE on", lit.cell(3, 1), 50);
        due("HEAT", dark.cell(3, 0), 199);
        due("not lit by 199", dark.cell(3, 3), 0);
        lit.minute(0);
        dark.minute(0);
        due("20 burn", lit.cell(3, 1), 30);
        due("none burn", dark.cell(3, 1), 50);
        burn(lit, 200, 9);
        due("it is cool again", lit.cell(3, 0) < 200 ? 1 : 0, 1);
        due("and still lit", lit.cell(3, 3), 1);
    }

    private static void potsWarm() {
        says("5 Of each whole POT the warmth goes towards the HEAT of its CELL by the difference by (T and 1)");
        // HEAT 221
        int[] warm = {120, 87, 70, 60, 53, 48, 45, 42, 40};
        for (int t = 1; t <= 9; t++) {
            due("T " + t, burnt(1, alike(7, 29, 1, 199) + "p0,0," + t + ",0,0,1;").pot(0, 1), warm[t - 1]);
        }
        says("All is cut towards 0 wherever it is divided");
        PotBonfire x = laid(alike(1, 20, 3, 1) + DRY_POT);
        int[] up = {30, 35, 37, 38, 39, 39};
        for (int t = 0; t < up.length; t++) {
            x.minute(0);
            due("up towards 40, MINUTE " + t, x.pot(0, 1), up[t]);
        }
        x.minute(9);
        due("HEAT", x.cell(0, 0), 38);
        due("1 below by 2 is none", x.pot(0, 1), 39);
        x.minute(9);
        due("HEAT", x.cell(0, 0), 36);
        due("3 below by 2 is 1", x.pot(0, 1), 38);
        says("Of each whole POT the warmth goes");
        PotBonfire taken = laid(alike(7, 29, 1, 199) + DRY_POT + "p1,1,1,99,0,1;");
        taken.take(0);
        burn(taken, 2, 0);
        due("one that is taken out", taken.pot(0, 1), 20);
        due("one that BURST in the first MINUTE", taken.pot(1, 1), 120);
    }

    private static void potsSplit() {
        says("it SPLITS (kind 3), if it warmed by d and d times T is above 10 U");
        due("100 is not above 100", burnt(1, alike(7, 29, 1, 99) + "d60,10;" + DRY_POT).pot(0, 4), 5);
        PotBonfire split = burnt(1, alike(4, 51, 1, 99) + "d60,10;p0,0,1,99,9,99;");
        due("101 is above 100", split.pot(0, 4), 3);
        due("its WATER stays", split.pot(0, 2), 99);
        due("its warmth", split.pot(0, 1), 121);
        due("it does not harden", burnt(1, alike(11, 53, 4, 99) + "h30,1;d60,10;" + DRY_POT).pot(0, 3), 0);
        PotBonfire cools = burnt(25, alike(4, 52, 30, 99) + "d300,10;h99,1;" + DRY_POT);
        burn(cools, 1, 9);
        due("ahead of it", cools.pot(0, 1), 392);
        burn(cools, 1, 9);
        due("it cooled by 102", cools.pot(0, 1), 290);
        due("by cooling none SPLITS", cools.pot(0, 4), 5);
    }

    private static void potsBurst() {
        says("it BURSTS (1), if it is above 100 warm and WATER times (warmth less 100) by (10 times (G and 1)) is above S");
        PotBonfire warm = burnt(1, alike(7, 23, 1, 99) + "p0,0,1,99,0,1;");
        due("warmth", warm.pot(0, 1), 100);
        due("100 is not above 100", warm.pot(0, 4), 5);
        // 101 warm: 99 by 10 are 9
        due("9 is not above 9", burnt(1, alike(4, 41, 1, 99) + "p0,0,1,99,0,9;").pot(0, 4), 5);
        due("9 is above 8", burnt(1, alike(4, 41, 1, 99) + "p0,0,1,99,0,8;").pot(0, 4), 1);
        // 120 warm: 99 times 20 by 100 are 19
        due("19 is not above 19", burnt(1, alike(7, 29, 1, 99) + "p0,0,1,99,9,19;").pot(0, 4), 5);
        due("19 is above 18", burnt(1, alike(7, 29, 1, 99) + "p0,0,1,99,9,18;").pot(0, 4), 1);
        due("none without WATER", burnt(5, alike(20, 60, 1, 199) + CALM + "h99,1;" + DRY_POT).pot(0, 4) == 1 ? 1 : 0, 0);
        PotBonfire burst = burnt(1, alike(11, 53, 4, 99) + CALM + "h30,1;p0,0,1,99,9,1;");
        due("its WATER stays", burst.pot(0, 2), 99);
        due("it does not harden", burst.pot(0, 3), 0);
    }

    private static void potsDunt() {
        says("it DUNTS (4), if it cooled by more than D and has hardened for a MINUTE or more");
        // 300, 404, 424, 407 warm with WIND 9 behind the first MINUTE
        for (int d = 16; d <= 17; d++) {
            PotBonfire x = burnt(1, alike(11, 53, 4, 11) + "h30,1;d" + d + ",300;" + DRY_POT);
            burn(x, 3, 9);
            due("warmth", x.pot(0, 1), 407);
            due("by 17, D " + d, x.pot(0, 4), d == 16 ? 4 : 0);
            due("it hardened for", x.pot(0, 3), d == 16 ? 3 : 4);
        }
        PotBonfire raw = burnt(1, alike(11, 53, 4, 11) + "h43,1;d16,300;" + DRY_POT);
        burn(raw, 3, 9);
        due("424 warm at most: it has not hardened", raw.pot(0, 3), 0);
        due("so it is SOFT", raw.pot(0, 4), 5);
        PotBonfire once = burnt(1, alike(11, 53, 4, 11) + "h42,1;d16,300;" + DRY_POT);
        burn(once, 3, 9);
        due("hardened for a MINUTE", once.pot(0, 3), 1);
        due("so it DUNTS", once.pot(0, 4), 4);
    }

    private static void firstThatIsSo() {
        says("Then, the first that is so");
        due("it SPLITS ahead of BURSTING", burnt(1, alike(4, 51, 1, 99) + "d60,10;p0,0,1,99,0,1;").pot(0, 4), 3);
        // 982 warm with HEAT 1020 now; the next MINUTE cools it by 131, whatever WATER it is told to have
        PotBonfire x = burnt(3, alike(20, 60, 30, 40) + "h50,1;d130,300;" + DRY_POT);
        due("warmth", x.pot(0, 1), 982);
        due("it BURSTS ahead of DUNTING", x.sherd(0, 1, 0, 0), 72);
        due("by WATER of 10 and more", x.sherd(0, 1, 0, 1), 10);
        due("else it DUNTS", x.sherd(0, 4, 0, 0), 8);
        due("without WATER alone", x.sherd(0, 4, 0, 2), 0);
    }

    private static void steam() {
        says("else (G and 1) times (warmth less 60) by 100 of its WATER go (none up to 60 warm, no more than there is)");
        // 50, 60, 69, 70 warm, with GRIT 9
        int[][] burns = {{6, 10}, {8, 10}, {7, 14}, {6, 17}};
        int[] warm = {50, 60, 69, 70}, left = {50, 50, 50, 49};
        for (int i = 0; i < burns.length; i++) {
            PotBonfire x = burnt(1, alike(burns[i][0], burns[i][1], 1, 99) + "p0,0,1,50,9,99;");
            due("warmth", x.pot(0, 1), warm[i]);
            due("WATER, " + warm[i] + " warm", x.pot(0, 2), left[i]);
        }
        PotBonfire short99 = burnt(1, alike(8, 13, 1, 99) + "p0,0,1,50,8,99;");
        due("warmth", short99.pot(0, 1), 71);
        due("99 by 100 is none", short99.pot(0, 2), 50);
        due("at 20 warm", burnt(9, "w2,2;p0,0,1,50,9,99;").pot(0, 2), 50);
        // 120 warm: 10 times 60 by 100
        int[] water = {0, 1, 5, 6, 7}, then = {0, 0, 0, 0, 1};
        for (int i = 0; i < water.length; i++) {
            PotBonfire x = burnt(1, alike(7, 29, 1, 99) + "p0,0,1," + water[i] + ",9,99;");
            due("6 go of " + water[i], x.pot(0, 2), then[i]);
        }
        says("and it hardens a MINUTE more, if it is 10 H warm or more");
        due("300 warm", burnt(1, alike(11, 53, 4, 99) + CALM + "h30,9;" + DRY_POT).pot(0, 3), 1);
        due("299 warm", burnt(1, alike(10, 57, 2, 99) + CALM + "h30,9;" + DRY_POT).pot(0, 3), 0);
        due("300 warm, H 31", burnt(1, alike(11, 53, 4, 99) + CALM + "h31,9;" + DRY_POT).pot(0, 3), 0);
    }

    private static void struckByHowLong() {
        says("6 Each whole POT that has hardened for fewer than N MINUTES is STRUCK (2)");
        // the thin one hardens from MINUTE 5 on, the thick one BURSTS in MINUTE 9
        String thin = "p0,0,1,0,0,1;", thick = "p1,1,9,9,0,99;";
        for (int order = 0; order <= 1; order++) {
            String heap = alike(8, 10, 4, 199) + CALM + (order == 0 ? thin + thick : thick + thin);
            due("none BURST yet", burnt(8, heap + "h30,6;").pot(order, 4), 5);
            PotBonfire five = burnt(9, heap + "h30,5;"), six = burnt(9, heap + "h30,6;");
            due("BURST", five.pot(1 - order, 4), 1);
            due("hardened for", five.pot(order, 3), 5);
            due("5 of 5", five.pot(order, 4), 0);
            due("5 of 6", six.pot(order, 4), 2);
            due("how many are whole", laid(heap + "h30,5;").run(9, 0, 1), 1);
        }
    }

    private static void struckByHowFar() {
        says("and is 1 CELL or less off in X and in Y from one that BURST in this MINUTE");
        for (int c = 0; c < 30; c++) {
            String place = c % 6 + "," + c / 6;
            String hot = "w6,5;k0,20,60;c" + place + ",0,199;o" + place + ";p" + place + ",1,99,0,1;";
            for (int d = 0; d < 30; d++) {
                if (c == d) continue;
                PotBonfire x = burnt(1, hot + "p" + d % 6 + "," + d / 6 + ",9,0,0,1;");
                boolean isBeside = Math.abs(c % 6 - d % 6) <= 1 && Math.abs(c / 6 - d / 6) <= 1;
                due("it BURSTS in " + c, x.pot(0, 4), 1);
                due("the one in " + d, x.pot(1, 4), isBeside ? 2 : 5);
            }
        }
        String hot = "w6,2;k0,20,60;h30,1;d300,300;c5,0,0,199;o5,0;c4,0,0,199;o4,0;";
        PotBonfire late = burnt(1, hot + "p0,0,1,0,0,1;p5,0,1,99,0,1;");
        due("BURST", late.pot(1, 4), 1);
        late.spot(4);
        due("laid beside it behind that MINUTE", late.lies(1, 3, 0, -1), 1);
        PotBonfire taken = laid(hot + "p0,0,1,0,0,1;p1,0,1,0,0,1;p5,0,1,99,0,1;");
        taken.take(0);
        taken.minute(0);
        due("one BURST far off", taken.pot(2, 4), 1);
        due("the one beside it is taken out, not BURST", taken.pot(1, 4), 5);
        // POT 1 BURST in the first MINUTE; POT 2 does so in the second, as POT 0 lies beside POT 1
        String two = hot + "w6,5;c0,4,0,199;o0,4;h30,3;p2,2,1,0,0,1;p5,0,1,99,0,1;p0,4,9,9,0,30;";
        PotBonfire both = laid(two);
        due("lost by 1", both.run(1, 0, 1), 1);
        due("lost by 2", both.run(2, 0, 1), 2);
        both.minute(0);
        both.spot(4);
        due("neither is beside it in its MINUTE", both.lies(1, 5, 0, -1), 1);
    }

    private static void struckInPlaceOf() {
        says("Each whole POT .. is STRUCK");
        PotBonfire row = burnt(1, "w3,2;k0,20,60;c0,0,0,99;o0,0;p0,0,1,99,0,1;p1,0,9,0,0,1;p2,0,9,0,0,1;");
        due("beside it", row.pot(1, 4), 2);
        due("beside the STRUCK one", row.pot(2, 4), 5);
        // HEAT 221: T 2 warms by 67, T 1 by 100
        PotBonfire x = laid(alike(7, 29, 1, 99) + "d60,10;p0,0,2,0,0,1;p1,0,1,99,0,1;p0,1,1,99,0,1;p1,1,1,0,0,1;");
        x.take(3);
        due("none is whole", x.minute(0), 0);
        due("SPLIT in this MINUTE", x.pot(0, 4), 3);
        due("BURST beside another", x.pot(1, 4), 1);
        due("BURST beside another", x.pot(2, 4), 1);
        due("taken out", x.pot(3, 4), 6);
    }

    private static void colourByHeat() {
        says("7 A whole POT without a colour that was 500 warm or more behind some MINUTE and is below 500 now");
        PotBonfire by500 = laid(alike(9, 18, 23, 123) + CALM + "p0,0,3,0,0,1;");
        due("the warmest", warmest(by500, 20), 500);
        due("500", by500.pot(0, 5), 1);
        PotBonfire by499 = laid(alike(4, 38, 17, 36) + CALM + "p0,0,3,0,0,1;");
        due("the warmest", warmest(by499, 20), 499);
        due("499", by499.pot(0, 5), 0);
        PotBonfire cools = burnt(32, alike(9, 39, 7, 78) + CALM + "p0,0,2,0,0,1;");
        due("warmth", cools.pot(0, 1), 500);
        due("500 is not below 500", cools.pot(0, 5), 0);
        cools.minute(0);
        due("467 is below 500", cools.pot(0, 5), 1);
        burn(cools, 9, 0);
        for (int c = 0; c < 4; c++) cools.cover(c, true);
        for (int c = 0; c < 4; c++) cools.fuel(c, 99);
        due("500 again", warmest(cools, 20) > 500 ? 1 : 0, 1);
        burn(cools, 60, 9);
        due("below 500 again", cools.pot(0, 1) < 500 ? 1 : 0, 1);
        due("its first colour stays", cools.pot(0, 5), 1);
        says("A whole POT");
        // 505 warm; with WIND 9 it cools by 94
        for (int d = 93; d <= 94; d++) {
            PotBonfire x = burnt(24, alike(4, 52, 30, 96) + "h50,1;d" + d + ",300;" + DRY_POT);
            due("warmth", x.pot(0, 1), 505);
            x.minute(9);
            due("warmth", x.pot(0, 1), 411);
            due("LOSS, D " + d, x.pot(0, 4), d == 93 ? 4 : 0);
            due("colour, D " + d, x.pot(0, 5), d == 93 ? 0 : 1);
        }
    }

    private static void colourByAir() {
        says("comes out BLACK, if its CELL is covered or has FUEL, else RED");
        for (int left = 0; left <= 1; left++) {
            PotBonfire x = burnt(30, alike(1, 40, 1, 49 + left) + CALM + DRY_POT);
            burn(x, 18, 9);
            due("500 or more", x.pot(0, 1) >= 500 ? 1 : 0, 1);
            due("no colour yet", x.pot(0, 5), 0);
            x.minute(9);
            due("below 500", x.pot(0, 1), 489);
            due("FUEL", x.cell(0, 1), left);
            due("bare, with FUEL " + left, x.pot(0, 5), 1 + left);
        }
        PotBonfire covered = burnt(30, alike(1, 40, 1, 40) + CALM + DRY_POT);
        covered.cover(0, true);
        for (int t = 0; t < 99 && covered.pot(0, 1) >= 500; t++) {
            due("no colour yet", covered.pot(0, 5), 0);
            covered.minute(9);
        }
        due("no FUEL is left", covered.cell(0, 1), 0);
        due("covered, without FUEL", covered.pot(0, 5), 2);
        PotBonfire other = burnt(30, alike(1, 40, 1, 49) + CALM + DRY_POT);
        burn(other, 18, 9);
        for (int c = 1; c < 4; c++) other.cover(c, true);
        for (int c = 1; c < 4; c++) other.fuel(c, 9);
        other.minute(9);
        due("other CELLS do not count", other.pot(0, 5), 1);
    }

    private static void losses() {
        says("LOSS of a POT: 0 GOOD (whole, hardened for N MINUTES or more), 5 SOFT (whole, for fewer), 6 taken out");
        PotBonfire x = laid(alike(11, 53, 4, 99) + CALM + "h30,3;" + DRY_POT);
        int[] want = {5, 5, 0, 0};
        for (int t = 0; t < want.length; t++) {
            x.minute(0);
            due("hardened for " + (t + 1) + " of 3", x.pot(0, 4), want[t]);
        }
        due("taken out", x.take(0), 0);
        due("taken out", x.pot(0, 4), 6);
    }

    public static void main(String[] args) {
        fuelBurns();
        heatSpreads();
        heatIsLost();
        heatIsBound();
        cellsAreLit();
        potsWarm();
        potsSplit();
        potsBurst();
        potsDunt();
        firstThatIsSo();
        steam();
        struckByHowLong();
        struckByHowFar();
        struckInPlaceOf();
        colourByHeat();
        colourByAir();
        losses();
        end("a MINUTE is as told at its edges");
    }
}
