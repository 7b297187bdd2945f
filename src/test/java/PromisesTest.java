/** Each promise with answers worked out by hand from the document: ordinary, at the edges, wrong numbers. */
public final class PromisesTest extends HeapTest {
    /** Behind a MINUTE without WIND: HEAT 20 + 583 - 23 = 580, a POT of T 1 is 300 warm. */
    private static final String HOT = LIT + "k0,11,53;l4;d300,300;h30,1;";
    /** Behind a MINUTE without WIND: HEAT 20 + 203 - 2 = 221, a POT of T 1 is 120 warm. */
    private static final String MILD = LIT + "k0,7,29;l1;d300,300;";

    private static void faultDue(String text, int want) {
        due(4, "fault() of " + text, told(text).fault(), want);
    }

    private static void promise1() {
        PotBonfire x = new PotBonfire();
        due(1, "CELLS", x.count(0), 12);
        for (int what = 1; what <= 5; what++) due(1, "count(" + what + ")", x.count(what), 0);
        due(1, "fault()", x.fault(), NONE);
        for (int c = 0; c < 12; c++) {
            due(1, "HEAT of " + c, x.cell(c, 0), 20);
            for (int what = 1; what <= 4; what++) due(1, "cell " + c + ", " + what, x.cell(c, what), 0);
        }
        x.fuel(0, 99);
        x.light(0);
        x.minute(0);
        // 6 thorns of 20 each are 140; 12 go right, 12 go below; 8 hundredths of 96 are lost
        due(1, "HEAT by what is so without ITEMS", x.cell(0, 0), 109);
    }

    private static void promises2and3() {
        PotBonfire x = new PotBonfire();
        due(2, "write(0, 1)", x.write(0, 1), BAD);
        due(2, "write(9, 1)", x.write(9, 1), BAD);
        due(2, "write(-1, 1)", x.write(-1, 1), BAD);
        due(2, "three bytes", x.write(3, 0x7766_6C37_3BL), 3);
        due(2, "the highest of the lowest three first: l7;", x.fault(), NONE);
        due(2, "one more", x.write(1, -1), 4);
        due(2, "a byte of 255 is in THE TEXT", x.fault(), 3);
        due(3, "wipe()", x.wipe(), 4);
        due(3, "wipe() again", x.wipe(), 0);
        due(3, "bytes then", x.count(2), 0);
        for (int i = 1; i <= 62; i++) due(2, "eight bytes", x.write(8, 0x6C373B6C30373BL << 8), 8 * i);
        due(2, "five behind 496", x.write(5, 0), FULL);
        due(2, "BAD ahead of FULL", x.write(9, 0), BAD);
        due(2, "nothing came", x.count(2), 496);
        due(2, "four behind 496", x.write(4, 0), 500);
        due(2, "one behind 500", x.write(1, 0), FULL);
        due(3, "wipe() of 500", x.wipe(), 500);
    }

    private static void promise4() {
        String[] good = {"", "w2,2;", "w6,5;", "c0,0,0,0;", "c5,4,2,199;", "o0,0;", "o5,4;", "s0,0;", "s5,4;",
            "p0,0,1,0,0,1;", "p5,4,9,99,9,99;", "k0,1,1;", "k2,20,60;", "l1;", "l30;", "h30,1;", "h99,60;", "d10,10;",
            "d300,300;", "v0;", "v9;", "l001;", "l030;v000;", "w2,2;w6,5;w2,2;", "p0,0,1,1,1,1;p0,0,1,1,1,1;"};
        for (String text : good) faultDue(text, NONE);
        String[] bad = {"w1,2;", "w7,2;", "w2,1;", "w2,6;", "c6,0,0,0;", "c0,5,0,0;", "c0,0,3,0;", "c0,0,0,200;", "o6,0;",
            "o0,5;", "s6,0;", "s0,5;", "p6,0,1,0,0,1;", "p0,5,1,0,0,1;", "p0,0,0,0,0,1;", "p0,0,10,0,0,1;",
            "p0,0,1,100,0,1;", "p0,0,1,0,10,1;", "p0,0,1,0,0,0;", "p0,0,1,0,0,100;", "k3,1,1;", "k0,0,1;", "k0,21,1;",
            "k0,1,0;", "k0,1,61;", "l0;", "l31;", "h29,1;", "h100,1;", "h30,0;", "h30,61;", "d9,10;", "d301,10;", "d10,9;",
            "d10,301;", "v10;", "l0001;", "l;", "l1", "l", "l1,;", "l1,1;", "w2;", "w2,2,2;", "w,2;", "w2,;", "w2;2;",
            "l-1;", "l 1;", "L1;", "a1;", ";", "1;", " ", "p0,0,1,0,0;", "h30,1,", "w2,2", "c0,0,0,1", "l1:"};
        for (String text : bad) {
            faultDue(text, 0);
            faultDue("v0;" + text, 3);
            faultDue(text + "w2,2;", 0);
        }
        StringBuilder pots = new StringBuilder();
        for (int i = 0; i < 6; i++) pots.append("p0,0,1,0,0,1;");
        faultDue(pots.toString(), NONE);
        faultDue(pots + "v1;p0,0,1,0,0,1;", 6 * 13 + 3);
        StringBuilder longest = new StringBuilder();
        for (int i = 0; i < 166; i++) longest.append("l7;");
        faultDue(longest + "l7", 498);
        faultDue(longest + "l,", 498);
        faultDue(longest + "l", 498);
        faultDue(longest.substring(3) + "w2,2;", NONE);
        faultDue(longest.substring(3) + "v0001", 495);
        PotBonfire x = laid("w3,2;");
        tell(x, "w2,2;x");
        due(4, "fault()", x.fault(), 5);
        due(4, "fault() lays nothing", x.count(0), 6);
    }

    private static void promise5() {
        PotBonfire x = laid("w2,5;c0,4,2,7;w3,2;p2,1,4,5,6,7;c2,1,1,9;c2,1,2,8;o2,1;s0,1;");
        due(5, "CELLS by the last w", x.count(0), 6);
        due(5, "the last c of a CELL: FUEL", x.cell(5, 1), 8);
        due(5, "the last c of a CELL: KIND", x.cell(5, 2), 2);
        due(5, "lit", x.cell(5, 3), 1);
        due(5, "covered", x.cell(3, 4), 1);
        due(5, "its POT", x.cell(5, 5), 0);
        x.spot(1);
        x.keep();
        x.minute(0);
        String[] wrongTexts = {"x", "w2,2;p2,0,1,1,1,1;", "w2,2;p0,2,1,1,1,1;", "p0,0,1,1,1,1;p1,0,1,1,1,1;p0,0,2,2,2,2;",
            "p4,0,1,1,1,1;", "p0,3,1,1,1,1;"};
        for (String text : wrongTexts) {
            tell(x, text);
            due(5, "lay() of " + text, x.lay(), NO);
            due(5, "nothing changes: CELLS", x.count(0), 6);
            due(5, "nothing changes: POTS", x.count(1), 1);
            due(5, "nothing changes: MINUTES", x.count(3), 1);
            due(5, "nothing changes: SPOTS", x.count(4), 1);
            due(5, "nothing changes: KEPT", x.count(5), 1);
            due(5, "nothing changes: POT 0", x.pot(0, 0), 5);
        }
        tell(x, "w6,5;p5,4,1,1,1,1;");
        due(5, "lay()", x.lay(), 30);
        due(5, "POT in the last CELL", x.pot(0, 0), 29);
        for (int c = 0; c < 30; c++) {
            due(5, "what was there is gone", x.cell(c, 1) + x.cell(c, 2) + x.cell(c, 3) + x.cell(c, 4), 0);
        }
        due(5, "MINUTE 0", x.count(3), 0);
        due(5, "no SPOTS", x.count(4), 0);
        due(5, "nothing KEPT", x.count(5), 0);
        due(5, "THE TEXT stays", x.count(2), 18);
        due(5, "back()", x.back(), NO);
        due(5, "it can be laid again", x.lay(), 30);
        tell(x, "w2,2;k0,1,1;k1,1,1;k2,1,1;l30;h30,1;d10,10;v9;");
        x.lay();
        tell(x, "c0,0,0,99;o0,0;");
        due(5, "4 by 3 again without w", x.lay(), 12);
        x.minute(0);
        due(5, "what is so without ITEMS again", x.cell(0, 0), 109);
        // beyond the HEAP: told, but counted nowhere
        due(5, "lay() with CELLS beyond", laid("w2,2;c5,4,0,9;o2,0;s0,2;").lay(), 4);
    }

    private static void promises6and7() {
        PotBonfire x = laid("w3,2;c1,1,2,77;o1,1;s1,1;p1,1,3,44,5,66;p0,0,1,2,3,4;");
        int[] want = {20, 77, 2, 1, 1, 0};
        for (int what = 0; what <= 5; what++) due(6, "cell(4, " + what + ")", x.cell(4, what), want[what]);
        due(6, "no POT in it", x.cell(1, 5), NONE);
        due(6, "POT 1", x.cell(0, 5), 1);
        due(6, "cell(6, 0)", x.cell(6, 0), BAD);
        due(6, "cell(-1, 0)", x.cell(-1, 0), BAD);
        due(6, "cell(0, 6)", x.cell(0, 6), BAD);
        due(6, "cell(0, -1)", x.cell(0, -1), BAD);
        int[] wantPot = {4, 20, 44, 0, 5, 0};
        for (int what = 0; what <= 5; what++) due(7, "pot(0, " + what + ")", x.pot(0, what), wantPot[what]);
        due(7, "pot(2, 0)", x.pot(2, 0), BAD);
        due(7, "pot(-1, 0)", x.pot(-1, 0), BAD);
        due(7, "pot(0, 6)", x.pot(0, 6), BAD);
        due(7, "pot(0, -1)", x.pot(0, -1), BAD);
        x.take(1);
        due(6, "only a whole POT is in a CELL", x.cell(0, 5), NONE);
        due(7, "taken out", x.pot(1, 4), 6);
        due(7, "it still has a CELL", x.pot(1, 0), 0);
    }

    private static void promise8Cells() {
        PotBonfire x = laid("w2,2;c0,0,0,10;o0,0;");
        due(8, "minute(10)", x.minute(10), BAD);
        due(8, "minute(-1)", x.minute(-1), BAD);
        due(8, "no MINUTE went by", x.count(3), 0);
        due(8, "minute(0)", x.minute(0), 0);
        int[] first = {109, 32, 32, 20};
        for (int c = 0; c < 4; c++) due(8, "HEAT of " + c + " behind 1", x.cell(c, 0), first[c]);
        due(8, "FUEL", x.cell(0, 1), 4);
        x.minute(2);
        int[] second = {146, 44, 44, 22};
        for (int c = 0; c < 4; c++) due(8, "HEAT of " + c + " behind 2", x.cell(c, 0), second[c]);
        due(8, "FUEL, no more than there is", x.cell(0, 1), 0);
        due(8, "MINUTES", x.count(3), 2);
        PotBonfire half = burnt(1, LIT + "s0,0;" + fuels(0, 50));
        due(8, "bare: 140 less 9", half.cell(1, 0), 131);
        due(8, "covered: 140 less 4", half.cell(0, 0), 136);
        due(8, "2 dung of 40", burnt(1, LIT + fuels(1, 50)).cell(0, 0), 94);
        due(8, "15 straw of 8", burnt(1, LIT + fuels(2, 50)).cell(0, 1), 35);
        PotBonfire most = burnt(9, LIT + "k0,20,60;l1;" + fuels(0, 199));
        due(8, "3000 at most", most.cell(3, 0), 3000);
        // 92 come to the last CELL from two sides, a covered one loses 4 or 5 of 184
        String edge = "w2,2;k0,20,46;c0,0,0,199;c1,0,0,199;c0,1,0,199;o0,0;o1,0;o0,1;s1,1;";
        due(8, "HEAT 200", burnt(1, edge + "l5;").cell(3, 0), 200);
        due(8, "lit by 200", burnt(1, edge + "l5;").cell(3, 3), 1);
        due(8, "HEAT 199", burnt(1, edge + "l6;").cell(3, 0), 199);
        due(8, "not lit by 199", burnt(1, edge + "l6;").cell(3, 3), 0);
    }

    private static void promise8Pots() {
        String mild = MILD + fuels(0, 199);
        due(8, "warmth of T 1", burnt(1, mild + "p0,0,1,0,0,1;").pot(0, 1), 120);
        due(8, "warmth of T 2", burnt(1, mild + "p0,0,2,0,0,1;").pot(0, 1), 87);
        due(8, "warmth of T 9", burnt(1, mild + "p0,0,9,0,0,1;").pot(0, 1), 40);
        due(8, "100 is not above 10 U", burnt(1, mild + "d10,10;p0,0,1,0,0,1;").pot(0, 4), 5);
        due(8, "101 is above 10 U", burnt(1, mild + "d10,10;k0,4,51;p0,0,1,0,0,1;").pot(0, 4), 3);
        due(8, "67 times T is above 10 U", burnt(1, mild + "d10,10;p0,0,2,0,0,1;").pot(0, 4), 3);
        due(8, "20 is not above S", burnt(1, mild + "p0,0,1,10,0,20;").pot(0, 4), 5);
        due(8, "20 is above S", burnt(1, mild + "p0,0,1,10,0,19;").pot(0, 4), 1);
        due(8, "6 by GRIT, cut", burnt(1, mild + "p0,0,1,10,2,6;").pot(0, 4), 5);
        due(8, "6 is above S", burnt(1, mild + "p0,0,1,10,2,5;").pot(0, 4), 1);
        due(8, "it SPLITS ahead of BURSTING", burnt(1, mild + "d10,10;k0,4,51;p0,0,1,10,0,1;").pot(0, 4), 3);
        due(8, "6 of WATER go", burnt(1, mild + "p0,0,1,99,9,99;").pot(0, 2), 93);
        due(8, "no more than there is", burnt(1, mild + "p0,0,1,4,9,99;").pot(0, 2), 0);
        due(8, "none up to 60 warm", burnt(1, mild + "p0,0,9,99,9,99;").pot(0, 2), 99);
        due(8, "a BURST one keeps its WATER", burnt(1, mild + "p0,0,1,99,9,1;").pot(0, 2), 99);
        String hot = HOT + fuels(0, 199);
        due(8, "300 warm hardens", burnt(1, hot + "p0,0,1,0,0,1;").pot(0, 3), 1);
        due(8, "298 warm does not", burnt(1, hot + "k0,10,58;p0,0,1,0,0,1;").pot(0, 3), 0);
        due(8, "GOOD by N", burnt(1, hot + "p0,0,1,0,0,1;").pot(0, 4), 0);
        due(8, "SOFT below N", burnt(1, hot + "h30,2;p0,0,1,0,0,1;").pot(0, 4), 5);
        due(8, "how many are whole", laid(hot + "p0,0,1,9,0,1;p1,0,1,0,0,1;").minute(0), 1);
    }

    private static void promise8Struck() {
        StringBuilder row = new StringBuilder("w4,2;k0,11,53;l4;d300,300;");
        for (int x = 0; x < 4; x++) {
            for (int y = 0; y < 2; y++) row.append("c" + x + "," + y + ",0,99;o" + x + "," + y + ";");
        }
        String pots = "p0,0,1,1,0,19;p1,0,1,0,0,1;p1,1,9,0,0,1;p2,0,9,0,0,1;p0,1,9,0,0,1;";
        PotBonfire x = laid(row + pots + "h30,1;");
        due(8, "whole ones", x.minute(0), 2);
        due(8, "BURST", x.pot(0, 4), 1);
        due(8, "hardened, so not STRUCK", x.pot(1, 4), 0);
        due(8, "STRUCK slantwise", x.pot(2, 4), 2);
        due(8, "two off, so not STRUCK", x.pot(3, 4), 5);
        due(8, "STRUCK from above", x.pot(4, 4), 2);
        due(8, "only in that MINUTE", x.minute(0), 2);
        due(8, "hardened for too short", burnt(1, row + pots + "h30,2;").pot(1, 4), 2);
        // CELL 3 and CELL 4 follow each other, but are far off in X
        due(8, "the rows do not join", burnt(1, row + "p3,0,1,1,0,19;p0,1,9,0,0,1;").pot(1, 4), 5);
    }

    private static void promise8Cooling() {
        String once = HOT + fuels(0, 11) + "p0,0,1,0,0,1;";
        int[] warmth = {300, 404, 424, 407};
        PotBonfire x = laid(once + "d17,300;");
        PotBonfire dunted = laid(once + "d16,300;");
        PotBonfire raw = laid(once + "d16,300;h99,1;");
        for (int t = 0; t < 4; t++) {
            int wind = t == 0 ? 0 : 9;
            x.minute(wind);
            dunted.minute(wind);
            raw.minute(wind);
            due(8, "warmth behind MINUTE " + t, x.pot(0, 1), warmth[t]);
        }
        due(8, "17 is not more than D", x.pot(0, 4), 0);
        due(8, "17 is more than D", dunted.pot(0, 4), 4);
        due(8, "it had not hardened", raw.pot(0, 4), 5);
        due(8, "it does not harden as it DUNTS", dunted.pot(0, 3), 3);
        String colour = LIT + "k0,20,60;l30;d300,300;h99,1;" + fuels(0, 40) + "p0,0,1,0,0,1;";
        int[] cooling = {440, 944, 918, 735, 540, 380};
        PotBonfire red = laid(colour);
        PotBonfire black = laid(colour);
        for (int t = 0; t < 6; t++) {
            due(8, "no colour ahead of MINUTE " + t, red.pot(0, 5), 0);
            if (t == 5) black.cover(0, true);
            red.minute(t < 2 ? 0 : 9);
            black.minute(t < 2 ? 0 : 9);
            due(8, "warmth as it cools, " + t, red.pot(0, 1), cooling[t]);
        }
        due(8, "RED", red.pot(0, 5), 1);
        due(8, "BLACK below sherds", black.pot(0, 5), 2);
        red.cover(0, true);
        red.minute(0);
        due(8, "a colour stays", red.pot(0, 5), 1);
        // thorn gives little here: 1 of 1 a MINUTE, so FUEL is still there as the POT cools
        PotBonfire smoke = laid("w2,2;k0,1,1;k1,20,60;l30;d300,300;o0,0;o1,0;o0,1;c0,0,0,199;c1,0,1,199;c0,1,1,199;"
            + "p0,0,1,0,0,1;");
        int top = 0;
        for (int t = 0; t < 40; t++) {
            smoke.minute(0);
            top = Math.max(top, smoke.pot(0, 1));
        }
        due(8, "it was 500 warm", top >= 500 ? 1 : 0, 1);
        due(8, "FUEL is left", smoke.cell(0, 1), 159);
        due(8, "BLACK by FUEL", smoke.pot(0, 5), 2);
    }

    private static void promise8Edges() {
        String pot = "p0,0,3,0,0,1;";
        PotBonfire red = laid(LIT + "k0,9,18;l23;d300,300;" + fuels(0, 123) + pot);
        due(8, "500 warm at most", warmest(red, 20), 500);
        due(8, "a colour by 500", red.pot(0, 5), 1);
        PotBonfire pale = laid(LIT + "k0,4,38;l17;d300,300;" + fuels(0, 36) + pot);
        due(8, "499 warm at most", warmest(pale, 20), 499);
        due(8, "no colour by 499", pale.pot(0, 5), 0);
        PotBonfire late = burnt(32, LIT + "k0,9,39;l7;d300,300;" + fuels(0, 78) + "p0,0,2,0,0,1;");
        due(8, "500 warm as it cools", late.pot(0, 1), 500);
        due(8, "500 is not below 500", late.pot(0, 5), 0);
        late.minute(0);
        due(8, "467 is", late.pot(0, 5), 1);
        for (int left = 0; left <= 1; left++) {
            PotBonfire x = burnt(30, LIT + "k0,1,40;l1;d300,300;" + fuels(0, 49 + left) + "p0,0,1,0,0,1;");
            for (int t = 30; t < 49; t++) x.minute(9);
            due(8, "warmth", x.pot(0, 1), 489);
            due(8, "FUEL that is left", x.cell(0, 1), left);
            due(8, "RED without, BLACK by 1 of FUEL", x.pot(0, 5), 1 + left);
        }
        // cooled by 61 in MINUTE 10; 60 would be D without an ITEM
        String dunting = LIT + "k0,14,43;l12;h50,1;" + fuels(0, 45) + pot;
        due(8, "61 is more than 60", burnt(11, dunting).pot(0, 4), 4);
        due(8, "61 is not more than 61", burnt(11, dunting + "d61,90;").pot(0, 4), 0);
        String once = LIT + "k0,17,52;l17;h84,1;" + fuels(0, 34) + "p0,0,2,0,0,1;";
        due(8, "hardened for 1 MINUTE", burnt(6, once).pot(0, 3), 1);
        due(8, "DUNTED by that", burnt(7, once).pot(0, 4), 4);
        String quick = LIT + fuels(0, 99) + "p0,0,5,0,0,1;";
        due(8, "181 times 5 is above 900", burnt(1, quick + "k0,20,59;").pot(0, 4), 3);
        due(8, "178 times 5 is not", burnt(1, quick + "k0,20,58;").pot(0, 4), 5);
    }

    private static void promises9to11() {
        PotBonfire x = laid("w2,2;c0,0,2,199;");
        due(9, "fuel(0, 0)", x.fuel(0, 0), BAD);
        due(9, "fuel(0, 100)", x.fuel(0, 100), BAD);
        due(9, "fuel(4, 1)", x.fuel(4, 1), BAD);
        due(9, "fuel(-1, 1)", x.fuel(-1, 1), BAD);
        for (int i = 1; i <= 8; i++) due(9, "fuel(0, 99)", x.fuel(0, 99), 199 + 99 * i);
        due(9, "to 1000", x.fuel(0, 9), NO);
        due(9, "to 999", x.fuel(0, 8), 999);
        due(9, "above 999", x.fuel(0, 1), NO);
        due(9, "BAD ahead of NO", x.fuel(0, 100), BAD);
        due(9, "FUEL stays", x.cell(0, 1), 999);
        due(9, "KIND stays", x.cell(0, 2), 2);
        due(9, "another CELL", x.fuel(3, 1), 1);
        due(10, "cover(3, true)", x.cover(3, true), 0);
        due(10, "covered", x.cell(3, 4), 1);
        due(10, "cover(3, true) again", x.cover(3, true), 1);
        due(10, "cover(3, false)", x.cover(3, false), 1);
        due(10, "bared", x.cell(3, 4), 0);
        due(10, "cover(3, false) again", x.cover(3, false), 0);
        due(10, "cover(4, true)", x.cover(4, true), BAD);
        due(10, "cover(-1, true)", x.cover(-1, true), BAD);
        due(11, "light(1)", x.light(1), 0);
        due(11, "lit", x.cell(1, 3), 1);
        due(11, "light(1) again", x.light(1), 1);
        due(11, "light(4)", x.light(4), BAD);
        due(11, "light(-1)", x.light(-1), BAD);
    }

    private static void promises12and13() {
        PotBonfire x = burnt(1, HOT + fuels(0, 11) + "p0,0,1,0,0,1;p1,0,9,20,4,99;p0,1,1,90,0,1;");
        due(12, "take(3)", x.take(3), BAD);
        due(12, "take(-1)", x.take(-1), BAD);
        due(12, "a BURST one", x.take(2), NO);
        due(12, "it stays BURST", x.pot(2, 4), 1);
        due(12, "a GOOD one", x.take(0), 0);
        due(12, "taken out", x.pot(0, 4), 6);
        due(12, "again", x.take(0), NO);
        due(12, "a taken one does not warm", x.minute(0), 0);
        due(12, "its warmth", x.pot(0, 1), 300);
        PotBonfire y = laid(HOT + "p0,0,1,20,4,99;p1,0,9,50,9,99;p1,1,1,7,0,1;");
        due(13, "dry(0)", y.dry(0), BAD);
        due(13, "dry(241)", y.dry(241), BAD);
        due(12, "a SOFT one", y.take(2), 5);
        // 3 times 5 by 4 are 3, 3 times 10 by 4 are 7; a POT that is taken out does not dry
        due(13, "dry(3)", y.dry(3), 17 + 43 + 7);
        due(13, "WATER of POT 0", y.pot(0, 2), 17);
        due(13, "WATER of POT 1", y.pot(1, 2), 43);
        due(13, "no MINUTE goes by", y.count(3), 0);
        due(13, "dry(240)", y.dry(240), 7);
        due(13, "dry(1)", laid("p0,0,1,9,2,9;").dry(1), 9);
        due(13, "dry(1) by 4", laid("p0,0,1,9,3,9;").dry(1), 8);
    }

    private static void promises14and15() {
        PotBonfire x = laid(HOT + fuels(0, 11) + "p0,0,1,0,0,1;p1,0,9,20,4,99;p0,1,1,90,0,1;p1,1,1,0,0,1;");
        x.take(3);
        due(14, "GOOD behind 0", x.run(0, 0, 0), 0);
        due(14, "lost behind 0", x.run(0, 0, 1), 0);
        due(14, "GOOD behind 1", x.run(1, 0, 0), 1);
        due(14, "BURST, STRUCK", x.run(1, 0, 1), 2);
        due(14, "GOOD behind 1 in WIND", x.run(1, 1, 0), 0);
        due(14, "GOOD behind 240", x.run(240, 0, 0), 1);
        int[][] bad = {{-1, 0, 0}, {241, 0, 0}, {0, -1, 0}, {0, 10, 0}, {0, 0, -1}, {0, 0, 2}};
        for (int[] b : bad) due(14, "a wrong number", x.run(b[0], b[1], b[2]), BAD);
        due(15, "LOSS", x.of(1, 0, 2, 0), 1);
        due(15, "the greatest HEAT behind 0", x.of(0, 0, 0, 1), 20);
        due(15, "the greatest HEAT", x.of(5, 0, 0, 1), 580);
        due(15, "of a BURST one, too", x.of(5, 0, 2, 1), 580);
        due(15, "how long it hardened", x.of(2, 0, 0, 3), 2);
        due(15, "LOSS of a taken one", x.of(9, 0, 3, 0), 6);
        int[][] badOf = {{-1, 0, 0, 0}, {241, 0, 0, 0}, {0, -1, 0, 0}, {0, 10, 0, 0}, {0, 0, -1, 0}, {0, 0, 4, 0},
            {0, 0, 0, -1}, {0, 0, 0, 4}};
        for (int[] b : badOf) due(15, "a wrong number", x.of(b[0], b[1], b[2], b[3]), BAD);
        due(14, "all is as it was: HEAT", x.cell(0, 0), 20);
        due(14, "all is as it was: FUEL", x.cell(0, 1), 11);
        due(14, "all is as it was: warmth", x.pot(0, 1), 20);
        due(14, "all is as it was: MINUTES", x.count(3), 0);
        x.minute(0);
        due(15, "the greatest HEAT is that of now", x.of(5, 9, 0, 1), 580);
        due(15, "it hardened in all", x.of(1, 9, 0, 3), 2);
        due(14, "those lost ahead of it count", x.run(0, 0, 1), 2);
        String cooling = LIT + "k0,20,60;l30;d300,300;h99,1;" + fuels(0, 40) + "p0,0,1,0,0,1;";
        due(15, "RED", laid(cooling).of(20, 0, 0, 2), 1);
        due(15, "no colour yet", laid(cooling).of(2, 0, 0, 2), 0);
    }

    private static void promises16to18() {
        PotBonfire x = laid(MILD + fuels(0, 7) + "p0,0,1,10,0,19;");
        due(16, "1 of WATER must go", x.drying(1, 0), 4);
        due(16, "no MINUTE", x.drying(0, 0), 0);
        due(16, "WATER stays", x.pot(0, 2), 10);
        due(16, "none", laid(MILD + fuels(0, 7) + "p0,0,1,99,0,1;").drying(1, 0), NONE);
        // 2 Q may be 78 at most: 60 of 99 must go, by 240 MINUTES
        due(16, "240 at most", laid(MILD + fuels(0, 7) + "p0,0,1,99,0,78;").drying(1, 0), 240);
        due(16, "BAD", x.drying(241, 0), BAD);
        due(16, "BAD", x.drying(-1, 0), BAD);
        due(16, "BAD", x.drying(0, 10), BAD);
        due(16, "BAD", x.drying(0, -1), BAD);
        x.minute(0);
        due(16, "what BURST ahead of the RUN does not count", x.drying(9, 0), 0);
        // 200 by (G and 1) must be 50 at most
        PotBonfire y = laid(HOT + fuels(0, 11) + "p0,0,1,10,0,50;p1,1,9,0,0,1;");
        due(17, "the least GRIT", y.grit(0, 1, 0), 3);
        due(17, "SOFT by any", y.grit(1, 1, 0), NONE);
        due(17, "none", laid(HOT + fuels(0, 11) + "p0,0,1,10,0,19;").grit(0, 1, 0), NONE);
        due(17, "the greatest GRIT", laid(HOT + fuels(0, 11) + "p0,0,1,10,0,20;").grit(0, 1, 0), 9);
        due(17, "a dry one", laid(HOT + fuels(0, 11) + "p0,0,1,0,7,19;").grit(0, 1, 0), 0);
        due(17, "its own stays", y.run(1, 0, 1), 2);
        int[][] bad = {{-1, 0, 0}, {2, 0, 0}, {0, -1, 0}, {0, 241, 0}, {0, 0, -1}, {0, 0, 10}};
        for (int[] b : bad) due(17, "a wrong number", y.grit(b[0], b[1], b[2]), BAD);
        PotBonfire z = laid(HOT + fuels(0, 6) + "p0,0,1,0,0,1;");
        due(18, "11 of 6", z.enough(1, 1, 0), 190);
        due(18, "for 2", z.enough(2, 1, 0), NONE);
        due(18, "for 6", z.enough(6, 1, 0), NONE);
        due(18, "FUEL stays", z.cell(0, 1), 6);
        due(18, "10 of 5", laid(HOT + fuels(0, 5) + "p0,0,1,0,0,1;").enough(1, 1, 0), NONE);
        due(18, "11 of 110", laid(HOT + fuels(0, 110) + "p0,0,1,0,0,1;").enough(1, 1, 0), 10);
        int[][] badEnough = {{0, 0, 0}, {7, 0, 0}, {1, -1, 0}, {1, 241, 0}, {1, 0, -1}, {1, 0, 10}};
        for (int[] b : badEnough) due(18, "a wrong number", z.enough(b[0], b[1], b[2]), BAD);
    }

    private static void promises19to21() {
        PotBonfire x = laid("k0,20,60;c0,0,0,99;o0,0;h30,1;p3,2,1,0,0,1;p2,2,1,0,0,1;");
        due(19, "spot(12)", x.spot(12), BAD);
        due(19, "spot(-1)", x.spot(-1), BAD);
        due(21, "no SPOT", x.lies(1, 1, 0, -1), NONE);
        due(19, "spot(5)", x.spot(5), 1);
        due(21, "too few SPOTS", x.lies(2, 1, 0, -1), NONE);
        due(19, "spot(5) again", x.spot(5), NO);
        due(19, "spot(1)", x.spot(1), 2);
        due(19, "spot(0)", x.spot(0), 3);
        // CELL 0 alone is hot enough: 904
        due(21, "GOOD ones", x.lies(1, 1, 0, -1), 1);
        due(21, "the SPOT of POT 0", x.lies(1, 1, 0, 0), 2);
        due(21, "GOOD ones of two", x.lies(2, 1, 0, -1), 1);
        due(21, "the first way: POT 0", x.lies(2, 1, 0, 0), 0);
        due(21, "the first way: POT 1", x.lies(2, 1, 0, 1), 2);
        due(21, "all alike: none GOOD", x.lies(2, 0, 0, -1), 0);
        due(21, "all alike: POT 1", x.lies(2, 0, 0, 1), 1);
        due(21, "they lie as they lay", x.pot(0, 0), 11);
        int[][] bad = {{0, 1, 0, -1}, {3, 1, 0, -1}, {5, 1, 0, -1}, {1, -1, 0, -1}, {1, 241, 0, -1}, {1, 1, -1, -1},
            {1, 1, 10, -1}, {1, 1, 0, -2}, {1, 1, 0, 1}, {2, 1, 0, 2}};
        for (int[] b : bad) due(21, "a wrong number", x.lies(b[0], b[1], b[2], b[3]), BAD);
        due(19, "spot(2)", x.spot(2), 4);
        due(19, "spot(3)", x.spot(3), 5);
        due(19, "spot(11)", x.spot(11), 6);
        due(19, "a seventh", x.spot(10), FULL);
        due(19, "NO ahead of FULL", x.spot(3), NO);
        due(19, "BAD ahead of FULL", x.spot(99), BAD);
        due(20, "noSpots()", x.noSpots(), 6);
        due(20, "noSpots() again", x.noSpots(), 0);
        due(20, "SPOTS", x.count(4), 0);
        due(21, "BAD ahead of NONE", x.lies(1, 241, 0, -1), BAD);
        x.spot(10);
        due(21, "the CELL of the other POT", x.lies(1, 1, 0, -1), NONE);
        x.spot(11);
        due(21, "its own CELL", x.lies(1, 1, 0, 0), 1);
        due(21, "change of places", x.lies(2, 1, 0, 0), 0);
        PotBonfire four = laid("p0,0,1,0,0,1;p1,0,1,0,0,1;p2,0,1,0,0,1;p3,0,1,0,0,1;p0,1,1,0,0,1;");
        for (int c = 8; c < 12; c++) four.spot(c);
        due(21, "four", four.lies(4, 3, 0, 3), 3);
        due(21, "five", four.lies(5, 3, 0, 3), BAD);
    }

    private static void promises22and23() {
        PotBonfire x = laid(HOT + fuels(0, 199) + "p0,0,1,0,0,1;");
        due(22, "behind all of it", x.rake(1, 0), 1);
        due(22, "behind 1", x.rake(3, 0), 1);
        due(22, "no MINUTE", x.rake(0, 0), 0);
        due(22, "FUEL stays", x.cell(0, 1), 199);
        due(22, "none is GOOD anyhow", laid(HOT + "p0,0,1,0,0,1;").rake(9, 0), 0);
        int[][] bad = {{-1, 0}, {241, 0}, {0, -1}, {0, 10}};
        for (int[] b : bad) due(22, "a wrong number", x.rake(b[0], b[1]), BAD);
        PotBonfire y = burnt(2, LIT + "k0,20,60;l30;d300,300;h50,1;" + fuels(0, 40) + "p0,0,1,0,0,1;p1,1,9,0,0,1;");
        due(23, "covered at once", y.black(0, 8, 0), 0);
        due(23, "covered behind 1", y.black(0, 7, 0), 1);
        due(23, "covered behind 3", y.black(0, 5, 0), 3);
        due(23, "too short", y.black(0, 4, 0), NONE);
        y.take(1);
        due(23, "a POT that is not whole", y.black(1, 8, 0), NONE);
        due(23, "it is bare as it was", y.cell(0, 4), 0);
        y.cover(0, true);
        for (int t = 0; t < 20; t++) y.minute(0);
        due(23, "it is BLACK and GOOD", y.black(0, 0, 0), 0);
        int[][] badBlack = {{-1, 0, 0}, {2, 0, 0}, {0, -1, 0}, {0, 241, 0}, {0, 0, -1}, {0, 0, 10}};
        for (int[] b : badBlack) due(23, "a wrong number", y.black(b[0], b[1], b[2]), BAD);
    }

    private static void promises24to26() {
        // one MINUTE without WIND makes POT 0 GOOD, with WIND 1 it does not
        String hot = HOT + fuels(0, 11) + "p0,0,1,0,0,1;";
        PotBonfire x = laid(hot + "v1;");
        due(24, "x is 1: WIND 1", x.evening(0, 1), 0);
        due(24, "WIND 0", x.evening(3, 1), 1);
        due(24, "no WIND at all", laid(hot).evening(0, 1), 1);
        tell(x, hot);
        x.lay();
        due(24, "no WIND again without v", x.evening(0, 1), 1);
        tell(x, hot + "v1;");
        x.lay();
        due(24, "all is as it was", x.count(3) + x.pot(0, 3), 0);
        int[][] bad = {{-1, 0}, {10000, 0}, {0, -1}, {0, 241}};
        for (int[] b : bad) due(24, "a wrong number", x.evening(b[0], b[1]), BAD);
        due(25, "of ten", x.ten(0, 1, 0), 3);
        due(25, "of ten, modulo 10000", x.ten(9995, 1, 0), 4);
        due(25, "no MINUTE", x.ten(9999, 0, 0), 0);
        due(25, "all ten", laid(hot).ten(9999, 1, 0), 10);
        int[][] badTen = {{-1, 0, 0}, {10000, 0, 0}, {0, -1, 0}, {0, 241, 0}, {0, 0, -1}, {0, 0, 1}};
        for (int[] b : badTen) due(25, "a wrong number", x.ten(b[0], b[1], b[2]), BAD);
        // it is 120 warm behind the only MINUTE with FUEL: 10 of WATER and more BURST it
        PotBonfire y = laid(MILD + fuels(0, 7) + "p0,0,1,55,0,19;");
        int[] burst = {72, 10, 90, 30, 240};
        int[] soft = {8, 0, 0, 30, 240};
        for (int what = 0; what <= 4; what++) {
            due(26, "BURST, " + what, y.sherd(0, 1, 0, what), burst[what]);
            due(26, "SOFT, " + what, y.sherd(0, 5, 0, what), soft[what]);
            due(26, "GOOD and RED, " + what, y.sherd(0, 0, 1, what), what == 0 ? 0 : NONE);
        }
        due(26, "WATER stays", y.pot(0, 2), 55);
        int[][] badSherd = {{-1, 0, 0, 0}, {1, 0, 0, 0}, {0, -1, 0, 0}, {0, 6, 0, 0}, {0, 0, -1, 0}, {0, 0, 3, 0},
            {0, 0, 0, -1}, {0, 0, 0, 5}};
        for (int[] b : badSherd) due(26, "a wrong number", y.sherd(b[0], b[1], b[2], b[3]), BAD);
    }

    private static void promises27to29() {
        PotBonfire x = laid(HOT + fuels(0, 99) + "p0,0,1,9,9,99;");
        due(28, "back() with nothing KEPT", x.back(), NO);
        due(27, "keep()", x.keep(), 1);
        x.spot(2);
        x.minute(0);
        x.cover(0, true);
        due(27, "keep() again", x.keep(), 2);
        due(27, "a third", x.keep(), FULL);
        x.minute(0);
        x.take(0);
        x.fuel(1, 5);
        due(28, "back()", x.back(), 1);
        due(28, "MINUTES", x.count(3), 1);
        due(28, "covered", x.cell(0, 4), 1);
        due(28, "POT 0", x.pot(0, 4), 0);
        due(28, "its warmth", x.pot(0, 1), 300);
        due(28, "FUEL", x.cell(1, 1), 88);
        due(28, "HEAT", x.cell(1, 0), 580);
        due(28, "SPOTS are no part of the HEAP", x.count(4), 1);
        due(29, "KEPT", x.count(5), 1);
        due(28, "back() again", x.back(), 0);
        due(28, "MINUTES", x.count(3), 0);
        due(28, "bare", x.cell(0, 4), 0);
        due(28, "WATER", x.pot(0, 2), 9);
        due(28, "FUEL", x.cell(1, 1), 99);
        due(28, "no more", x.back(), NO);
        due(27, "there is room again", x.keep(), 1);
        due(29, "count(-1)", x.count(-1), BAD);
        due(29, "count(6)", x.count(6), BAD);
        PotBonfire y = laid("w6,5;p0,0,1,0,0,1;p1,0,1,0,0,1;");
        y.minute(0);
        y.minute(0);
        y.minute(0);
        y.spot(0);
        y.spot(1);
        y.spot(2);
        y.spot(3);
        y.keep();
        int[] want = {30, 2, 31, 3, 4, 1};
        for (int what = 0; what <= 5; what++) due(29, "count(" + what + ")", y.count(what), want[what]);
    }

    /** A colour needs 500 warm behind an earlier MINUTE, which is KEPT too. */
    private static void keptHeat() {
        PotBonfire x = burnt(2, LIT + "k0,20,60;l30;d300,300;h99,1;" + fuels(0, 40) + "p0,0,1,0,0,1;");
        x.keep();
        for (int t = 0; t < 9; t++) x.minute(0);
        due(28, "RED ahead of back()", x.pot(0, 5), 1);
        x.back();
        due(28, "no colour behind back()", x.pot(0, 5), 0);
        due(28, "RED in a RUN behind back()", x.of(9, 0, 0, 2), 1);
    }

    public static void main(String[] args) {
        promise1();
        promises2and3();
        promise4();
        promise5();
        promises6and7();
        promise8Cells();
        promise8Pots();
        promise8Struck();
        promise8Cooling();
        promise8Edges();
        promises9to11();
        promises12and13();
        promises14and15();
        promises16to18();
        promises19to21();
        promises22and23();
        promises24to26();
        promises27to29();
        keptHeat();
        end("all promises are kept");
    }
}
