/** Section 1 of the document, sentence by sentence: TEXTS at their edges, and HEAPS that they lay. */
public final class TextEdgesTest extends HeapTest {
    private static final String LETTERS = "wcospklhdv";
    /** Least and most of each number, by letter. */
    private static final int[][] BOUNDS = {{2, 6, 2, 5}, {0, 5, 0, 4, 0, 2, 0, 199}, {0, 5, 0, 4}, {0, 5, 0, 4},
        {0, 5, 0, 4, 1, 9, 0, 99, 0, 9, 1, 99}, {0, 2, 1, 20, 1, 60}, {1, 30}, {30, 99, 1, 60}, {10, 300, 10, 300}, {0, 9}};
    private static final String[] ITEMS = {
        "wW,H the HEAP is W (2 to 6) by H (2 to 5) CELLS",
        "cX,Y,K,F CELL X (0 to 5), Y (0 to 4) has FUEL F (0 to 199) of KIND K (0 thorn, 1 dung, 2 straw)",
        "oX,Y CELL X, Y is lit at first",
        "sX,Y CELL X, Y is covered with sherds at first",
        "pX,Y,T,Q,G,S T thick (1 to 9), WATER Q (0 to 99), GRIT G (0 to 9), STRENGTH S (1 to 99)",
        "kK,B,V of KIND K B burn a MINUTE (1 to 20), each gives V of HEAT (1 to 60)",
        "lL it cools by L hundredths a MINUTE (1 to 30)",
        "hH,N a POT hardens from H tens on (30 to 99), must do so for N MINUTES (1 to 60)",
        "dD,U it DUNTS (10 to 300), SPLITS (10 to 300)",
        "vV the WIND is V at most (0 to 9)"};

    private static String item(char letter, String[] numbers) {
        return letter + String.join(",", numbers) + ";";
    }

    /** The lowest numbers that the letter allows. */
    private static String[] lowest(int which) {
        String[] numbers = new String[BOUNDS[which].length / 2];
        for (int i = 0; i < numbers.length; i++) numbers[i] = "" + BOUNDS[which][2 * i];
        return numbers;
    }

    private static void noFault(String text) {
        due("fault() of " + text, told(text).fault(), NONE);
    }

    /** It is a FAULT wherever it stands, and nothing is LAID by it. */
    private static void aFault(String text) {
        due("fault() of " + text, told(text).fault(), 0);
        due("fault() behind v0;l008; of " + text, told("v0;l008;" + text).fault(), 8);
        due("lay() of " + text, told(text).lay(), NO);
    }

    /** So many bytes of ITEMS without FAULT. */
    private static String filled(int bytes) {
        StringBuilder text = new StringBuilder();
        int odd = bytes % 3;
        for (int i = 0; i < odd; i++) text.append("l30;");
        while (text.length() < bytes) text.append("l7;");
        return text.toString();
    }

    private static void length() {
        says("A TEXT is bytes (500 at most)");
        PotBonfire empty = new PotBonfire();
        due("count(2) of an empty one", empty.count(2), 0);
        due("fault() of an empty one", empty.fault(), NONE);
        due("lay() of an empty one", empty.lay(), 12);
        PotBonfire full = told(filled(500));
        due("count(2) of a full one", full.count(2), 500);
        due("fault() of a full one", full.fault(), NONE);
        due("lay() of a full one", full.lay(), 12);
        for (int n = 1; n <= 8; n++) {
            due("n behind 500", full.write(n, 0x6C373B), FULL);
            PotBonfire fits = told(filled(500 - n));
            due(n + " bytes behind " + (500 - n), fits.write(n, 0), 500);
            PotBonfire over = told(filled(501 - n));
            due(n + " bytes behind " + (501 - n), over.write(n, 0), FULL);
            due("nothing came", over.count(2), 501 - n);
            due("THE TEXT is as it was", over.fault(), NONE);
        }
        due("nothing came", full.count(2), 500);
    }

    private static void lastPlaces() {
        says("FAULT: the place (from 0 on) of the first byte of the first ITEM that is not so");
        due("the last byte of 500", told(filled(499) + "l").fault(), 499);
        due("an ITEM that ends with 500", told(filled(497) + "l0;").fault(), 497);
        due("an ITEM that is cut by the end", told(filled(498) + "l7").fault(), 498);
        due("the first byte", told("x").fault(), 0);
        due("the ITEM's first byte, not the byte that is wrong", told("v1;c0,0,0,200;").fault(), 3);
        due("the first of two", told("v1;l31;x").fault(), 3);
        due("the first of two, last one first", told("v1;xl31;").fault(), 3);
        due("none behind a wiped one", wipedAndTold("x", "").fault(), NONE);
        due("of what is there now", wipedAndTold("v1;x", "v1;v1;x").fault(), 6);
    }

    private static PotBonfire wipedAndTold(String text, String then) {
        PotBonfire x = told(text);
        tell(x, then);
        return x;
    }

    private static void bounds() {
        for (int which = 0; which < ITEMS.length; which++) {
            says(ITEMS[which]);
            char letter = LETTERS.charAt(which);
            for (int i = 0; i < BOUNDS[which].length / 2; i++) {
                int low = BOUNDS[which][2 * i], high = BOUNDS[which][2 * i + 1];
                String[] numbers = lowest(which);
                for (int good : new int[] {low, high}) {
                    numbers[i] = "" + good;
                    noFault(item(letter, numbers));
                }
                for (int bad : new int[] {low - 1, high + 1, 999}) {
                    numbers[i] = "" + bad;
                    aFault(item(letter, numbers));
                }
            }
        }
    }

    private static void figures() {
        says("numbers (one to three figures)");
        for (int which = 0; which < ITEMS.length; which++) {
            char letter = LETTERS.charAt(which);
            for (int i = 0; i < BOUNDS[which].length / 2; i++) {
                String[] numbers = lowest(which);
                String padded = "00" + numbers[i];
                numbers[i] = padded.substring(padded.length() - 3);
                noFault(item(letter, numbers));
                numbers[i] = "0" + numbers[i];
                aFault(item(letter, numbers));
                numbers[i] = "";
                aFault(item(letter, numbers));
            }
        }
        noFault("l02;");
        // as wide as an int and wider: no number wraps round to one that is allowed
        aFault("l4294967303;");
        aFault("l65543;");
        aFault("l18446744073709551623;");
    }

    private static void howManyNumbers() {
        for (int which = 0; which < ITEMS.length; which++) {
            says("ITEMS one behind the other, each a letter, numbers (one to three figures) parted by , and ;");
            String plain = item(LETTERS.charAt(which), lowest(which));
            String open = plain.substring(0, plain.length() - 1);
            noFault(plain);
            aFault(open + ",1;");
            aFault(open + ",;");
            if (open.indexOf(',') > 0) aFault(open.substring(0, open.lastIndexOf(',')) + ";");
            aFault(LETTERS.charAt(which) + ";");
            aFault(" " + plain);
            due("nothing stands between " + plain, told(plain + " " + plain).fault(), plain.length());
            due("nothing stands behind " + plain, told(plain + "\n").fault(), plain.length());
            says("; (behind the last one, too)");
            aFault(open);
            aFault(open + ",");
            due("the last one of two", told(plain + open).fault(), plain.length());
        }
    }

    /** Each byte as a letter, as what parts, as what ends, and as a figure: none but those of the document will do. */
    private static void bytes() {
        says("each a letter, numbers (one to three figures) parted by , and ;");
        int[] ofTwos = {2, 4, 2, 2, 6, 3, 1, -1, -1, 1};
        int[] ofThirties = {-1, -1, -1, -1, -1, -1, 1, 2, 2, -1};
        for (int b = 0; b <= 255; b++) {
            int which = LETTERS.indexOf(b);
            StringBuilder twos = new StringBuilder(), thirties = new StringBuilder();
            for (int numbers = 1; numbers <= 7; numbers++) {
                twos.append(numbers == 1 ? "2" : ",2");
                thirties.append(numbers == 1 ? "30" : ",30");
                boolean isByTwos = which >= 0 && ofTwos[which] == numbers;
                boolean isByThirties = which >= 0 && ofThirties[which] == numbers;
                due("letter " + b + " before " + twos, told((char) b + "" + twos + ";").fault(), isByTwos ? NONE : 0);
                due("letter " + b + " before " + thirties, told((char) b + "" + thirties + ";").fault(),
                    isByThirties ? NONE : 0);
            }
            due(b + " parts", told("o2" + (char) b + "2;").fault(), b == ',' ? NONE : 0);
            due(b + " ends", told("l2" + (char) b).fault(), b == ';' ? NONE : 0);
            due(b + " as a figure", told("l" + (char) b + ";").fault(), b >= '1' && b <= '9' ? NONE : 0);
        }
    }

    private static String pots(int many) {
        StringBuilder text = new StringBuilder();
        for (int i = 0; i < many; i++) text.append("p" + i % 4 + "," + i / 4 + ",1,0,0,1;");
        return text.toString();
    }

    private static void sixPots() {
        says("6 at most, 0, 1, ..");
        for (int many = 0; many <= 6; many++) {
            PotBonfire x = laid(pots(many));
            due("how many", x.count(1), many);
            for (int i = 0; i < many; i++) due("the CELL of POT " + i, x.pot(i, 0), i);
            due("one beyond", x.pot(many, 0), BAD);
        }
        due("a seventh", told(pots(7)).fault(), 6 * 13);
        due("lay() with a seventh", told(pots(7)).lay(), NO);
        due("an ITEM between", told(pots(6) + "v0;p3,1,1,0,0,1;").fault(), 6 * 13 + 3);
        due("six behind six that were wiped", wipedAndTold(pots(6), pots(6)).fault(), NONE);
    }

    private static void sizes() {
        says("the HEAP is W (2 to 6) by H (2 to 5) CELLS");
        for (int w = 2; w <= 6; w++) {
            for (int h = 2; h <= 5; h++) {
                PotBonfire x = told("w" + w + "," + h + ";");
                due("lay() of " + w + " by " + h, x.lay(), w * h);
                due("CELLS of " + w + " by " + h, x.count(0), w * h);
                due("the last CELL", x.cell(w * h - 1, 0), 20);
                due("the first beyond", x.cell(w * h, 0), BAD);
            }
        }
        says("(4, 3 without; of several such the last one counts)");
        due("without", laid("v0;").count(0), 12);
        due("4 wide: a POT in CELL 3, 2", laid("p3,2,1,0,0,1;").pot(0, 0), 11);
        due("two such", laid("w6,5;w2,3;").count(0), 6);
        due("three such", laid("w2,2;w6,5;w5,2;").count(0), 10);
        due("without again", laidAnew("w2,2;", "v0;").count(0), 12);
    }

    private static PotBonfire laidAnew(String text, String then) {
        PotBonfire x = laid(text);
        tell(x, then);
        if (x.lay() < 0) due("lay() of " + then, NO, 12);
        return x;
    }

    private static void cells() {
        says("CELLS are X and W times Y");
        StringBuilder text = new StringBuilder("w3,4;");
        for (int y = 0; y < 4; y++) {
            for (int x = 0; x < 3; x++) text.append("c" + x + "," + y + "," + (x + y) % 3 + "," + (10 * x + y + 100) + ";");
        }
        PotBonfire x = laid(text.toString());
        for (int c = 0; c < 12; c++) {
            due("FUEL of " + c, x.cell(c, 1), 10 * (c % 3) + c / 3 + 100);
            due("KIND of " + c, x.cell(c, 2), (c % 3 + c / 3) % 3);
        }
        PotBonfire corner = laid("w6,5;c5,4,2,199;o5,4;s5,4;p5,4,9,99,9,99;c0,0,1,1;");
        int[] last = {20, 199, 2, 1, 1, 0}, first = {20, 1, 1, 0, 0, NONE}, rest = {20, 0, 0, 0, 0, NONE};
        says("(0, 0 without; the last one of both)");
        for (int c = 0; c < 30; c++) {
            int[] want = c == 29 ? last : c == 0 ? first : rest;
            for (int what = 0; what <= 5; what++) due("cell(" + c + ", " + what + ")", corner.cell(c, what), want[what]);
        }
        PotBonfire twice = laid("c1,1,2,199;c1,1,1,0;c1,2,0,5;c1,2,2,6;");
        due("the last FUEL may be 0", twice.cell(5, 1), 0);
        due("the last KIND", twice.cell(5, 2), 1);
        due("the last FUEL", twice.cell(9, 1), 6);
        due("the last KIND", twice.cell(9, 2), 2);
        PotBonfire bare = laidAnew("c1,1,2,199;o1,1;s1,1;p1,1,1,0,0,1;", "v1;");
        for (int what = 0; what <= 5; what++) due("without again: cell(5, " + what + ")", bare.cell(5, what), rest[what]);
        PotBonfire faulty = wipedAndTold("c1,1,2,199;o1,1;s1,1;p1,1,1,0,0,1;x", "v1;");
        faulty.lay();
        for (int what = 0; what <= 5; what++) due("behind a FAULT: cell(5, " + what + ")", faulty.cell(5, what), rest[what]);
    }

    private static void beyond() {
        says("those beyond the HEAP count nowhere");
        String small = "w2,2;c0,0,0,99;o0,0;p1,0,1,20,0,9;";
        String far = "c2,0,0,199;o2,0;s2,0;c0,2,0,199;o0,2;s0,2;c1,2,1,199;o1,2;c2,1,0,199;o2,1;c5,4,2,199;o5,4;s5,4;";
        PotBonfire near = laid(small), both = laid(small + far);
        for (int t = 0; t < 25; t++) {
            near.minute(0);
            both.minute(0);
            for (int c = 0; c < 4; c++) due("HEAT of " + c, both.cell(c, 0), near.cell(c, 0));
        }
        due("CELLS", both.count(0), 4);
        due("the first beyond", both.cell(4, 1), BAD);
        for (int what = 1; what <= 4; what++) {
            due("CELL 0, 1 is not CELL 2, 0", both.cell(2, what), near.cell(2, what));
            due("CELL 1, 1 is not CELL 2, 1", both.cell(3, what), near.cell(3, what));
        }
        due("it counts in a HEAP that is told behind it", laid("w2,2;c5,4,1,7;w6,5;").cell(29, 1), 7);
    }

    private static void layable() {
        says("LAID is a TEXT without FAULT, whose POTS are in CELLS of the HEAP, no two in one (NO else)");
        for (int w = 2; w <= 6; w++) {
            for (int h = 2; h <= 5; h++) {
                String heap = "w" + w + "," + h + ";";
                String last = "p" + (w - 1) + "," + (h - 1) + ",1,0,0,1;";
                due("a POT in the last CELL of " + heap, told(heap + last).lay(), w * h);
                due("its CELL", laid(last + heap).pot(0, 0), w * h - 1);
                if (w < 6) due("one too far right of " + heap, told(heap + "p" + w + ",0,1,0,0,1;").lay(), NO);
                if (h < 5) due("one too far below " + heap, told("p0," + h + ",1,0,0,1;" + heap).lay(), NO);
                if (w < 6) due("no FAULT", told(heap + "p" + w + ",0,1,0,0,1;").fault(), NONE);
            }
        }
        due("the last two of six in one", told(pots(5) + "p0,1,2,2,2,2;").lay(), NO);
        due("no FAULT", told(pots(5) + "p0,1,2,2,2,2;").fault(), NONE);
        due("the first and the last of six in one", told(pots(5) + "p0,0,2,2,2,2;").lay(), NO);
        due("one row", told("p0,1,1,0,0,1;p1,1,1,0,0,1;").lay(), 12);
        due("one column", told("p1,0,1,0,0,1;p1,1,1,0,0,1;").lay(), 12);
        says("(an empty one at first)");
        dueText("a new object", look(new PotBonfire()), look(laid("")));
    }

    private static void atFirst() {
        says("HEAT of a CELL, warmth of a POT are 20 at first");
        PotBonfire x = burnt(9, alike(20, 60, 1, 199) + "p0,0,1,0,0,1;" + CALM);
        tell(x, "w6,5;p0,0,1,99,0,99;p1,0,9,0,0,1;p2,0,1,0,0,1;p3,0,1,0,0,1;p4,0,1,0,0,1;p5,4,1,0,0,1;");
        due("lay()", x.lay(), 30);
        for (int c = 0; c < 30; c++) due("HEAT of " + c, x.cell(c, 0), 20);
        for (int i = 0; i < 6; i++) due("warmth of " + i, x.pot(i, 1), 20);
        for (int i = 0; i < 6; i++) due("how long it hardened", x.pot(i, 3), 0);
        for (int i = 0; i < 6; i++) due("its LOSS", x.pot(i, 4), 5);
        for (int i = 0; i < 6; i++) due("its colour", x.pot(i, 5), 0);
        due("heat of old is gone, too: no colour", x.of(9, 0, 0, 2), 0);
    }

    private static void potsAtTheirEnds() {
        says("T thick (1 to 9), WATER Q (0 to 99), GRIT G (0 to 9), STRENGTH S (1 to 99)");
        String mild = alike(7, 29, 1, 199);
        // HEAT 221: 201 by 2, by 10
        due("warmth of T 1", burnt(1, mild + "p0,0,1,0,0,1;").pot(0, 1), 120);
        due("warmth of T 9", burnt(1, mild + "p0,0,9,0,0,1;").pot(0, 1), 40);
        due("WATER 0", laid("p0,0,1,0,0,1;").pot(0, 2), 0);
        due("WATER 99", laid("p0,0,1,99,0,1;").pot(0, 2), 99);
        due("GRIT 0", laid("p0,0,1,99,0,1;").dry(4), 98);
        due("GRIT 9", laid("p0,0,1,99,9,1;").dry(4), 89);
        // 110 warm: WATER times 10 by 10; 111 warm: WATER times 11 by 10
        String by10 = alike(13, 14, 1, 199), by11 = alike(4, 46, 1, 199);
        due("1 is not above STRENGTH 1", burnt(1, by10 + "p0,0,1,1,0,1;").pot(0, 4), 5);
        due("2 is above STRENGTH 1", burnt(1, by10 + "p0,0,1,2,0,1;").pot(0, 4), 1);
        due("99 is not above STRENGTH 99", burnt(1, by10 + "p0,0,1,99,0,99;").pot(0, 4), 5);
        due("99 is not above STRENGTH 99", burnt(1, by11 + "p0,0,1,90,0,99;").pot(0, 4), 5);
        due("100 is above STRENGTH 99", burnt(1, by11 + "p0,0,1,91,0,99;").pot(0, 4), 1);
    }

    private static void kindsAtTheirEnds() {
        says("of KIND K B burn a MINUTE (1 to 20), each gives V of HEAT (1 to 60)");
        for (int k = 0; k <= 2; k++) {
            PotBonfire least = burnt(1, LIT + "l1;k" + k + ",1,1;" + fuels(k, 199));
            due("HEAT by 1 of 1", least.cell(0, 0), 21);
            due("FUEL behind 1", least.cell(0, 1), 198);
            PotBonfire most = burnt(1, LIT + "l1;k" + k + ",20,60;" + fuels(k, 199));
            due("HEAT by 20 of 60, less 12", most.cell(3, 0), 1208);
            due("FUEL behind 20", most.cell(3, 1), 179);
        }
        says("(6, 20; 2, 40; 15, 8 without; the last one of each)");
        int[] burns = {6, 2, 15}, gives = {20, 40, 8};
        for (int k = 0; k <= 2; k++) {
            PotBonfire x = burnt(1, LIT + "l1;" + fuels(k, 99));
            int heat = burns[k] * gives[k];
            due("FUEL of KIND " + k, x.cell(0, 1), 99 - burns[k]);
            due("HEAT of KIND " + k, x.cell(0, 0), 20 + heat - heat / 100);
            int other = (k + 1) % 3;
            String two = "k" + k + ",9,9;k" + other + ",7,7;k" + k + ",3,5;";
            PotBonfire last = burnt(1, LIT + "l1;" + two + fuels(k, 99));
            due("the last one of " + k + ": FUEL", last.cell(0, 1), 96);
            due("the last one of " + k + ": HEAT", last.cell(0, 0), 35);
            due("that of another stays", burnt(1, LIT + two + fuels(other, 99)).cell(0, 1), 92);
            due("without again", laidAnew(two, "o0,0;c0,0," + k + ",99;").minute(0), 0);
            PotBonfire again = laidAnew(two, LIT + fuels(k, 99));
            again.minute(0);
            due("without again", again.cell(0, 1), 99 - burns[k]);
        }
    }

    private static void coolingAtItsEnds() {
        says("it cools by L hundredths a MINUTE (1 to 30; 8 without; of several such the last one counts)");
        due("1 hundredth of 1200", burnt(1, alike(20, 60, 1, 99)).cell(0, 0), 1208);
        due("30 hundredths of 1200", burnt(1, alike(20, 60, 30, 99)).cell(0, 0), 860);
        due("8 hundredths of 1200", burnt(1, LIT + "k0,20,60;" + fuels(0, 99)).cell(0, 0), 1124);
        due("the last one", burnt(1, alike(20, 60, 1, 99) + "l30;l2;").cell(0, 0), 1196);
    }

    private static void hardeningAtItsEnds() {
        says("a POT hardens from H tens on (30 to 99)");
        String pot = CALM + "p0,0,1,0,0,1;";
        due("300 warm, H 30", burnt(1, alike(10, 59, 5, 99) + pot + "h30,1;").pot(0, 3), 1);
        due("299 warm, H 30", burnt(1, alike(10, 57, 2, 99) + pot + "h30,1;").pot(0, 3), 0);
        PotBonfire reached = laid(alike(20, 32, 4, 40) + CALM + "p0,0,2,0,0,1;h99,1;");
        due("the warmest", warmest(reached, 30), 990);
        due("990 warm, H 99", reached.pot(0, 3) > 0 ? 1 : 0, 1);
        PotBonfire missed = laid(alike(20, 42, 8, 40) + CALM + "p0,0,3,0,0,1;h99,1;");
        due("the warmest", warmest(missed, 30), 989);
        due("989 warm, H 99", missed.pot(0, 3), 0);
        says("must do so for N MINUTES (1 to 60)");
        due("1 of 1", burnt(1, alike(10, 59, 5, 99) + pot + "h30,1;").pot(0, 4), 0);
        due("0 of 1", burnt(1, alike(10, 57, 2, 99) + pot + "h30,1;").pot(0, 4), 5);
        PotBonfire longest = burnt(64, alike(1, 60, 1, 199) + pot + "h30,60;");
        due("59 MINUTES", longest.pot(0, 3), 59);
        due("59 of 60", longest.pot(0, 4), 5);
        longest.minute(0);
        due("60 of 60", longest.pot(0, 4), 0);
        says("(75, 10 without; of several such the last one counts)");
        String top750 = alike(19, 12, 8, 99) + "p0,0,2,0,0,1;";
        due("the warmest", warmest(laid(top750), 40), 750);
        due("750 warm", burnt(40, top750).pot(0, 3), 1);
        due("750 warm, H 76", burnt(40, top750 + "h76,10;").pot(0, 3), 0);
        String nine = alike(20, 57, 4, 20) + "p0,0,3,0,0,1;", ten = alike(20, 48, 2, 20) + "p0,0,3,0,0,1;";
        due("9 MINUTES", burnt(40, nine).pot(0, 3), 9);
        due("9 of 10", burnt(40, nine).pot(0, 4), 5);
        due("10 MINUTES", burnt(60, ten).pot(0, 3), 10);
        due("10 of 10", burnt(60, ten).pot(0, 4), 0);
        due("the last one", burnt(40, nine + "h75,60;h75,9;").pot(0, 4), 0);
        due("the last one", burnt(60, ten + "h75,1;h75,11;").pot(0, 4), 5);
    }

    private static void crackingAtItsEnds() {
        says("it DUNTS, if it cools by more than D a MINUTE (10 to 300)");
        String ten = "h30,1;d10,300;";
        due("by 10, D 10", burnt(60, alike(20, 60, 1, 20) + ten + "p0,0,1,0,0,1;").pot(0, 4), 0);
        String eleven = alike(20, 60, 1, 40) + ten + "p0,0,5,0,0,1;";
        due("not yet", burnt(22, eleven).pot(0, 4), 0);
        due("by 11, D 10", burnt(23, eleven).pot(0, 4), 4);
        PotBonfire wide = laid(alike(20, 51, 20, 199) + CALM + "h30,1;p0,0,3,0,0,1;");
        PotBonfire wider = laid(alike(20, 54, 12, 150) + CALM + "h30,1;p0,0,2,0,0,1;");
        due("by 300, D 300", coolingBy(wide, 12), 300);
        due("it is whole", wide.pot(0, 4), 0);
        due("by 301, D 300", coolingBy(wider, 10), 301);
        due("it DUNTS", wider.pot(0, 4), 4);
        says("SPLITS, if what it warms in one, times T, is above 10 U (10 to 300)");
        due("100, U 10", burnt(1, alike(7, 29, 1, 99) + "d60,10;p0,0,1,0,0,1;").pot(0, 4), 5);
        due("101, U 10", burnt(1, alike(4, 51, 1, 99) + "d60,10;p0,0,1,0,0,1;").pot(0, 4), 3);
        // T times what it warms by is greatest with T 9: 9 tenths of what the HEAT is above it
        PotBonfire thick = burnt(9, alike(20, 60, 1, 199) + "h99,1;d60,300;p0,0,9,0,0,1;");
        due("U 300", thick.pot(0, 4) == 3 ? 1 : 0, 0);
        due("U 90", burnt(9, alike(20, 60, 1, 199) + "h99,1;p0,0,9,0,0,1;").pot(0, 4), 3);
        says("(60, 90 without; of several such the last one counts)");
        String by60 = alike(20, 54, 4, 40) + "p0,0,1,0,0,1;", by61 = alike(20, 60, 4, 40) + "p0,0,1,0,0,1;";
        due("by 60", burnt(10, by60).pot(0, 4), 5);
        due("by 60, D 59", burnt(10, by60 + "d61,90;d59,90;").pot(0, 4), 4);
        due("by 61", burnt(8, by61).pot(0, 4), 4);
        due("by 61, D 61", burnt(8, by61 + "d59,90;d61,90;").pot(0, 4), 5);
        String by900 = alike(20, 57, 1, 20) + "p0,0,4,0,0,1;", by902 = alike(18, 39, 4, 60) + "p0,0,2,0,0,1;";
        due("900", burnt(1, by900).pot(0, 4), 5);
        due("900, U 89", burnt(1, by900 + "d60,91;d60,89;").pot(0, 4), 3);
        due("902", burnt(3, by902).pot(0, 4), 3);
        due("902, U 91", burnt(3, by902 + "d60,89;d60,91;").pot(0, 4), 5);
    }

    /** What POT 0 cools by in the MINUTE behind so many; with WIND 9 as soon as there is no FUEL. */
    private static int coolingBy(PotBonfire x, int minutes) {
        for (int t = 0; t < minutes; t++) x.minute(x.cell(0, 1) == 0 ? 9 : 0);
        int before = x.pot(0, 1);
        x.minute(x.cell(0, 1) == 0 ? 9 : 0);
        return before - x.pot(0, 1);
    }

    /** Its POT is GOOD behind a MINUTE without WIND alone: 583, less 23 hundredths a WIND, by 2. */
    private static int still(String wind, int z) {
        return laid(alike(11, 53, 4, 11) + CALM + "h30,1;p0,0,1,0,0,1;" + wind).evening(z, 1);
    }

    private static void windAtItsEnds() {
        says("the WIND is V at most (0 to 9; 0 without; of several such the last one counts)");
        // z 1: 7920 times itself is 62726400, modulo 65521 it is 22803: odd, a multiple of 3
        due("V 0", still("v0;", 1), 1);
        due("V 1", still("v1;", 1), 0);
        due("V 2", still("v2;", 1), 1);
        due("V 9", still("v9;", 1), 0);
        due("without", still("", 1), 1);
        due("the last one", still("v9;v2;", 1), 1);
        due("the last one", still("v0;v1;", 1), 0);
        due("without again", laidAnew("v9;", alike(11, 53, 4, 11) + CALM + "h30,1;p0,0,1,0,0,1;").evening(1, 1), 1);
    }

    public static void main(String[] args) {
        length();
        lastPlaces();
        bounds();
        figures();
        howManyNumbers();
        bytes();
        sixPots();
        sizes();
        cells();
        beyond();
        layable();
        atFirst();
        potsAtTheirEnds();
        kindsAtTheirEnds();
        coolingAtItsEnds();
        hardeningAtItsEnds();
        crackingAtItsEnds();
        windAtItsEnds();
        end("TEXTS are as told at their edges");
    }
}
