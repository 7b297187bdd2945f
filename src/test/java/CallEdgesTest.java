import java.util.Arrays;
import java.util.List;
import java.util.function.Supplier;
import java.util.function.ToIntFunction;

/** Each call with the last numbers that are told and the first that are not, and what a refused call leaves as it was. */
public final class CallEdgesTest extends HeapTest {
    private static final int[] FAR = {Integer.MIN_VALUE, Integer.MIN_VALUE + 1, Integer.MAX_VALUE - 1, Integer.MAX_VALUE};

    interface Asked {
        int of(PotBonfire x, int[] a);
    }

    /** A call, least and most of each of its numbers, and numbers by which it is not BAD. */
    record Call(String name, boolean changes, int[] bounds, int[] plain, Asked asked) {
        String told(int[] a) {
            String inside = Arrays.toString(a);
            return name + "(" + inside.substring(1, inside.length() - 1) + ")";
        }
    }

    private static int[] row(int... numbers) {
        return numbers;
    }

    /** All calls with numbers, for a HEAP of so many CELLS and POTS. */
    private static Call[] calls(int cells, int pots) {
        int c = cells - 1, p = pots - 1, laidAnew = Math.min(4, pots);
        return new Call[] {
            new Call("write", true, row(1, 8), row(3), (x, a) -> x.write(a[0], 0x6C373B)),
            new Call("cell", false, row(0, c, 0, 5), row(0, 0), (x, a) -> x.cell(a[0], a[1])),
            new Call("pot", false, row(0, p, 0, 5), row(0, 0), (x, a) -> x.pot(a[0], a[1])),
            new Call("minute", true, row(0, 9), row(0), (x, a) -> x.minute(a[0])),
            new Call("fuel", true, row(0, c, 1, 99), row(0, 1), (x, a) -> x.fuel(a[0], a[1])),
            new Call("cover", true, row(0, c), row(0), (x, a) -> x.cover(a[0], true)),
            new Call("cover bare", true, row(0, c), row(0), (x, a) -> x.cover(a[0], false)),
            new Call("light", true, row(0, c), row(0), (x, a) -> x.light(a[0])),
            new Call("take", true, row(0, p), row(0), (x, a) -> x.take(a[0])),
            new Call("dry", true, row(1, 240), row(1), (x, a) -> x.dry(a[0])),
            new Call("run", false, row(0, 240, 0, 9, 0, 1), row(9, 1, 0), (x, a) -> x.run(a[0], a[1], a[2])),
            new Call("of", false, row(0, 240, 0, 9, 0, p, 0, 3), row(9, 1, 0, 0), (x, a) -> x.of(a[0], a[1], a[2], a[3])),
            new Call("drying", false, row(0, 240, 0, 9), row(9, 1), (x, a) -> x.drying(a[0], a[1])),
            new Call("grit", false, row(0, p, 0, 240, 0, 9), row(0, 9, 1), (x, a) -> x.grit(a[0], a[1], a[2])),
            new Call("enough", false, row(1, 6, 0, 240, 0, 9), row(1, 9, 1), (x, a) -> x.enough(a[0], a[1], a[2])),
            new Call("spot", true, row(0, c), row(0), (x, a) -> x.spot(a[0])),
            new Call("lies", false, row(1, laidAnew, 0, 240, 0, 9, -1, laidAnew - 1), row(laidAnew, 9, 1, -1),
                (x, a) -> x.lies(a[0], a[1], a[2], a[3])),
            new Call("lies one", false, row(1, laidAnew, 0, 240, 0, 9, -1, 0), row(1, 9, 1, 0),
                (x, a) -> x.lies(a[0], a[1], a[2], a[3])),
            new Call("rake", false, row(0, 240, 0, 9), row(9, 1), (x, a) -> x.rake(a[0], a[1])),
            new Call("black", false, row(0, p, 0, 240, 0, 9), row(0, 9, 1), (x, a) -> x.black(a[0], a[1], a[2])),
            new Call("evening", false, row(0, 9999, 0, 240), row(5, 9), (x, a) -> x.evening(a[0], a[1])),
            new Call("ten", false, row(0, 9999, 0, 240, 0, p), row(5, 9, 0), (x, a) -> x.ten(a[0], a[1], a[2])),
            new Call("sherd", false, row(0, p, 0, 5, 0, 2, 0, 4), row(0, 0, 0, 0), (x, a) -> x.sherd(a[0], a[1], a[2], a[3])),
            new Call("count", false, row(0, 5), row(0), (x, a) -> x.count(a[0]))};
    }

    /** 3 by 2 CELLS that burn; POTS that are whole, BURST, STRUCK, taken out; SPOTS; one KEPT; another TEXT. */
    private static PotBonfire busy() {
        PotBonfire x = laid("w3,2;k0,20,60;h40,2;d300,300;v3;c0,0,0,199;c1,0,1,50;c2,1,2,80;o0,0;o1,0;s2,0;"
            + "p0,0,1,0,0,1;p2,1,2,30,1,20;p0,1,1,50,0,1;p1,1,9,5,2,9;p2,0,9,40,9,99;");
        x.keep();
        burn(x, 2, 1);
        x.take(1);
        for (int c : new int[] {5, 0, 3, 4}) x.spot(c);
        tell(x, "w2,2;c0,0,1,30;o0,0;p1,1,2,20,3,9;l5;");
        return x;
    }

    /** As many CELLS and POTS as there may be. */
    private static PotBonfire full() {
        return laid("w6,5;p0,0,1,9,0,9;p1,0,1,9,0,9;p2,0,1,9,0,9;p3,0,1,9,0,9;p4,0,1,9,0,9;p5,4,1,9,0,9;");
    }

    private static PotBonfire smallBehindLarge() {
        PotBonfire x = full();
        tell(x, "w2,2;p1,1,1,0,0,1;");
        x.lay();
        return x;
    }

    private static void eachNumber(String heap, Supplier<PotBonfire> made, Call call) {
        for (int i = 0; i < call.plain.length; i++) {
            int low = call.bounds[2 * i], high = call.bounds[2 * i + 1];
            int[] a = call.plain.clone();
            for (int good : new int[] {low, high}) {
                if (low > high) continue;
                a[i] = good;
                int got = call.asked.of(made.get(), a);
                due(heap + " " + call.told(a) + " is BAD", got == BAD ? 1 : 0, 0);
            }
            for (int bad : new int[] {low - 1, high + 1}) {
                a[i] = bad;
                due(heap + " " + call.told(a), call.asked.of(made.get(), a), BAD);
            }
            for (int bad : FAR) {
                a[i] = bad;
                due(heap + " " + call.told(a), call.asked.of(made.get(), a), BAD);
            }
        }
    }

    private static void toldNumbers() {
        says("BAD: a number is none that is told (CELLS, POTS: such as there are)");
        for (Call call : calls(6, 5)) eachNumber("busy", CallEdgesTest::busy, call);
        for (Call call : calls(30, 6)) eachNumber("30 CELLS, 6 POTS", CallEdgesTest::full, call);
        for (Call call : calls(4, 1)) eachNumber("4 CELLS, 1 POT", () -> laid("w2,2;p1,1,1,0,0,1;"), call);
        for (Call call : calls(4, 1)) eachNumber("4 CELLS behind 30", CallEdgesTest::smallBehindLarge, call);
        PotBonfire bare = new PotBonfire();
        List<String> ofPots = List.of("pot", "take", "of", "grit", "lies", "lies one", "black", "ten", "sherd");
        for (Call call : calls(12, 1)) {
            boolean needsPots = ofPots.contains(call.name);
            due("without POTS " + call.told(call.plain), call.asked.of(bare, call.plain) == BAD ? 1 : 0, needsPots ? 1 : 0);
        }
        due("a call with two wrong numbers", busy().run(241, 10, 2), BAD);
        due("five POTS of six", full().lies(5, 9, 1, -1), BAD);
        due("six POTS of six", full().lies(6, 9, 1, -1), BAD);
    }

    /** What a call leaves is all that is to be seen of the object and of one that never had the call. */
    private static void leaves(String what, Supplier<PotBonfire> made, int want, ToIntFunction<PotBonfire> call) {
        PotBonfire x = made.get();
        due(what, call.applyAsInt(x), want);
        dueText(what + " leaves", fate(x), fate(made.get()));
    }

    private static void refusedLeavesAll() {
        says("nothing changes then");
        for (Call call : calls(6, 5)) {
            for (int i = 0; i < call.plain.length; i++) {
                for (int bad : new int[] {call.bounds[2 * i] - 1, call.bounds[2 * i + 1] + 1, Integer.MIN_VALUE, Integer.MAX_VALUE}) {
                    int[] a = call.plain.clone();
                    a[i] = bad;
                    leaves(call.told(a), CallEdgesTest::busy, BAD, x -> call.asked.of(x, a));
                }
            }
        }
    }

    private static void askingLeavesAll() {
        says("(all is as it was behind it)");
        for (Call call : calls(6, 5)) {
            for (int i = 0; i < call.bounds.length && !call.changes; i++) {
                int[] a = call.plain.clone();
                a[i / 2] = call.bounds[i];
                PotBonfire x = busy();
                call.asked.of(x, a);
                dueText(call.told(a) + " leaves", fate(x), fate(busy()));
            }
            if (!call.changes) continue;
            PotBonfire x = busy();
            int got = call.asked.of(x, call.plain);
            // spot(0) is one already, bare CELL 0 is bare, lit CELL 0 is lit
            boolean isSame = got == NO || call.name.equals("cover bare") || call.name.equals("light");
            if (!isSame) dueOther(call.told(call.plain) + " leaves", fate(x), fate(busy()));
        }
        PotBonfire x = busy();
        due("fault()", x.fault(), NONE);
        dueText("fault() leaves", fate(x), fate(busy()));
    }

    private static PotBonfire heaped(int much) {
        PotBonfire x = laid("w2,2;c0,0,2,199;p0,0,1,9,0,9;");
        int there = 199;
        while (there < much) there = x.fuel(0, Math.min(99, much - there));
        return x;
    }

    private static void noAsThingsStand() {
        says("fuel(): FUEL comes to a CELL (f 1 to 99): how much it has. NO: above 999");
        due("to 998", heaped(997).fuel(0, 1), 998);
        due("to 999", heaped(998).fuel(0, 1), 999);
        due("to 999 by 99", heaped(900).fuel(0, 99), 999);
        leaves("to 1000 by 99", () -> heaped(901), NO, x -> x.fuel(0, 99));
        leaves("to 1000 by 1", () -> heaped(999), NO, x -> x.fuel(0, 1));
        leaves("to 1098", () -> heaped(999), NO, x -> x.fuel(0, 99));
        due("another CELL has room", heaped(999).fuel(3, 99), 99);
        says("FUEL is put on a CELL (its KIND stays)");
        due("KIND", heaped(999).cell(0, 2), 2);
        says("take(): NO: it is not whole");
        leaves("taken out", CallEdgesTest::busy, NO, x -> x.take(1));
        leaves("BURST", CallEdgesTest::busy, NO, x -> x.take(2));
        leaves("STRUCK", CallEdgesTest::busy, NO, x -> x.take(3));
        Supplier<PotBonfire> split = () -> burnt(1, alike(4, 51, 1, 99) + "d60,10;p0,0,1,99,9,99;");
        Supplier<PotBonfire> dunted = () -> burnt(8, alike(20, 60, 4, 40) + "p0,0,1,0,0,1;");
        due("LOSS", split.get().pot(0, 4), 3);
        due("LOSS", dunted.get().pot(0, 4), 4);
        leaves("SPLIT", split, NO, x -> x.take(0));
        leaves("DUNTED", dunted, NO, x -> x.take(0));
        says("take(): its LOSS as it was");
        due("SOFT", full().take(5), 5);
        due("GOOD", burnt(1, alike(11, 53, 4, 11) + CALM + "h30,1;p0,0,1,0,0,1;").take(0), 0);
        says("lay(): NO");
        for (String text : new String[] {"x", "w2,2", "p4,0,1,1,1,1;", "p0,3,1,1,1,1;", "p0,0,1,1,1,1;p0,0,1,1,1,1;"}) {
            leaves("lay() of " + text, () -> toldBusy(text), NO, x -> x.lay());
        }
        says("back(): NO");
        leaves("nothing KEPT", () -> spotted(3), NO, x -> x.back());
    }

    private static PotBonfire toldBusy(String text) {
        PotBonfire x = busy();
        tell(x, text);
        return x;
    }

    private static void laidAnew() {
        says("lay(): LAID: how many CELLS; MINUTE 0, no SPOTS, nothing KEPT; THE TEXT stays");
        PotBonfire x = twiceKept();
        int[] before = {6, 5, 37, 3, 4, 2}, behind = {4, 1, 37, 0, 0, 0};
        for (int what = 0; what <= 5; what++) due("count(" + what + ") ahead of it", x.count(what), before[what]);
        due("lay()", x.lay(), 4);
        for (int what = 0; what <= 5; what++) due("count(" + what + ") behind it", x.count(what), behind[what]);
        dueText("nothing of old is left", fate(x), fate(laid("w2,2;c0,0,1,30;o0,0;p1,1,2,20,3,9;l5;")));
        x.wipe();
        due("lay() of an empty one", x.lay(), 12);
        dueText("nothing of old is left", fate(x), fate(new PotBonfire()));
    }

    /** 12 CELLS, with so many SPOTS from the last one on. */
    private static PotBonfire spotted(int many) {
        PotBonfire x = laid("p0,0,1,9,0,9;p1,0,1,9,0,9;");
        for (int s = 0; s < many; s++) x.spot(11 - s);
        return x;
    }

    private static void fullUp() {
        says("spot(): A SPOT more: how many. NO: it is one; FULL: 6");
        for (int many = 0; many < 6; many++) due("a SPOT behind " + many, spotted(many).spot(0), many + 1);
        leaves("a seventh", () -> spotted(6), FULL, x -> x.spot(0));
        for (int s = 0; s < 6; s++) {
            int cell = 11 - s;
            leaves("it is one of 6", () -> spotted(6), NO, x -> x.spot(cell));
            due("whether it is one of " + s, spotted(s).spot(cell), s + 1);
        }
        says("noSpots(): No SPOTS: how many were");
        for (int many = 0; many <= 6; many++) {
            PotBonfire x = spotted(many);
            due("how many were", x.noSpots(), many);
            due("how many then", x.count(4), 0);
            due("one that was", x.spot(11), 1);
        }
        says("keep(): FULL");
        PotBonfire kept = busy();
        due("a second", kept.keep(), 2);
        leaves("a third", CallEdgesTest::twiceKept, FULL, x -> x.keep());
        says("write(): FULL");
        for (int n = 1; n <= 8; n++) {
            int bytes = n;
            leaves("one too many by " + n, () -> toldBusy(filling(501 - bytes)), FULL, x -> x.write(bytes, 0x6C373B));
        }
    }

    private static PotBonfire twiceKept() {
        PotBonfire x = busy();
        x.keep();
        x.minute(3);
        return x;
    }

    /** A TEXT of so many bytes, the last of which make no ITEM. */
    private static String filling(int bytes) {
        StringBuilder text = new StringBuilder("w2,2;");
        while (text.length() + 3 <= bytes) text.append("l7;");
        while (text.length() < bytes) text.append("l");
        return text.toString();
    }

    private static void order() {
        says("Of several the first in this order, whatever the order at a call");
        due("BAD ahead of FULL", told(filling(500)).write(9, 0), BAD);
        due("BAD ahead of FULL", told(filling(500)).write(0, 0), BAD);
        due("BAD ahead of NO", heaped(999).fuel(0, 100), BAD);
        due("BAD ahead of NO", heaped(999).fuel(0, 0), BAD);
        due("BAD ahead of FULL", spotted(6).spot(12), BAD);
        due("BAD ahead of FULL", spotted(6).spot(-1), BAD);
        due("NO ahead of FULL", spotted(6).spot(6), NO);
        due("FULL", spotted(6).spot(5), FULL);
        PotBonfire x = full();
        int[][] wrongRuns = {{241, 0}, {-1, 0}, {0, 10}, {0, -1}};
        for (int[] w : wrongRuns) {
            due("NONE", x.grit(0, 0, 0), NONE);
            due("BAD ahead of NONE", x.grit(0, w[0], w[1]), BAD);
            due("NONE", x.enough(6, 0, 0), NONE);
            due("BAD ahead of NONE", x.enough(6, w[0], w[1]), BAD);
            due("NONE", x.black(0, 0, 0), NONE);
            due("BAD ahead of NONE", x.black(0, w[0], w[1]), BAD);
            due("NONE", x.lies(1, 0, 0, 0), NONE);
            due("BAD ahead of NONE", x.lies(1, w[0], w[1], 0), BAD);
        }
        due("BAD ahead of NONE", x.lies(1, 0, 0, 1), BAD);
        due("BAD ahead of NONE", x.lies(1, 0, 0, -2), BAD);
        due("NONE", x.sherd(0, 0, 0, 4), NONE);
        due("BAD ahead of NONE", x.sherd(0, 0, 0, 5), BAD);
        due("NONE", x.cell(28, 5), NONE);
        due("BAD ahead of NONE", x.cell(30, 5), BAD);
    }

    private static void bytesOfLongs() {
        says("The lowest n bytes (1 to 8) of v, the highest of these first, come behind THE TEXT: how long it is");
        // the lowest bytes are an ITEM, those above them are none
        String[] items = {"l7;", "l08;", "l008;", "w2,2;", "o1,1;", "k0,1,1;", "l7;l008;"};
        for (String item : items) {
            for (long above : new long[] {0, -1, 0x7F7F7F7F7F7F7F7FL, Long.MIN_VALUE, Long.MAX_VALUE}) {
                long v = above;
                for (int i = 0; i < item.length(); i++) v = v << 8 | item.charAt(i);
                PotBonfire x = new PotBonfire();
                due("write of " + item, x.write(item.length(), v), item.length());
                due("fault() of " + item, x.fault(), NONE);
                due("lay() of " + item, x.lay() > 0 ? 1 : 0, 1);
            }
        }
        long[] ends = {Long.MIN_VALUE, Long.MIN_VALUE + 1, -1, 0, 1, Long.MAX_VALUE - 1, Long.MAX_VALUE};
        for (long v : ends) {
            for (int n = 1; n <= 8; n++) {
                PotBonfire x = told("v1;");
                due("write(" + n + ", " + v + ")", x.write(n, v), 3 + n);
                due("fault() then", x.fault(), 3);
            }
        }
        due("one byte behind another", wroteByOnes(), NONE);
    }

    private static int wroteByOnes() {
        PotBonfire x = new PotBonfire();
        int length = 0;
        for (char sign : "w2,3;v1;".toCharArray()) due("how long", x.write(1, sign | ~0xFFL), ++length);
        return x.fault();
    }

    private static void asItWas() {
        says("wipe(): THE TEXT is empty: how long it was");
        due("of 0", new PotBonfire().wipe(), 0);
        due("of 500", told(filling(500)).wipe(), 500);
        PotBonfire x = told(filling(500));
        x.wipe();
        due("there is room again", x.write(8, 0), 8);
        says("cover(): A CELL is covered, bared: 1, 0 as it was");
        int[] want = {0, 1, 1, 0, 0};
        boolean[] is = {true, true, false, false, true};
        for (int i = 0; i < want.length; i++) due("cover, " + i, x.cover(11, is[i]), want[i]);
        says("light(): A CELL is lit: 1, 0 as it was");
        due("light", x.light(11), 0);
        due("light again", x.light(11), 1);
        due("another", x.light(10), 0);
        says("minute(): how many POTS are whole");
        due("no POT", x.minute(9), 0);
        PotBonfire six = full();
        due("six", six.minute(0), 6);
        for (int i = 0; i < 6; i++) {
            six.take(i);
            due("one less", six.minute(0), 5 - i);
        }
        says("cell(): the whole POT in it (5; NONE)");
        for (int c = 0; c < 30; c++) {
            int pot = c < 5 ? c : c == 29 ? 5 : NONE;
            due("whole in " + c, full().cell(c, 5), pot);
            due("taken out of " + c, six.cell(c, 5), NONE);
        }
    }

    private static void fiveHundredAndTwelveCalls() {
        says("An object is used for at most 512 calls after it has been made");
        PotBonfire x = new PotBonfire();
        x.light(0);
        x.fuel(0, 99);
        for (int t = 1; t <= 509; t++) x.minute(t % 10);
        due("MINUTES gone by in 509 of 512 calls", x.count(3), 509);
        PotBonfire y = new PotBonfire();
        for (int t = 1; t <= 256; t++) {
            due("keep()", y.keep(), 1);
            due("back()", y.back(), 0);
        }
        PotBonfire z = new PotBonfire();
        for (int t = 1; t <= 512; t++) due("write(1, ..)", z.write(1, 'l'), t <= 500 ? t : FULL);
        PotBonfire again = new PotBonfire();
        for (int t = 1; t <= 512; t++) due("lay()", again.lay(), 12);
    }

    public static void main(String[] args) {
        toldNumbers();
        refusedLeavesAll();
        askingLeavesAll();
        noAsThingsStand();
        laidAnew();
        fullUp();
        order();
        bytesOfLongs();
        asItWas();
        fiveHundredAndTwelveCalls();
        end("calls are as told at their edges");
    }
}
