import java.util.function.ToIntFunction;

/** What the tests share: HEAPS out of a text, answers that are due, and all that can be seen of an object. */
abstract class HeapTest {
    static final int BAD = -1, NO = -2, FULL = -3, NONE = -4;

    /** Four cells of 2 by 2 are lit: with like FUEL they burn alike, so no HEAT goes over. */
    static final String LIT = "w2,2;o0,0;o1,0;o0,1;o1,1;";
    /** No POT DUNTS or SPLITS by what is not asked about. */
    static final String CALM = "d300,300;";

    private static String sentence = "";
    private static int wrong = 0;

    /** The words of the document that the answers below are due by. */
    static void says(String words) {
        sentence = words;
    }

    static void due(String what, int got, int want) {
        if (got != want) complain(what, "" + got, "" + want);
    }

    static void due(int promise, String what, int got, int want) {
        says("promise " + promise);
        due(what, got, want);
    }

    static void dueText(String what, String got, String want) {
        if (!got.equals(want)) complain(what, got, want);
    }

    static void dueOther(String what, String got, String notWanted) {
        if (got.equals(notWanted)) complain(what, got, "another");
    }

    private static void complain(String what, String got, String want) {
        wrong++;
        System.out.println(sentence + ": " + what + " answered " + got + ", due is " + want);
    }

    static void end(String well) {
        System.out.println(wrong == 0 ? well : wrong + " answers are not as due");
        if (wrong != 0) System.exit(1);
    }

    static String fuels(int kind, int much) {
        String rest = "," + kind + "," + much + ";";
        return "c0,0" + rest + "c1,0" + rest + "c0,1" + rest + "c1,1" + rest;
    }

    /** Four cells that burn b thorns of v a MINUTE alike, cool by l, and have much FUEL. */
    static String alike(int b, int v, int l, int much) {
        return LIT + "k0," + b + "," + v + ";l" + l + ";" + fuels(0, much);
    }

    static void tell(PotBonfire x, String text) {
        x.wipe();
        int at = 0;
        while (at < text.length()) {
            int n = Math.min(8, text.length() - at);
            long v = 0;
            for (int i = 0; i < n; i++) v = v << 8 | text.charAt(at + i);
            x.write(n, v);
            at += n;
        }
    }

    static PotBonfire told(String text) {
        PotBonfire x = new PotBonfire();
        tell(x, text);
        return x;
    }

    static PotBonfire laid(String text) {
        PotBonfire x = told(text);
        if (x.lay() < 0) complain("lay() of " + text, "below 0", "CELLS");
        return x;
    }

    static void burn(PotBonfire x, int minutes, int wind) {
        for (int t = 0; t < minutes; t++) x.minute(wind);
    }

    static PotBonfire burnt(int minutes, String text) {
        PotBonfire x = laid(text);
        burn(x, minutes, 0);
        return x;
    }

    static int warmest(PotBonfire x, int minutes) {
        int top = 0;
        for (int t = 0; t < minutes; t++) {
            x.minute(0);
            top = Math.max(top, x.pot(0, 1));
        }
        return top;
    }

    private static void row(StringBuilder seen, int most, ToIntFunction<Integer> asked) {
        for (int what = 0; what <= most; what++) seen.append(' ').append(asked.applyAsInt(what));
        seen.append('\n');
    }

    /** All that can be seen of the HEAP, and how it would burn on (by which thickness, grit and heat of old show). */
    static String look(PotBonfire x) {
        StringBuilder seen = new StringBuilder("counts");
        row(seen, 5, x::count);
        seen.append("fault ").append(x.fault()).append('\n');
        for (int c = 0, cells = x.count(0); c < cells; c++) {
            int cell = c;
            seen.append("cell ").append(c);
            row(seen, 5, what -> x.cell(cell, what));
        }
        for (int i = 0, pots = x.count(1); i < pots; i++) {
            int pot = i;
            seen.append("pot ").append(i);
            row(seen, 5, what -> x.pot(pot, what));
            seen.append("then ").append(i);
            row(seen, 3, what -> x.of(25, 4, pot, what));
        }
        seen.append("draws ").append(x.evening(77, 40)).append(", lies ").append(x.lies(1, 5, 0, 0)).append('\n');
        return seen.toString();
    }

    /** All that can be seen of an object, with what is KEPT and what THE TEXT tells; it changes by that. */
    static String fate(PotBonfire x) {
        StringBuilder seen = new StringBuilder(look(x));
        for (int kept = x.count(5); kept > 0; kept--) {
            x.back();
            seen.append("back\n").append(look(x));
        }
        seen.append("laid ").append(x.lay()).append('\n').append(look(x));
        return seen.toString();
    }
}
