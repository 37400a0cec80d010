import java.util.function.LongSupplier;

/** Each promise of the document by its number: ordinary calls, the edges it names, wrong numbers. */
public final class PromisesTest {
    private static final int UNKNOWN = -1, OUTSIDE = -2, STATE = -3, FULL = -4, NONE = -9;
    private static final int NULL = -11, CAST = -12, INDEX = -13, SIZE = -14;
    private static final long LOST = Long.MIN_VALUE;
    private static final int MIN = Integer.MIN_VALUE, MAX = Integer.MAX_VALUE;
    private static final String FOUR = "s1230;b2121;m3212;s5553";
    private static final String SEVEN = "s1110;b1111;m1112;s1113;b1110;m1111;s1112";
    private static int promise = 0;
    private static int wrong = 0;

    private PromisesTest() { }

    public static void main(String[] args) {
        constants();
        p1NewObject();
        p2Statues();
        p2FirstFault();
        p2Anew();
        p2Fewer();
        p2Refusals();
        p3OfStatue();
        p4Look();
        p5Over();
        p6Fence();
        p7Rain();
        p8Deer();
        p9GrainsInRain();
        p9GrainsUnderCovers();
        p9GrainsAndDeer();
        p10Lost();
        p11Gone();
        p12Liked();
        p13Lasts();
        p14Umbrellas();
        p15Turn();
        p16Roofs();
        p17TakenFor();
        p17Refusals();
        p18Whose();
        p19Reading();
        p20Back();
        p21Rains();
        p22Cast();
        p23Sheet();
        p24Lose();
        p25Put();
        p26Cell();
        p27Copy();
        p28Tell();
        p29Bow();
        p30As();
        p31Trace();
        p32Fault();
        p33Many();
        System.out.println(wrong == 0 ? "each promise is kept" : wrong + " answers are not as due");
        if (wrong != 0) {
            System.exit(1);
        }
    }

    // ---- what the tests share

    private static void due(String call, long got, long want) {
        if (got != want) {
            wrong++;
            System.out.println("promise " + promise + ": " + call + " answered " + got + ", due is " + want);
        }
    }

    /** A SHEET gets a row of a LANE with a text's codes from a place on. */
    private static void write(SaltSaints x, int sheet, int lane, int from, String text) {
        x.sheet(sheet, lane, from + text.length());
        for (int i = 0; i < text.length(); i++) {
            x.put(sheet, from + i, text.charAt(i));
        }
    }

    private static int tellText(SaltSaints x, String text) {
        write(x, 0, 0, 0, text);
        return x.statues(0, 0, 0, text.length());
    }

    private static SaltSaints with(String text) {
        SaltSaints x = new SaltSaints();
        tellText(x, text);
        return x;
    }

    private static void rainFor(SaltSaints x, int days, int rain, int wind) {
        for (int day = 0; day < days; day++) {
            x.rain(day, rain, wind);
        }
    }

    /** All that can be seen but fault(), which is left at some FAULT: cell 60 is never there. */
    private static String picture(SaltSaints x) {
        StringBuilder seen = new StringBuilder();
        seen.append(x.trace());
        for (int what = 0; what < 3; what++) {
            seen.append(' ').append(x.many(what)).append(' ').append(x.lasts(what));
        }
        for (int k = 0; k < x.many(0); k++) {
            for (int what = 0; what < 7; what++) {
                seen.append(' ').append(x.ofStatue(k, what));
            }
            for (int dawn = 0; dawn <= 60; dawn++) {
                seen.append(' ').append(x.grains(k, 0, dawn)).append(' ').append(x.grains(k, 1, dawn));
                seen.append(' ').append(x.grains(k, 2, dawn)).append(' ').append(x.lost(k, dawn, 1));
            }
        }
        for (int day = 0; day < 60; day++) {
            seen.append(' ').append(x.rains(day)).append(' ').append(x.liked(day));
        }
        for (int k = 0; k < 4; k++) {
            for (int lane = 0; lane < 3; lane++) {
                for (int i = 0; i <= 60; i++) {
                    seen.append(' ').append(x.cell(k, i, lane));
                }
            }
        }
        return seen.toString();
    }

    /** A call that is refused changes nothing; fault() becomes 0 where the call names FAULTS, else it stays. */
    private static void refused(SaltSaints x, String call, boolean namesFaults, LongSupplier made, long want) {
        String before = picture(x);
        int ahead = x.fault();
        due(call, made.getAsLong(), want);
        due("fault() after " + call, x.fault(), namesFaults ? 0 : ahead);
        due("what is seen after " + call, picture(x).equals(before) ? 1 : 0, 1);
    }

    private static void faulted(SaltSaints x, String call, LongSupplier made, long want, int fault) {
        String before = picture(x);
        due(call, made.getAsLong(), want);
        due("fault() after " + call, x.fault(), fault);
        due("what is seen after " + call, picture(x).equals(before) ? 1 : 0, 1);
    }

    // ---- the promises

    private static void constants() {
        due("UNKNOWN", SaltSaints.UNKNOWN, UNKNOWN);
        due("OUTSIDE", SaltSaints.OUTSIDE, OUTSIDE);
        due("STATE", SaltSaints.STATE, STATE);
        due("FULL", SaltSaints.FULL, FULL);
        due("NONE", SaltSaints.NONE, NONE);
        due("LOST", SaltSaints.LOST, LOST);
    }

    private static void p1NewObject() {
        promise = 1;
        SaltSaints x = new SaltSaints();
        due("fault()", x.fault(), 0);
        due("trace()", x.trace(), 0);
        due("many(0)", x.many(0), 0);
        due("many(1)", x.many(1), 0);
        due("many(2)", x.many(2), 0);
        due("ofStatue(0, 0)", x.ofStatue(0, 0), UNKNOWN);
        for (int k = 0; k < 4; k++) {
            due("lose(" + k + ")", x.lose(k), 0);
        }
        SaltSaints other = with(FOUR);
        due("many(0) of another object", other.many(0), 4);
        due("many(0) beside it", x.many(0), 0);
        due("lose(0) beside it", x.lose(0), 0);
    }

    private static void p2Statues() {
        promise = 2;
        for (int lane = 0; lane < 3; lane++) {
            SaltSaints x = new SaltSaints();
            write(x, 3, lane, 2, FOUR);
            due("statues(3, " + lane + ", 2, 23)", x.statues(3, lane, 2, 23), 4);
            due("many(0)", x.many(0), 4);
            due("ofStatue(3, 4)", x.ofStatue(3, 4), 3);
            due("statues(3, " + lane + ", 8, 5)", x.statues(3, lane, 8, 5), 1);
            due("ofStatue(0, 3)", x.ofStatue(0, 3), 1);
        }
        due("seven", tellText(new SaltSaints(), SEVEN), 7);
        due("one", tellText(new SaltSaints(), "m9993"), 1);
        SaltSaints x = new SaltSaints();
        write(x, 1, 0, 0, "s1110");
        x.put(1, 0, 256 + 's');
        due("a code cut to its byte", x.statues(1, 0, 0, 5), 1);
        write(x, 1, 2, 0, "s1110");
        x.put(1, 0, 256 + 's');
        due("an int code is not", x.statues(1, 2, 0, 5), -100);
    }

    private static void p2FirstFault() {
        String[] texts = {"", "x", "S1113", ";", "c1113", "1", "s", "s0", "s:", "s/", "s1", "s1a", "s10", "s11", "s110",
            "s11;", "s111", "s1114", "s111/", "s1113;", "s1113,", "s1113s", "s11133", "s1113;x", "s1113;;", "s1113;b",
            "b9990;m9", "b9990;m0110", SEVEN + ";", SEVEN + ";s1110", SEVEN + "x", SEVEN.substring(0, 36), SEVEN.substring(0, 40)};
        int[] places = {0, 0, 0, 0, 0, 0, 1, 1, 1, 1, 2, 2, 2, 3, 3,
            3, 4, 4, 4, 6, 5, 5, 5, 6, 6, 7,
            8, 7, 41, 41, 41, 36, 40};
        for (int t = 0; t < texts.length; t++) {
            due("the TEXT " + texts[t], tellText(new SaltSaints(), texts[t]), -100 - places[t]);
        }
        SaltSaints x = new SaltSaints();
        write(x, 0, 1, 10, "s1119");
        due("a place counts from where the TEXT begins", x.statues(0, 1, 10, 5), -104);
    }

    private static void p2Anew() {
        SaltSaints x = with(FOUR);
        x.rain(0, 9, 1);
        x.rain(59, 9, 3);
        x.deer(9);
        x.reading(0, 0, 0, 1);
        x.over(0, 1);
        x.over(1, 2);
        x.fence(0, true);
        x.look(0, 3);
        x.tell(2);
        x.put(0, 0, 'b');
        due("statues anew", x.statues(0, 0, 0, 11), 2);
        due("fault()", x.fault(), 0);
        due("many(0)", x.many(0), 2);
        due("many(1)", x.many(1), 0);
        due("many(2)", x.many(2), 0);
        due("rains(0)", x.rains(0), 1023);
        int[] first = {10, 20, 30, 1, 0, 0, 0};
        for (int what = 0; what < 7; what++) {
            due("ofStatue(0, " + what + ")", x.ofStatue(0, what), first[what]);
        }
        due("ofStatue(1, 5)", x.ofStatue(1, 5), 0);
        due("ofStatue(2, 0)", x.ofStatue(2, 0), UNKNOWN);
        due("grains(0, 0, 60)", x.grains(0, 0, 60), 10);
        due("lost(0, 60, 1)", x.lost(0, 60, 1), 0);
        due("rain(0, 0, 0)", x.rain(0, 0, 0), 0);
        due("rain(59, 0, 0)", x.rain(59, 0, 0), 0);
        due("trace() stays", x.trace(), ((3 * 31 + 2) * 31 + 1) * 31 + 1);
        due("cell(0, 22, 0) stays", x.cell(0, 22, 0), '3');
    }

    /** Nothing of the STATUES of an earlier TEXT is left. */
    private static void p2Fewer() {
        SaltSaints x = with("s1110;s9990;s9990;s9990;s9990;s9990;s9990");
        x.deer(9);
        rainFor(x, 9, 9, 1);
        due("grains(1, 0, 60)", x.grains(1, 0, 60), 9);
        due("statues anew", tellText(x, "s1110"), 1);
        x.deer(1);
        rainFor(x, 3, 2, 1);
        due("lasts(0)", x.lasts(0), 0);
        due("lasts(1)", x.lasts(1), 2);
        due("lasts(2)", x.lasts(2), 15);
        due("liked(0)", x.liked(0), 0);
        due("liked(9)", x.liked(9), NONE);
        due("whose(0, 0)", x.whose(0, 0), 1);
        due("cast(1, 1)", x.cast(1, 1), 7);
        due("umbrellas(1, 0)", x.umbrellas(1, 0), 1);
        due("umbrellas(1, 1)", x.umbrellas(1, 1), 1);
        due("umbrellas(0, 1)", x.umbrellas(0, 1), 1);
        due("turn(0)", x.turn(0), 0);
        due("turn(1)", x.turn(1), 61);
        x.sheet(1, 1, 3);
        x.put(1, 0, 90);
        due("takenFor(0, 1, 1, 0, 0)", x.takenFor(0, 1, 1, 0, 0), 0);
        rainFor(x, 60, 9, 0);
        due("roofs(60, 0)", x.roofs(60, 0), 1);
        due("turn(1)", x.turn(1), 2);
    }

    private static void p2Refusals() {
        SaltSaints x = with(FOUR);
        x.rain(0, 5, 1);
        x.deer(3);
        x.reading(0, 0, 1, 5);
        x.sheet(1, 1, 5);
        int[] noSheets = {-1, 4, MIN, MAX};
        for (int k : noSheets) {
            refused(x, "statues(" + k + ", 3, -1, -1)", true, () -> x.statues(k, 3, -1, -1), UNKNOWN);
        }
        refused(x, "statues(2, 3, -1, -1)", true, () -> x.statues(2, 3, -1, -1), OUTSIDE);
        refused(x, "statues(2, -1, -1, -1)", true, () -> x.statues(2, -1, -1, -1), OUTSIDE);
        faulted(x, "statues(1, 0, -1, -1)", () -> x.statues(1, 0, -1, -1), CAST, 2);
        faulted(x, "statues(2, 0, -1, -1)", () -> x.statues(2, 0, -1, -1), NULL, 1);
        faulted(x, "statues(0, 0, -1, -1)", () -> x.statues(0, 0, -1, -1), SIZE, 4);
        faulted(x, "statues(0, 0, 0, MIN)", () -> x.statues(0, 0, 0, MIN), SIZE, 4);
        int[][] beyond = {{-1, 5}, {-1, 0}, {0, 24}, {1, 23}, {23, 1}, {24, 0}, {MAX, MAX}, {1, MAX}, {MAX, 0}, {MIN, 0}, {MIN, MAX}};
        for (int[] run : beyond) {
            faulted(x, "statues(0, 0, " + run[0] + ", " + run[1] + ")", () -> x.statues(0, 0, run[0], run[1]), INDEX, 3);
        }
        refused(x, "statues(0, 0, 23, 0)", true, () -> x.statues(0, 0, 23, 0), -100);
        refused(x, "statues(0, 0, 0, 22)", true, () -> x.statues(0, 0, 0, 22), -122);
        refused(x, "statues(1, 1, 0, 5)", true, () -> x.statues(1, 1, 0, 5), -100);
    }

    private static void p3OfStatue() {
        promise = 3;
        SaltSaints x = with(FOUR);
        x.over(1, 1);
        x.over(2, 2);
        x.fence(3, true);
        x.rain(0, 9, 0);
        x.deer(5);
        int[][] want = {{10, 20, 30, 0, 0, 0, 0}, {20, 10, 20, 1, 1, 1, 0}, {30, 20, 10, 2, 2, 2, 0}, {50, 50, 50, 0, 3, 0, 1}};
        for (int k = 0; k < 4; k++) {
            for (int what = 0; what < 7; what++) {
                due("ofStatue(" + k + ", " + what + ")", x.ofStatue(k, what), want[k][what]);
            }
        }
        due("ofStatue(4, 7)", x.ofStatue(4, 7), UNKNOWN);
        due("ofStatue(-1, 0)", x.ofStatue(-1, 0), UNKNOWN);
        due("ofStatue(0, 7)", x.ofStatue(0, 7), OUTSIDE);
        due("ofStatue(0, -1)", x.ofStatue(0, -1), OUTSIDE);
        due("ofStatue(MIN, MIN)", x.ofStatue(MIN, MIN), UNKNOWN);
    }

    private static void p4Look() {
        promise = 4;
        SaltSaints x = with("s9993;b9991");
        x.rain(0, 2, 0);
        due("grains(0, 0, 1)", x.grains(0, 0, 1), 88);
        due("look(0, 0)", x.look(0, 0), 3);
        due("grains(0, 0, 1) turned into the wind", x.grains(0, 0, 1), 84);
        due("look(0, 2)", x.look(0, 2), 0);
        due("look(0, 2) again", x.look(0, 2), 2);
        due("ofStatue(0, 4)", x.ofStatue(0, 4), 2);
        due("ofStatue(1, 4)", x.ofStatue(1, 4), 1);
        refused(x, "look(2, 4)", false, () -> x.look(2, 4), UNKNOWN);
        refused(x, "look(-1, 0)", false, () -> x.look(-1, 0), UNKNOWN);
        refused(x, "look(0, 4)", false, () -> x.look(0, 4), OUTSIDE);
        refused(x, "look(0, -1)", false, () -> x.look(0, -1), OUTSIDE);
    }

    private static void p5Over() {
        promise = 5;
        SaltSaints x = with("s9993;b9991");
        x.rain(0, 8, 0);
        due("over(0, 1)", x.over(0, 1), 0);
        due("grains(0, 1, 1)", x.grains(0, 1, 1), 82);
        due("over(0, 2)", x.over(0, 2), 1);
        due("grains(0, 1, 1)", x.grains(0, 1, 1), 90);
        due("over(0, 0)", x.over(0, 0), 2);
        due("grains(0, 1, 1)", x.grains(0, 1, 1), 74);
        refused(x, "over(2, 3)", false, () -> x.over(2, 3), UNKNOWN);
        refused(x, "over(-1, 0)", false, () -> x.over(-1, 0), UNKNOWN);
        refused(x, "over(0, 3)", false, () -> x.over(0, 3), OUTSIDE);
        refused(x, "over(0, -1)", false, () -> x.over(0, -1), OUTSIDE);
    }

    private static void p6Fence() {
        promise = 6;
        SaltSaints x = with("s9993;b9991");
        x.deer(1);
        due("fence(0, false)", x.fence(0, false), 0);
        due("liked(0)", x.liked(0), 0);
        due("fence(0, true)", x.fence(0, true), 1);
        due("liked(0)", x.liked(0), 1);
        due("fence(0, true) again", x.fence(0, true), 0);
        due("ofStatue(0, 6)", x.ofStatue(0, 6), 1);
        due("fence(0, false)", x.fence(0, false), 1);
        due("liked(0)", x.liked(0), 0);
        refused(x, "fence(2, true)", false, () -> x.fence(2, true), UNKNOWN);
        refused(x, "fence(-1, true)", false, () -> x.fence(-1, true), UNKNOWN);
    }

    private static void p7Rain() {
        promise = 7;
        SaltSaints none = new SaltSaints();
        refused(none, "rain(60, 0, 0) without STATUES", false, () -> none.rain(60, 0, 0), OUTSIDE);
        refused(none, "rain(0, 0, 0) without STATUES", false, () -> none.rain(0, 0, 0), STATE);
        SaltSaints x = with("s9990");
        due("rain(0, 3, 2)", x.rain(0, 3, 2), 0);
        due("rain(0, 5, 1)", x.rain(0, 5, 1), 32);
        due("rain(0, 0, 3)", x.rain(0, 0, 3), 51);
        due("rain(0, 9, 0)", x.rain(0, 9, 0), 3);
        due("rain(59, 9, 3)", x.rain(59, 9, 3), 0);
        due("rain(59, 9, 3)", x.rain(59, 9, 3), 93);
        due("grains(0, 0, 59)", x.grains(0, 0, 59), 63);
        due("grains(0, 0, 60)", x.grains(0, 0, 60), 54);
        int[][] outside = {{60, 0, 0}, {-1, 0, 0}, {0, 10, 0}, {0, -1, 0}, {0, 0, 4}, {0, 0, -1}, {MIN, MAX, MIN}};
        for (int[] to : outside) {
            refused(x, "rain(" + to[0] + ", " + to[1] + ", " + to[2] + ")", false, () -> x.rain(to[0], to[1], to[2]), OUTSIDE);
        }
    }

    private static void p8Deer() {
        promise = 8;
        SaltSaints none = new SaltSaints();
        refused(none, "deer(10) without STATUES", false, () -> none.deer(10), OUTSIDE);
        refused(none, "deer(0) without STATUES", false, () -> none.deer(0), STATE);
        SaltSaints x = with("s9990");
        due("deer(9)", x.deer(9), 0);
        due("lost(0, 1, 1)", x.lost(0, 1, 1), 18);
        due("lost(0, 2, 1)", x.lost(0, 2, 1), 36);
        due("deer(2)", x.deer(2), 9);
        due("lost(0, 2, 1)", x.lost(0, 2, 1), 8);
        due("deer(0)", x.deer(0), 2);
        due("lost(0, 60, 1)", x.lost(0, 60, 1), 0);
        refused(x, "deer(10)", false, () -> x.deer(10), OUTSIDE);
        refused(x, "deer(-1)", false, () -> x.deer(-1), OUTSIDE);
    }

    private static void dueParts(SaltSaints x, int k, int dawn, int nose, int head, int body) {
        due("grains(" + k + ", 0, " + dawn + ")", x.grains(k, 0, dawn), nose);
        due("grains(" + k + ", 1, " + dawn + ")", x.grains(k, 1, dawn), head);
        due("grains(" + k + ", 2, " + dawn + ")", x.grains(k, 2, dawn), body);
    }

    private static void p9GrainsInRain() {
        promise = 9;
        SaltSaints x = with("s9990;b9991;m9990;s1110;m9991");
        x.rain(0, 9, 0);
        x.rain(2, 7, 1);
        dueParts(x, 0, 0, 90, 90, 90);
        dueParts(x, 0, 1, 63, 72, 81);
        dueParts(x, 1, 1, 81, 72, 81);
        dueParts(x, 2, 1, 77, 81, 86);
        dueParts(x, 3, 1, 0, 0, 1);
        dueParts(x, 4, 1, 86, 81, 86);
        dueParts(x, 0, 2, 63, 72, 81);
        dueParts(x, 0, 3, 56, 58, 74);
        dueParts(x, 1, 3, 60, 58, 74);
        dueParts(x, 2, 3, 74, 74, 83);
        dueParts(x, 3, 60, 0, 0, 0);
        dueParts(x, 4, 60, 76, 74, 83);
        int[][] unknown = {{5, 0, 0}, {-1, 0, 0}, {5, 0, 61}, {0, 3, 61}, {0, -1, 0}, {MAX, MAX, MAX}};
        for (int[] of : unknown) {
            due("grains(" + of[0] + ", " + of[1] + ", " + of[2] + ")", x.grains(of[0], of[1], of[2]), UNKNOWN);
        }
        due("grains(0, 0, 61)", x.grains(0, 0, 61), OUTSIDE);
        due("grains(0, 0, -1)", x.grains(0, 0, -1), OUTSIDE);
    }

    private static void p9GrainsUnderCovers() {
        SaltSaints x = with("s9990;m9990;m9990;s1110;m9991");
        x.rain(0, 9, 0);
        x.over(0, 1);
        x.over(1, 1);
        x.over(2, 2);
        x.over(3, 1);
        x.over(4, 1);
        dueParts(x, 0, 1, 77, 81, 86);
        dueParts(x, 1, 1, 84, 86, 88);
        dueParts(x, 2, 1, 90, 90, 90);
        dueParts(x, 3, 1, 0, 1, 6);
        dueParts(x, 4, 1, 88, 86, 88);
    }

    private static void p9GrainsAndDeer() {
        SaltSaints saint = with("s1110");
        saint.deer(4);
        due("a SAINT's body", saint.grains(0, 2, 1), 2);
        due("a SAINT's body, licked up", saint.grains(0, 2, 2), 0);
        due("only bodies are licked", saint.grains(0, 0, 60) + saint.grains(0, 1, 60), 20);
        saint.rain(0, 7, 3);
        due("2 GRAINS and the last one", saint.grains(0, 2, 1), 0);
        due("of what the rain left", saint.lost(0, 1, 1), 3);
        for (String text : new String[] {"b1110", "m1110"}) {
            SaltSaints x = with(text);
            x.deer(9);
            due(text + ": more than half, then below", x.grains(0, 2, 60), 4);
            x.rain(0, text.charAt(0) == 'm' ? 9 : 4, 3);
            due(text + ": 6 left by the rain", x.grains(0, 2, 1), 4);
            x.rain(0, 0, 0);
            x.rain(1, 9, 0);
            due(text + ": licked ahead of the later rain", x.lost(0, 2, 1), 6);
        }
        SaltSaints half = with("b1110");
        half.deer(9);
        half.rain(0, 5, 3);
        due("just half is not licked", half.grains(0, 2, 60), 5);
    }

    private static void p10Lost() {
        promise = 10;
        SaltSaints x = with("s1110;m2220");
        x.rain(0, 9, 0);
        x.rain(1, 9, 1);
        x.deer(1);
        due("lost(0, 0, 0)", x.lost(0, 0, 0), 0);
        due("lost(0, 1, 0)", x.lost(0, 1, 0), 29);
        due("lost(0, 2, 0)", x.lost(0, 2, 0), 30);
        due("lost(1, 1, 0)", x.lost(1, 1, 0), 13 + 9 + 4);
        due("lost(1, 2, 0)", x.lost(1, 2, 0), 17 + 18 + 8);
        due("lost(1, 0, 1)", x.lost(1, 0, 1), 0);
        due("lost(1, 1, 1)", x.lost(1, 1, 1), 2);
        due("lost(0, 60, 1)", x.lost(0, 60, 1), 0);
        due("lost(1, 2, 1): 14, less 4, is no more than half", x.lost(1, 2, 1), 2);
        SaltSaints unlike = with("s1230");
        unlike.rain(0, 2, 0);
        due("lost(0, 0, 0) of unlike PARTS", unlike.lost(0, 0, 0), 0);
        due("lost(0, 1, 0) of unlike PARTS", unlike.lost(0, 1, 0), 12);
        int[][] unknown = {{2, 0, 0}, {-1, 61, 2}};
        for (int[] of : unknown) {
            due("lost(" + of[0] + ", " + of[1] + ", " + of[2] + ")", x.lost(of[0], of[1], of[2]), UNKNOWN);
        }
        int[][] outside = {{0, 61, 0}, {0, -1, 0}, {0, 0, 2}, {0, 0, -1}};
        for (int[] of : outside) {
            due("lost(" + of[0] + ", " + of[1] + ", " + of[2] + ")", x.lost(of[0], of[1], of[2]), OUTSIDE);
        }
    }

    private static void p11Gone() {
        promise = 11;
        SaltSaints x = with("s1110;s2110");
        for (int part = 0; part < 4; part++) {
            due("gone(0, " + part + ")", x.gone(0, part), NONE);
        }
        x.rain(2, 5, 0);
        x.rain(4, 5, 0);
        int[][] want = {{3, 3, 5, 5}, {5, 3, 5, 5}};
        for (int k = 0; k < 2; k++) {
            for (int part = 0; part < 4; part++) {
                due("gone(" + k + ", " + part + ")", x.gone(k, part), want[k][part]);
            }
        }
        SaltSaints late = with("s1110");
        late.rain(59, 9, 0);
        due("gone(0, 0) at the last DAWN", late.gone(0, 0), 60);
        due("gone(0, 3) never", late.gone(0, 3), NONE);
        late.deer(1);
        due("gone(0, 2) by deer", late.gone(0, 2), 5);
        due("gone(0, 3) once all are", late.gone(0, 3), 60);
        int[][] unknown = {{2, 0}, {-1, 0}, {0, 4}, {0, -1}};
        for (int[] of : unknown) {
            due("gone(" + of[0] + ", " + of[1] + ")", x.gone(of[0], of[1]), UNKNOWN);
        }
    }

    private static void p12Liked() {
        promise = 12;
        SaltSaints none = new SaltSaints();
        due("liked(60) without STATUES", none.liked(60), OUTSIDE);
        due("liked(0) without STATUES", none.liked(0), STATE);
        SaltSaints x = with("s1120;s1130");
        due("liked(0) without DEER", x.liked(0), NONE);
        x.deer(1);
        int[] want = {1, 1, 1, 1, 1, 0, 1, 0, 1};
        for (int day = 0; day < want.length; day++) {
            due("liked(" + day + ")", x.liked(day), want[day]);
        }
        due("liked(59), all licked up", x.liked(59), NONE);
        due("liked(24), the last 2 GRAINS", x.liked(24), 1);
        due("liked(25)", x.liked(25), NONE);
        x.fence(1, true);
        due("liked(0) beside a FENCE", x.liked(0), 0);
        x.fence(0, true);
        due("liked(0), all in FENCES", x.liked(0), NONE);
        due("liked(60)", x.liked(60), OUTSIDE);
        due("liked(-1)", x.liked(-1), OUTSIDE);
        SaltSaints wet = with("s1120;s1120");
        wet.deer(9);
        due("liked(0), the least of equals", wet.liked(0), 0);
        wet.over(1, 2);
        wet.rain(0, 1, 3);
        due("liked(0), after the rain of that day", wet.liked(0), 1);
        SaltSaints spare = with("b1190;s1110");
        spare.deer(1);
        spare.rain(0, 9, 3);
        spare.rain(1, 9, 3);
        spare.rain(2, 9, 3);
        spare.rain(3, 9, 3);
        spare.rain(4, 9, 3);
        due("liked(4): a BISHOP no longer, a SAINT is gone", spare.liked(4), NONE);
    }

    private static void p13Lasts() {
        promise = 13;
        SaltSaints none = new SaltSaints();
        due("lasts(0) without STATUES", none.lasts(0), LOST);
        SaltSaints x = with("s1110;s1120;s1120");
        due("lasts(0), none gone", x.lasts(0), 0);
        due("lasts(1), all left", x.lasts(1), 1);
        due("lasts(2), all left", x.lasts(2), 1);
        x.rain(0, 1, 1);
        due("lasts(1)", x.lasts(1), 49);
        due("lasts(2)", x.lasts(2), 55);
        rainFor(x, 3, 9, 3);
        due("lasts(0), the least of the latest", x.lasts(0), 1);
        due("lasts(1), nothing left", x.lasts(1), 0);
        due("lasts(2), nothing left", x.lasts(2), 1);
        x.over(2, 2);
        due("lasts(0), NONE is longest", x.lasts(0), 2);
        due("lasts(1)", x.lasts(1), 4);
        due("lasts(2)", x.lasts(2), 11);
        SaltSaints least = with("m1110");
        least.rain(0, 1, 1);
        due("lasts(1), least terms at once", least.lasts(1), 29);
        due("lasts(2), least terms at once", least.lasts(2), 30);
        SaltSaints seven = with(SEVEN);
        seven.over(6, 2);
        rainFor(seven, 9, 9, 3);
        due("lasts(0) of seven", seven.lasts(0), 6);
        due("lasts(2) of seven", seven.lasts(2), 7);
        due("lasts(0) of seven in no rain", with(SEVEN).lasts(0), 0);
        due("lasts(3)", x.lasts(3), LOST);
        due("lasts(-1)", x.lasts(-1), LOST);
    }

    private static void p14Umbrellas() {
        promise = 14;
        SaltSaints none = new SaltSaints();
        due("umbrellas(4, 0) without STATUES", none.umbrellas(4, 0), OUTSIDE);
        due("umbrellas(0, 0) without STATUES", none.umbrellas(0, 0), STATE);
        SaltSaints x = with("s1110;s1110;s1110;s1110");
        due("umbrellas(2, 0) in no rain", x.umbrellas(2, 0), 3);
        due("umbrellas(2, 1) in no rain", x.umbrellas(2, 1), 4);
        rainFor(x, 2, 9, 3);
        x.over(2, 2);
        x.over(3, 1);
        int[] sets = {0, 1, 3, 7};
        for (int u = 0; u < 4; u++) {
            due("umbrellas(" + u + ", 0)", x.umbrellas(u, 0), sets[u]);
            due("umbrellas(" + u + ", 1)", x.umbrellas(u, 1), u);
        }
        due("ofStatue(2, 5) stays", x.ofStatue(2, 5), 2);
        due("ofStatue(0, 5) stays", x.ofStatue(0, 5), 0);
        SaltSaints two = with("s1113;s1110");
        two.rain(0, 9, 3);
        two.rain(59, 1, 3);
        due("umbrellas(1, 0): one is past help", two.umbrellas(1, 0), 2);
        due("umbrellas(1, 1)", two.umbrellas(1, 1), 1);
        due("umbrellas(3, 0) of two", two.umbrellas(3, 0), 3);
        due("umbrellas(3, 1) of two", two.umbrellas(3, 1), 1);
        int[][] outside = {{4, 0}, {-1, 0}, {0, 2}, {0, -1}};
        for (int[] of : outside) {
            due("umbrellas(" + of[0] + ", " + of[1] + ")", x.umbrellas(of[0], of[1]), OUTSIDE);
        }
    }

    private static void p15Turn() {
        promise = 15;
        SaltSaints none = new SaltSaints();
        due("turn(2) without STATUES", none.turn(2), OUTSIDE);
        due("turn(0) without STATUES", none.turn(0), STATE);
        SaltSaints x = with("s1110;s1113");
        due("turn(0) in no rain", x.turn(0), 0);
        due("turn(1) in no rain", x.turn(1), 61);
        x.rain(0, 4, 3);
        due("turn(0)", x.turn(0), 10);
        due("turn(1)", x.turn(1), 61);
        due("ofStatue(1, 4) stays", x.ofStatue(1, 4), 3);
        x.look(0, 3);
        due("turn(0), the other is gone all the same", x.turn(0), 0);
        due("turn(1), the other is gone all the same", x.turn(1), 1);
        x.over(0, 2);
        due("turn(0) beside a ROOF", x.turn(0), 10);
        due("turn(1) beside a ROOF", x.turn(1), 61);
        SaltSaints one = with("s1110");
        one.rain(0, 9, 0);
        one.rain(1, 9, 1);
        due("turn(0), the latest", one.turn(0), 1);
        due("turn(1), the latest", one.turn(1), 2);
        one.over(0, 1);
        one.rain(1, 1, 1);
        due("turn(0) under an UMBRELLA", one.turn(0), 1);
        due("turn(1) under an UMBRELLA", one.turn(1), 61);
        SaltSaints last = with("s1110");
        last.rain(0, 9, 1);
        last.rain(59, 1, 0);
        due("turn(0) at the last DAWN", last.turn(0), 0);
        due("turn(1) at the last DAWN", last.turn(1), 60);
        SaltSaints all = with("s1990");
        for (int day = 0; day < 4; day++) {
            all.rain(day, 2, day);
        }
        due("turn(0) in winds of all sides", all.turn(0), 3);
        due("turn(1) in winds of all sides", all.turn(1), 4);
        SaltSaints seven = with("s9990;s9990;s9990;s9990;s9990;s9990;s1110");
        seven.rain(0, 9, 0);
        due("turn(0) of seven", seven.turn(0), 61);
        due("turn(1) of seven", seven.turn(1), 61);
        due("turn(2)", x.turn(2), OUTSIDE);
        due("turn(-1)", x.turn(-1), OUTSIDE);
    }

    private static void p16Roofs() {
        promise = 16;
        SaltSaints none = new SaltSaints();
        due("roofs(61, 0) without STATUES", none.roofs(61, 0), OUTSIDE);
        due("roofs(0, 0) without STATUES", none.roofs(0, 0), STATE);
        SaltSaints x = with("s1110;s2110;s1110");
        rainFor(x, 3, 9, 3);
        int[] sets = {0, 0, 5, 7};
        for (int dawn = 0; dawn < 4; dawn++) {
            due("roofs(" + dawn + ", 0)", x.roofs(dawn, 0), sets[dawn]);
            due("roofs(" + dawn + ", 1)", x.roofs(dawn, 1), Integer.bitCount(sets[dawn]));
        }
        x.over(0, 1);
        x.over(2, 2);
        due("roofs(2, 0), one has an UMBRELLA, one a ROOF", x.roofs(2, 0), 0);
        due("roofs(60, 0), the UMBRELLA does not do", x.roofs(60, 0), 3);
        due("roofs(60, 1)", x.roofs(60, 1), 2);
        due("ofStatue(0, 5) stays", x.ofStatue(0, 5), 1);
        int[][] outside = {{61, 0}, {-1, 0}, {0, 2}, {0, -1}};
        for (int[] of : outside) {
            due("roofs(" + of[0] + ", " + of[1] + ")", x.roofs(of[0], of[1]), OUTSIDE);
        }
    }

    private static void p17TakenFor() {
        promise = 17;
        SaltSaints x = with("s1230;b2121;m3212;s5553");
        x.sheet(2, 1, 6);
        int[] cells = {999, 12, 20, 28, 0, 1000};
        for (int i = 0; i < cells.length; i++) {
            x.put(2, i, cells[i]);
        }
        due("takenFor(0, 2, 1, 1, 0)", x.takenFor(0, 2, 1, 1, 0), 0);
        due("takenFor(0, 2, 1, 1, 1)", x.takenFor(0, 2, 1, 1, 1), 4);
        due("takenFor(0, 2, 1, 0, 0)", x.takenFor(0, 2, 1, 0, 0), 1);
        due("takenFor(0, 2, 1, 0, 1)", x.takenFor(0, 2, 1, 0, 1), 979 + 2 + 0);
        due("takenFor(0, 2, 1, 2, 0)", x.takenFor(0, 2, 1, 2, 0), 2);
        due("takenFor(0, 2, 1, 2, 1)", x.takenFor(0, 2, 1, 2, 1), 10 + 8 + 10);
        x.rain(0, 9, 3);
        due("takenFor(1, 2, 1, 1, 1) by what is left", x.takenFor(1, 2, 1, 1, 1), 11 + 18 + 7);
        due("takenFor(1, 2, 1, 1, 0) by what is left", x.takenFor(1, 2, 1, 1, 0), 0);
        due("fault()", x.fault(), 0);
        SaltSaints equal = with("m1110;m1110");
        equal.sheet(1, 0, 3);
        due("takenFor(0, 1, 0, 0, 0) of equals", equal.takenFor(0, 1, 0, 0, 0), 0);
        due("takenFor(0, 1, 0, 0, 1) of equals", equal.takenFor(0, 1, 0, 0, 1), 30);
    }

    private static void p17Refusals() {
        SaltSaints none = new SaltSaints();
        none.sheet(2, 2, 3);
        none.put(2, 0, 1000);
        refused(none, "takenFor without STATUES", true, () -> none.takenFor(0, 2, 2, 0, 0), STATE);
        faulted(none, "takenFor beyond, without STATUES", () -> none.takenFor(0, 2, 2, 1, 0), INDEX, 3);
        SaltSaints x = with("s1110");
        x.sheet(2, 2, 6);
        x.put(2, 4, -1);
        x.put(2, 5, 1000);
        refused(x, "takenFor(61, 4, 3, -1, 2)", true, () -> x.takenFor(61, 4, 3, -1, 2), UNKNOWN);
        refused(x, "takenFor(61, 2, 2, 0, 0)", true, () -> x.takenFor(61, 2, 2, 0, 0), OUTSIDE);
        refused(x, "takenFor(-1, 3, 2, 0, 0)", true, () -> x.takenFor(-1, 3, 2, 0, 0), OUTSIDE);
        refused(x, "takenFor(0, 3, 2, 0, 2)", true, () -> x.takenFor(0, 3, 2, 0, 2), OUTSIDE);
        refused(x, "takenFor(0, 3, 3, 0, 0)", true, () -> x.takenFor(0, 3, 3, 0, 0), OUTSIDE);
        faulted(x, "takenFor(0, 2, 1, -1, 0)", () -> x.takenFor(0, 2, 1, -1, 0), CAST, 2);
        faulted(x, "takenFor(0, 3, 1, -1, 0)", () -> x.takenFor(0, 3, 1, -1, 0), NULL, 1);
        int[] beyond = {-1, 4, 6, 7, MAX, MIN};
        for (int i : beyond) {
            faulted(x, "takenFor(0, 2, 2, " + i + ", 0)", () -> x.takenFor(0, 2, 2, i, 0), INDEX, 3);
        }
        refused(x, "takenFor(0, 2, 2, 3, 0)", true, () -> x.takenFor(0, 2, 2, 3, 0), OUTSIDE);
        refused(x, "takenFor(0, 2, 2, 2, 1)", true, () -> x.takenFor(0, 2, 2, 2, 1), OUTSIDE);
        x.put(2, 2, 1000);
        refused(x, "takenFor(0, 2, 2, 2, 0)", true, () -> x.takenFor(0, 2, 2, 2, 0), OUTSIDE);
        x.put(2, 4, 0);
        refused(x, "takenFor(0, 2, 2, 2, 0), the first alone", true, () -> x.takenFor(0, 2, 2, 2, 0), OUTSIDE);
        refused(x, "takenFor(0, 2, 2, 3, 1)", true, () -> x.takenFor(0, 2, 2, 3, 1), OUTSIDE);
        x.put(2, 5, 999);
        due("takenFor(0, 2, 2, 3, 1)", x.takenFor(0, 2, 2, 3, 1), 10 + 10 + 989);
    }

    private static void p18Whose() {
        promise = 18;
        SaltSaints x = with("s9990;s9991;m9990;s9990");
        due("whose(0, 0)", x.whose(0, 0), 15);
        x.rain(0, 1, 0);
        x.over(3, 2);
        due("whose(6, 1)", x.whose(6, 1), 1);
        due("whose(4, 1)", x.whose(4, 1), 2);
        due("whose(2, 1)", x.whose(2, 1), 4);
        due("whose(0, 1)", x.whose(0, 1), 8);
        due("whose(0, 0)", x.whose(0, 0), 15);
        due("whose(5, 1)", x.whose(5, 1), 0);
        due("whose(-1, 1)", x.whose(-1, 1), 0);
        due("whose(MAX, 60)", x.whose(MAX, 60), 0);
        x.deer(9);
        due("whose(0, 1): what is licked is in no PUDDLE", x.whose(0, 1), 8);
        due("whose(0, 61)", x.whose(0, 61), OUTSIDE);
        due("whose(0, -1)", x.whose(0, -1), OUTSIDE);
        due("whose(0, 60) without STATUES", new SaltSaints().whose(0, 60), 0);
        due("whose(0, 61) without STATUES", new SaltSaints().whose(0, 61), OUTSIDE);
    }

    private static void p19Reading() {
        promise = 19;
        SaltSaints x = with("s9990;s1110");
        refused(x, "reading(2, 0, 61, 100)", false, () -> x.reading(2, 0, 61, 100), UNKNOWN);
        refused(x, "reading(-1, 0, 0, 0)", false, () -> x.reading(-1, 0, 0, 0), UNKNOWN);
        refused(x, "reading(0, 3, 61, 0)", false, () -> x.reading(0, 3, 61, 0), UNKNOWN);
        refused(x, "reading(0, -1, 0, 0)", false, () -> x.reading(0, -1, 0, 0), UNKNOWN);
        int[][] outside = {{61, 0}, {-1, 0}, {0, 100}, {0, -1}};
        for (int[] of : outside) {
            refused(x, "reading(0, 0, " + of[0] + ", " + of[1] + ")", false, () -> x.reading(0, 0, of[0], of[1]), OUTSIDE);
        }
        for (int r = 0; r < 8; r++) {
            due("reading(1, 2, 60, 99)", x.reading(1, 2, 60, 99), r);
            due("many(2)", x.many(2), r + 1);
        }
        refused(x, "reading(0, 0, 0, 0) of nine", false, () -> x.reading(0, 0, 0, 0), FULL);
        refused(x, "reading(2, 0, 0, 0) of nine", false, () -> x.reading(2, 0, 0, 0), UNKNOWN);
        refused(x, "reading(0, 0, 61, 0) of nine", false, () -> x.reading(0, 0, 61, 0), OUTSIDE);
        due("back(1)", x.back(1), 7);
        due("reading(0, 0, 0, 0) of eight", x.reading(0, 0, 0, 0), 7);
        due("reading without STATUES", new SaltSaints().reading(0, 0, 0, 0), UNKNOWN);
    }

    private static void p20Back() {
        promise = 20;
        SaltSaints x = with("s9990");
        due("back(0) of none", x.back(0), 0);
        due("back(1) of none", x.back(1), OUTSIDE);
        x.reading(0, 2, 1, 85);
        x.reading(0, 2, 2, 80);
        x.reading(0, 2, 2, 79);
        due("rains(0)", x.rains(0), 0);
        refused(x, "back(4)", false, () -> x.back(4), OUTSIDE);
        refused(x, "back(-1)", false, () -> x.back(-1), OUTSIDE);
        due("back(0)", x.back(0), 3);
        x.rain(1, 5, 3);
        due("back(1), the last one", x.back(1), 2);
        due("rains(0), the first two stand", x.rains(0), 1 << 5);
        due("back(2)", x.back(2), 0);
        due("rains(0), none stands", x.rains(0), 1023);
        due("back(0) without STATUES", new SaltSaints().back(0), 0);
    }

    private static void p21Rains() {
        promise = 21;
        SaltSaints none = new SaltSaints();
        due("rains(60) without STATUES", none.rains(60), OUTSIDE);
        due("rains(0) without STATUES", none.rains(0), STATE);
        SaltSaints x = with("m9990;s1110");
        due("rains(0) without READINGS", x.rains(0), 1023);
        x.rain(3, 9, 0);
        x.reading(0, 2, 4, 88);
        due("rains(3), halves are cut", x.rains(3), 1 << 4 | 1 << 5);
        due("rain(3, 9, 0) was as it is", x.rain(3, 9, 0), 90);
        due("grains(0, 2, 4) is as it was", x.grains(0, 2, 4), 86);
        due("rains(4): the READING is wrong by any", x.rains(4), 0);
        x.rain(3, 4, 0);
        due("rains(4): the READING is ahead of it", x.rains(4), 1023);
        x.reading(0, 0, 4, 83);
        due("rains(3), the NOSE is in the wind", x.rains(3), 1 << 5);
        x.reading(1, 1, 60, 0);
        due("rains(3), three READINGS", x.rains(3), 1 << 5);
        x.reading(1, 1, 60, 1);
        due("rains(3), READINGS at odds", x.rains(3), 0);
        SaltSaints deer = with("s1110;s1120");
        deer.deer(1);
        deer.reading(1, 2, 2, 15);
        due("rains(0), deer lick it, too", deer.rains(0), 1 << 1);
        due("rains(59)", deer.rains(59), 0);
        due("rains(60)", x.rains(60), OUTSIDE);
        due("rains(-1)", x.rains(-1), OUTSIDE);
    }

    private static void p22Cast() {
        promise = 22;
        SaltSaints x = with("s9993;s9993");
        x.rain(0, 2, 0);
        due("cast(0, 1)", x.cast(0, 1), 0);
        due("cast(1, 1): nine tenths of 16", x.cast(1, 1), 14);
        due("cast(1, 7)", x.cast(1, 7), 2);
        due("cast(1, 8)", x.cast(1, 8), 1);
        due("cast(1, 14)", x.cast(1, 14), 1);
        due("cast(1, 15)", x.cast(1, 15), 0);
        due("cast(60, 999)", x.cast(60, 999), 0);
        x.deer(9);
        due("cast(1, 1): nothing of what is licked", x.cast(1, 1), 14);
        SaltSaints seven = with(SEVEN);
        rainFor(seven, 60, 9, 0);
        due("cast(60, 1) of seven", seven.cast(60, 1), 189);
        due("whose(30, 60) of seven", seven.whose(30, 60), 127);
        int[][] outside = {{61, 1}, {-1, 1}, {0, 0}, {0, 1000}, {0, -1}, {0, MIN}};
        for (int[] of : outside) {
            due("cast(" + of[0] + ", " + of[1] + ")", x.cast(of[0], of[1]), OUTSIDE);
        }
        due("cast(60, 1) without STATUES", new SaltSaints().cast(60, 1), 0);
        due("cast(61, 1) without STATUES", new SaltSaints().cast(61, 1), OUTSIDE);
    }

    private static void p23Sheet() {
        promise = 23;
        SaltSaints x = with("s1110");
        for (int lane = 0; lane < 3; lane++) {
            due("sheet(1, " + lane + ", 60)", x.sheet(1, lane, 60), 1);
            due("cell(1, 59, " + lane + ")", x.cell(1, 59, lane), 0);
            x.put(1, 59, 7);
        }
        due("sheet(1, 2, 60) again", x.sheet(1, 2, 60), 1);
        due("cell(1, 59, 2) is new", x.cell(1, 59, 2), 0);
        x.put(1, 3, 7);
        x.put(1, 0, 7);
        due("sheet(1, 2, 0)", x.sheet(1, 2, 0), 1);
        due("cell(1, 0, 2)", x.cell(1, 0, 2), LOST);
        due("sheet(1, 2, 4)", x.sheet(1, 2, 4), 1);
        due("cell(1, 3, 2) is new", x.cell(1, 3, 2), 0);
        due("cell(1, 0, 2) is new", x.cell(1, 0, 2), 0);
        x.put(1, 3, 7);
        refused(x, "sheet(4, 3, 61)", true, () -> x.sheet(4, 3, 61), UNKNOWN);
        refused(x, "sheet(-1, 0, -1)", true, () -> x.sheet(-1, 0, -1), UNKNOWN);
        refused(x, "sheet(1, 3, -1)", true, () -> x.sheet(1, 3, -1), OUTSIDE);
        refused(x, "sheet(1, -1, 1)", true, () -> x.sheet(1, -1, 1), OUTSIDE);
        refused(x, "sheet(1, 0, 61)", true, () -> x.sheet(1, 0, 61), OUTSIDE);
        refused(x, "sheet(1, 0, MAX)", true, () -> x.sheet(1, 0, MAX), OUTSIDE);
        faulted(x, "sheet(1, 0, -1)", () -> x.sheet(1, 0, -1), SIZE, 4);
        faulted(x, "sheet(1, 0, MIN)", () -> x.sheet(1, 0, MIN), SIZE, 4);
        x.sheet(1, 0, 1);
        due("fault()", x.fault(), 0);
    }

    private static void p24Lose() {
        promise = 24;
        SaltSaints x = with("s1110");
        due("lose(0)", x.lose(0), 1);
        due("lose(0) again", x.lose(0), 0);
        due("lose(3)", x.lose(3), 0);
        due("put(0, 0, 1)", x.put(0, 0, 1), NULL);
        x.sheet(3, 1, 0);
        due("lose(3) of no cells", x.lose(3), 1);
        refused(x, "lose(4)", false, () -> x.lose(4), UNKNOWN);
        refused(x, "lose(-1)", false, () -> x.lose(-1), UNKNOWN);
        x.put(0, 0, 1);
        x.lose(0);
        due("fault() stays", x.fault(), 1);
    }

    private static void p25Put() {
        promise = 25;
        SaltSaints x = new SaltSaints();
        int[] numbers = {0, 127, 128, 255, 256, -128, -129, 32767, 32768, 65536, -32769, MAX, MIN};
        for (int lane = 0; lane < 3; lane++) {
            x.sheet(lane, lane, 2);
            for (int v : numbers) {
                due("put(" + lane + ", 1, " + v + ")", x.put(lane, 1, v), 1);
                due("cell after put " + v, x.cell(lane, 1, lane), lane == 0 ? (byte) v : lane == 1 ? (short) v : v);
            }
            due("cell(" + lane + ", 0, " + lane + ")", x.cell(lane, 0, lane), 0);
        }
        refused(x, "put(4, -1, 0)", true, () -> x.put(4, -1, 0), UNKNOWN);
        refused(x, "put(-1, 0, 0)", true, () -> x.put(-1, 0, 0), UNKNOWN);
        faulted(x, "put(3, -1, 0)", () -> x.put(3, -1, 0), NULL, 1);
        int[] beyond = {-1, 2, MIN, MAX};
        for (int i : beyond) {
            faulted(x, "put(0, " + i + ", 9)", () -> x.put(0, i, 9), INDEX, 3);
        }
        x.put(0, 0, 1);
        due("fault()", x.fault(), 0);
    }

    private static void p26Cell() {
        promise = 26;
        SaltSaints x = new SaltSaints();
        x.sheet(0, 0, 3);
        x.put(0, 2, -1);
        due("cell(0, 2, 0)", x.cell(0, 2, 0), -1);
        due("fault()", x.fault(), 0);
        refused(x, "cell(4, -1, 3)", true, () -> x.cell(4, -1, 3), LOST);
        refused(x, "cell(1, -1, 3)", true, () -> x.cell(1, -1, 3), LOST);
        refused(x, "cell(0, 0, -1)", true, () -> x.cell(0, 0, -1), LOST);
        faulted(x, "cell(0, -1, 1)", () -> x.cell(0, -1, 1), LOST, 2);
        faulted(x, "cell(1, -1, 1)", () -> x.cell(1, -1, 1), LOST, 1);
        int[] beyond = {-1, 3, MIN, MAX};
        for (int i : beyond) {
            faulted(x, "cell(0, " + i + ", 0)", () -> x.cell(0, i, 0), LOST, 3);
        }
    }

    private static void p27Copy() {
        promise = 27;
        SaltSaints x = new SaltSaints();
        for (int k = 0; k < 3; k++) {
            x.sheet(k, k == 2 ? 2 : 1, 5);
            for (int i = 0; i < 5; i++) {
                x.put(k, i, 10 * k + i);
            }
        }
        due("copy(0, 1, 1, 3, 2)", x.copy(0, 1, 1, 3, 2), 2);
        dueRow(x, 1, 1, 10, 11, 12, 1, 2);
        due("copy(0, 0, 0, 1, 4) onwards", x.copy(0, 0, 0, 1, 4), 4);
        dueRow(x, 0, 1, 0, 0, 1, 2, 3);
        due("copy(2, 1, 2, 0, 4) backwards", x.copy(2, 1, 2, 0, 4), 4);
        dueRow(x, 2, 2, 21, 22, 23, 24, 24);
        due("copy(0, 5, 1, 5, 0)", x.copy(0, 5, 1, 5, 0), 0);
        due("fault()", x.fault(), 0);
        refused(x, "copy(4, 0, 3, 0, -1)", true, () -> x.copy(4, 0, 3, 0, -1), UNKNOWN);
        refused(x, "copy(3, 0, 4, 0, -1)", true, () -> x.copy(3, 0, 4, 0, -1), UNKNOWN);
        refused(x, "copy(0, 0, -1, 0, 0)", true, () -> x.copy(0, 0, -1, 0, 0), UNKNOWN);
        faulted(x, "copy(3, 0, 0, 0, -1)", () -> x.copy(3, 0, 0, 0, -1), NULL, 1);
        faulted(x, "copy(0, 0, 3, 0, -1)", () -> x.copy(0, 0, 3, 0, -1), NULL, 1);
        faulted(x, "copy(0, 0, 2, 0, -1)", () -> x.copy(0, 0, 2, 0, -1), CAST, 2);
        int[][] beyond = {{-1, 0, 1}, {0, -1, 1}, {0, 0, -1}, {0, 0, 6}, {1, 0, 5}, {0, 1, 5}, {6, 0, 0}, {0, 6, 0},
            {MAX, 0, MAX}, {0, MAX, MAX}, {1, 1, MAX}, {MIN, 0, 0}, {0, 0, MIN}, {-1, 0, 0}, {0, -1, 0}};
        for (int[] of : beyond) {
            faulted(x, "copy(0, " + of[0] + ", 1, " + of[1] + ", " + of[2] + ")", () -> x.copy(0, of[0], 1, of[1], of[2]), INDEX, 3);
        }
    }

    private static void dueRow(SaltSaints x, int k, int lane, int... cells) {
        for (int i = 0; i < cells.length; i++) {
            due("cell(" + k + ", " + i + ", " + lane + ")", x.cell(k, i, lane), cells[i]);
        }
    }

    private static void p28Tell() {
        promise = 28;
        SaltSaints x = with("s1110;b2110;m3110");
        x.rain(0, 9, 0);
        due("tell(0)", x.tell(0), 10);
        due("trace()", x.trace(), 1);
        due("tell(1)", x.tell(1), 120);
        due("trace()", x.trace(), (31 + 2) * 31 + 1);
        due("tell(2)", x.tell(2), 160);
        int ahead = (31 + 2) * 31 + 1;
        due("trace()", x.trace(), (((ahead * 31 + 3) * 31 + 2) * 31 + 1) * 31 + 1);
        refused(x, "tell(3)", false, () -> x.tell(3), UNKNOWN);
        refused(x, "tell(-1)", false, () -> x.tell(-1), UNKNOWN);
    }

    private static void p29Bow() {
        promise = 29;
        SaltSaints x = with("s1110;b2110;m3110;s1110");
        int[] want = {0, 1, 70, 3};
        int trace = 0;
        for (int k = 0; k < 4; k++) {
            due("bow(" + k + ")", x.bow(k), want[k]);
            trace = 31 * trace + (k == 2 ? 5 : 4);
            due("trace()", x.trace(), trace);
        }
        refused(x, "bow(4)", false, () -> x.bow(4), UNKNOWN);
        refused(x, "bow(-1)", false, () -> x.bow(-1), UNKNOWN);
    }

    private static void p30As() {
        promise = 30;
        SaltSaints x = with("s1110;b2110;m3110");
        for (int k = 0; k < 3; k++) {
            for (int kind = 0; kind < 3; kind++) {
                due("as(" + k + ", " + kind + ")", x.as(k, kind), kind <= k ? 1 : CAST);
                due("fault()", x.fault(), kind <= k ? 0 : 2);
            }
        }
        faulted(x, "as(0, 2)", () -> x.as(0, 2), CAST, 2);
        refused(x, "as(3, 3)", true, () -> x.as(3, 3), UNKNOWN);
        refused(x, "as(-1, 0)", true, () -> x.as(-1, 0), UNKNOWN);
        refused(x, "as(0, 3)", true, () -> x.as(0, 3), OUTSIDE);
        refused(x, "as(0, -1)", true, () -> x.as(0, -1), OUTSIDE);
    }

    private static void p31Trace() {
        promise = 31;
        SaltSaints x = with("m1110;s1110");
        int want = 0;
        for (int t = 0; t < 40; t++) {
            due("trace()", x.trace(), want);
            x.tell(t % 2);
            int[] bodies = t % 2 == 0 ? new int[] {3, 2, 1, 1} : new int[] {1};
            for (int body : bodies) {
                want = 31 * want + body;
            }
        }
        tellText(x, "s1110");
        due("trace() over a new TEXT", x.trace(), want);
    }

    private static void p32Fault() {
        promise = 32;
        SaltSaints x = with("s1110");
        due("fault()", x.fault(), 0);
        x.put(3, 0, 0);
        due("fault() after a FAULT", x.fault(), 1);
        due("fault() again", x.fault(), 1);
        x.look(0, 1);
        x.over(0, 1);
        x.fence(0, true);
        x.rain(0, 1, 1);
        x.deer(1);
        x.reading(0, 0, 0, 10);
        x.back(1);
        x.tell(0);
        x.bow(0);
        x.lose(2);
        x.lasts(9);
        x.rains(0);
        x.umbrellas(1, 0);
        x.many(7);
        x.whose(0, 99);
        due("fault() after calls that name none", x.fault(), 1);
        x.as(0, 9);
        due("fault() after a refusal", x.fault(), 0);
        x.cell(0, 0, 2);
        due("fault() after cell", x.fault(), 2);
        x.cell(0, 0, 0);
        due("fault() after a good cell", x.fault(), 0);
        x.copy(0, 9, 0, 0, 1);
        due("fault() after copy", x.fault(), 3);
        x.statues(0, 0, 0, 5);
        due("fault() after statues", x.fault(), 0);
        x.sheet(1, 0, -5);
        due("fault() after sheet", x.fault(), 4);
        x.takenFor(0, 0, 0, 1, 0);
        due("fault() after takenFor", x.fault(), 0);
        due("fault() of a new object", new SaltSaints().fault(), 0);
    }

    private static void p33Many() {
        promise = 33;
        SaltSaints x = with(SEVEN);
        x.deer(4);
        x.reading(0, 0, 0, 0);
        x.reading(0, 0, 0, 0);
        due("many(0)", x.many(0), 7);
        due("many(1)", x.many(1), 4);
        due("many(2)", x.many(2), 2);
        due("many(3)", x.many(3), OUTSIDE);
        due("many(-1)", x.many(-1), OUTSIDE);
        due("many(MIN)", x.many(MIN), OUTSIDE);
        SaltSaints none = new SaltSaints();
        for (int what = 0; what < 3; what++) {
            due("many(" + what + ") without STATUES", none.many(what), 0);
        }
        due("many(3) without STATUES", none.many(3), OUTSIDE);
    }
}
