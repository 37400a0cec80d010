/** Each promise of the document by its number: ordinary calls, the edges it names, wrong numbers. */
public final class PromisesTest {
    private static final int UNKNOWN = Checks.UNKNOWN, OUTSIDE = Checks.OUTSIDE, STATE = Checks.STATE, FULL = Checks.FULL;
    private static final int NONE = Checks.NONE;
    private static final int NULL = Checks.NULL, CAST = Checks.CAST, INDEX = Checks.INDEX, SIZE = Checks.SIZE;
    private static final long LOST = Checks.LOST;
    private static final int MIN = Checks.MIN, MAX = Checks.MAX;
    private static final String FOUR = "s1230;b2121;m3212;s5553";
    private static final String SEVEN = "s1110;b1111;m1112;s1113;b1110;m1111;s1112";
    private static final Checks T = new Checks();

    /** Two STATUES in rain, with DEER. */
    private static final Checks.Scene TWO = x -> {
        tellText(x, "s9993;b9991");
        x.rain(0, 8, 0);
        x.deer(1);
    };

    /** A SAINT, a BISHOP, a MARTYR, in rain. */
    private static final Checks.Scene THREE = x -> {
        tellText(x, "s1110;b2110;m3110");
        x.rain(0, 9, 0);
    };

    private PromisesTest() { }

    public static void main(String[] args) {
        constants();
        p1NewObject();
        p2Statues();
        p2FirstFault();
        p2Anew();
        p2Fewer();
        p2Refusals();
        p3OfStatue();
        p4Look();
        p5Over();
        p6Fence();
        p7Rain();
        p8Deer();
        p9GrainsInRain();
        p9GrainsUnderCovers();
        p9GrainsAndDeer();
        p10Lost();
        p11Gone();
        p12Liked();
        p13Lasts();
        p14Umbrellas();
        p15Turn();
        p16Roofs();
        p17TakenFor();
        p17Refusals();
        p18Whose();
        p19Reading();
        p20Back();
        p21Rains();
        p22Cast();
        p23Sheet();
        p24Lose();
        p25Put();
        p26Cell();
        p27Copy();
        p28Tell();
        p29Bow();
        p30As();
        p31Trace();
        p32Fault();
        p33Many();
        T.end();
    }

    private static int tellText(SaltSaints x, String text) {
        Checks.write(x, 0, 0, 0, text);
        return x.statues(0, 0, 0, text.length());
    }

    private static void constants() {
        T.due("UNKNOWN", SaltSaints.UNKNOWN, UNKNOWN);
        T.due("OUTSIDE", SaltSaints.OUTSIDE, OUTSIDE);
        T.due("STATE", SaltSaints.STATE, STATE);
        T.due("FULL", SaltSaints.FULL, FULL);
        T.due("NONE", SaltSaints.NONE, NONE);
        T.due("LOST", SaltSaints.LOST, LOST);
    }

    private static void p1NewObject() {
        T.promise(1, false);
        T.sentence("No STATUES, SHEETS have nothing");
        SaltSaints x = new SaltSaints();
        T.due("fault()", x.fault(), 0);
        T.due("trace()", x.trace(), 0);
        T.due("many(0)", x.many(0), 0);
        T.due("many(1)", x.many(1), 0);
        T.due("many(2)", x.many(2), 0);
        T.due("ofStatue(0, 0)", x.ofStatue(0, 0), UNKNOWN);
        for (int k = 0; k < 4; k++) {
            T.due("lose(" + k + ")", x.lose(k), 0);
        }
        SaltSaints other = Checks.with(FOUR);
        T.due("many(0) of another object", other.many(0), 4);
        T.due("many(0) beside it", x.many(0), 0);
        T.due("lose(0) beside it", x.lose(0), 0);
    }

    private static void p2Statues() {
        T.promise(2, true);
        T.sentence("STATUES by a TEXT of n cells of a SHEET from i on: how many");
        for (int lane = 0; lane < 3; lane++) {
            SaltSaints x = new SaltSaints();
            Checks.write(x, 3, lane, 2, FOUR);
            T.due("statues(3, " + lane + ", 2, 23)", x.statues(3, lane, 2, 23), 4);
            T.due("many(0)", x.many(0), 4);
            T.due("ofStatue(3, 4)", x.ofStatue(3, 4), 3);
            T.due("statues(3, " + lane + ", 8, 5)", x.statues(3, lane, 8, 5), 1);
            T.due("ofStatue(0, 3)", x.ofStatue(0, 3), 1);
        }
        T.due("seven", tellText(new SaltSaints(), SEVEN), 7);
        T.due("one", tellText(new SaltSaints(), "m9993"), 1);
        SaltSaints x = new SaltSaints();
        Checks.write(x, 1, 0, 0, "s1110");
        x.put(1, 0, 256 + 's');
        T.due("a code cut to its byte", x.statues(1, 0, 0, 5), 1);
        Checks.write(x, 1, 2, 0, "s1110");
        x.put(1, 0, 256 + 's');
        T.due("an int code is not", x.statues(1, 2, 0, 5), -100);
    }

    private static void p2FirstFault() {
        String[] texts = {"", "x", "S1113", ";", "c1113", "1", "s", "s0", "s:", "s/", "s1", "s1a", "s10", "s11", "s110",
            "s11;", "s111", "s1114", "s111/", "s1113;", "s1113,", "s1113s", "s11133", "s1113;x", "s1113;;", "s1113;b",
            "b9990;m9", "b9990;m0110", SEVEN + ";", SEVEN + ";s1110", SEVEN + "x", SEVEN.substring(0, 36), SEVEN.substring(0, 40)};
        int[] places = {0, 0, 0, 0, 0, 0, 1, 1, 1, 1, 2, 2, 2, 3, 3,
            3, 4, 4, 4, 6, 5, 5, 5, 6, 6, 7,
            8, 7, 41, 41, 41, 36, 40};
        for (int t = 0; t < texts.length; t++) {
            T.due("the TEXT " + texts[t], tellText(new SaltSaints(), texts[t]), -100 - places[t]);
        }
        SaltSaints x = new SaltSaints();
        Checks.write(x, 0, 1, 10, "s1119");
        T.due("a place counts from where the TEXT begins", x.statues(0, 1, 10, 5), -104);
    }

    private static void p2Anew() {
        SaltSaints x = Checks.with(FOUR);
        x.rain(0, 9, 1);
        x.rain(59, 9, 3);
        x.deer(9);
        x.reading(0, 0, 0, 1);
        x.over(0, 1);
        x.over(1, 2);
        x.fence(0, true);
        x.look(0, 3);
        x.tell(2);
        x.put(0, 0, 'b');
        T.due("statues anew", x.statues(0, 0, 0, 11), 2);
        T.due("fault()", x.fault(), 0);
        T.due("many(0)", x.many(0), 2);
        T.due("many(1)", x.many(1), 0);
        T.due("many(2)", x.many(2), 0);
        T.due("rains(0)", x.rains(0), 1023);
        int[] first = {10, 20, 30, 1, 0, 0, 0};
        for (int what = 0; what < 7; what++) {
            T.due("ofStatue(0, " + what + ")", x.ofStatue(0, what), first[what]);
        }
        T.due("ofStatue(1, 5)", x.ofStatue(1, 5), 0);
        T.due("ofStatue(2, 0)", x.ofStatue(2, 0), UNKNOWN);
        T.due("grains(0, 0, 60)", x.grains(0, 0, 60), 10);
        T.due("lost(0, 60, 1)", x.lost(0, 60, 1), 0);
        T.due("rain(0, 0, 0)", x.rain(0, 0, 0), 0);
        T.due("rain(59, 0, 0)", x.rain(59, 0, 0), 0);
        T.due("trace() stays", x.trace(), ((3 * 31 + 2) * 31 + 1) * 31 + 1);
        T.due("cell(0, 22, 0) stays", x.cell(0, 22, 0), '3');
    }

    /** Nothing of the STATUES of an earlier TEXT is left. */
    private static void p2Fewer() {
        SaltSaints x = Checks.with("s1110;s9990;s9990;s9990;s9990;s9990;s9990");
        x.deer(9);
        Checks.rainFor(x, 9, 9, 1);
        T.due("grains(1, 0, 60)", x.grains(1, 0, 60), 9);
        T.due("statues anew", tellText(x, "s1110"), 1);
        x.deer(1);
        Checks.rainFor(x, 3, 2, 1);
        T.due("lasts(0)", x.lasts(0), 0);
        T.due("lasts(1)", x.lasts(1), 2);
        T.due("lasts(2)", x.lasts(2), 15);
        T.due("liked(0)", x.liked(0), 0);
        T.due("liked(9)", x.liked(9), NONE);
        T.due("whose(0, 0)", x.whose(0, 0), 1);
        T.due("cast(1, 1)", x.cast(1, 1), 7);
        T.due("umbrellas(1, 0)", x.umbrellas(1, 0), 1);
        T.due("umbrellas(1, 1)", x.umbrellas(1, 1), 1);
        T.due("umbrellas(0, 1)", x.umbrellas(0, 1), 1);
        T.due("turn(0)", x.turn(0), 0);
        T.due("turn(1)", x.turn(1), 61);
        x.sheet(1, 1, 3);
        x.put(1, 0, 90);
        T.due("takenFor(0, 1, 1, 0, 0)", x.takenFor(0, 1, 1, 0, 0), 0);
        Checks.rainFor(x, 60, 9, 0);
        T.due("roofs(60, 0)", x.roofs(60, 0), 1);
        T.due("turn(1)", x.turn(1), 2);
    }

    private static void p2Refusals() {
        Checks.Scene four = x -> {
            tellText(x, FOUR);
            x.rain(0, 5, 1);
            x.deer(3);
            x.reading(0, 0, 1, 5);
            x.sheet(1, 1, 5);
        };
        int[] noSheets = {-1, 4, MIN, MAX};
        for (int k : noSheets) {
            T.refused(four, UNKNOWN, "statues", k, 3, -1, -1);
        }
        T.refused(four, OUTSIDE, "statues", 2, 3, -1, -1);
        T.refused(four, OUTSIDE, "statues", 2, -1, -1, -1);
        T.faulted(four, CAST, "statues", 1, 0, -1, -1);
        T.faulted(four, NULL, "statues", 2, 0, -1, -1);
        T.faulted(four, SIZE, "statues", 0, 0, -1, -1);
        T.faulted(four, SIZE, "statues", 0, 0, 0, MIN);
        int[][] beyond = {{-1, 5}, {-1, 0}, {0, 24}, {1, 23}, {23, 1}, {24, 0}, {MAX, MAX}, {1, MAX}, {MAX, 0}, {MIN, 0}, {MIN, MAX}};
        for (int[] run : beyond) {
            T.faulted(four, INDEX, "statues", 0, 0, run[0], run[1]);
        }
        T.refused(four, -100, "statues", 0, 0, 23, 0);
        T.refused(four, -122, "statues", 0, 0, 0, 22);
        T.refused(four, -100, "statues", 1, 1, 0, 5);
    }

    private static void p3OfStatue() {
        T.promise(3, false);
        T.sentence("Of a STATUE: GRAINS at first, kind, whereto it LOOKS, what is over it, whether it has a FENCE");
        SaltSaints x = Checks.with(FOUR);
        x.over(1, 1);
        x.over(2, 2);
        x.fence(3, true);
        x.rain(0, 9, 0);
        x.deer(5);
        int[][] want = {{10, 20, 30, 0, 0, 0, 0}, {20, 10, 20, 1, 1, 1, 0}, {30, 20, 10, 2, 2, 2, 0}, {50, 50, 50, 0, 3, 0, 1}};
        for (int k = 0; k < 4; k++) {
            for (int what = 0; what < 7; what++) {
                T.due("ofStatue(" + k + ", " + what + ")", x.ofStatue(k, what), want[k][what]);
            }
        }
        T.due("ofStatue(4, 7)", x.ofStatue(4, 7), UNKNOWN);
        T.due("ofStatue(-1, 0)", x.ofStatue(-1, 0), UNKNOWN);
        T.due("ofStatue(0, 7)", x.ofStatue(0, 7), OUTSIDE);
        T.due("ofStatue(0, -1)", x.ofStatue(0, -1), OUTSIDE);
        T.due("ofStatue(MIN, MIN)", x.ofStatue(MIN, MIN), UNKNOWN);
    }

    private static void p4Look() {
        T.promise(4, false);
        T.sentence("A STATUE is to LOOK elsewhere: whereto it did");
        SaltSaints x = Checks.with("s9993;b9991");
        x.rain(0, 2, 0);
        T.due("grains(0, 0, 1)", x.grains(0, 0, 1), 88);
        T.due("look(0, 0)", x.look(0, 0), 3);
        T.due("grains(0, 0, 1) turned into the wind", x.grains(0, 0, 1), 84);
        T.due("look(0, 2)", x.look(0, 2), 0);
        T.due("look(0, 2) again", x.look(0, 2), 2);
        T.due("ofStatue(0, 4)", x.ofStatue(0, 4), 2);
        T.due("ofStatue(1, 4)", x.ofStatue(1, 4), 1);
        T.refused(TWO, UNKNOWN, "look", 2, 4);
        T.refused(TWO, UNKNOWN, "look", -1, 0);
        T.refused(TWO, OUTSIDE, "look", 0, 4);
        T.refused(TWO, OUTSIDE, "look", 0, -1);
    }

    private static void p5Over() {
        T.promise(5, false);
        T.sentence("Over a STATUE comes nothing, an UMBRELLA, a ROOF: what there was");
        SaltSaints x = Checks.with("s9993;b9991");
        x.rain(0, 8, 0);
        T.due("over(0, 1)", x.over(0, 1), 0);
        T.due("grains(0, 1, 1)", x.grains(0, 1, 1), 82);
        T.due("over(0, 2)", x.over(0, 2), 1);
        T.due("grains(0, 1, 1)", x.grains(0, 1, 1), 90);
        T.due("over(0, 0)", x.over(0, 0), 2);
        T.due("grains(0, 1, 1)", x.grains(0, 1, 1), 74);
        T.refused(TWO, UNKNOWN, "over", 2, 3);
        T.refused(TWO, UNKNOWN, "over", -1, 0);
        T.refused(TWO, OUTSIDE, "over", 0, 3);
        T.refused(TWO, OUTSIDE, "over", 0, -1);
    }

    private static void p6Fence() {
        T.promise(6, false);
        T.sentence("A STATUE has a FENCE, or none: 1; 0: it was so");
        SaltSaints x = Checks.with("s9993;b9991");
        x.deer(1);
        T.due("fence(0, false)", x.fence(0, false), 0);
        T.due("liked(0)", x.liked(0), 0);
        T.due("fence(0, true)", x.fence(0, true), 1);
        T.due("liked(0)", x.liked(0), 1);
        T.due("fence(0, true) again", x.fence(0, true), 0);
        T.due("ofStatue(0, 6)", x.ofStatue(0, 6), 1);
        T.due("fence(0, false)", x.fence(0, false), 1);
        T.due("liked(0)", x.liked(0), 0);
        T.refused(TWO, UNKNOWN, "fence", 2, 1);
        T.refused(TWO, UNKNOWN, "fence", -1, 1);
    }

    private static void p7Rain() {
        T.promise(7, false);
        T.sentence("RAIN, WIND of a DAY: 10 times what RAIN was, and WIND");
        T.refused(Checks.NOTHING, OUTSIDE, "rain", 60, 0, 0);
        T.refused(Checks.NOTHING, STATE, "rain", 0, 0, 0);
        SaltSaints x = Checks.with("s9990");
        T.due("rain(0, 3, 2)", x.rain(0, 3, 2), 0);
        T.due("rain(0, 5, 1)", x.rain(0, 5, 1), 32);
        T.due("rain(0, 0, 3)", x.rain(0, 0, 3), 51);
        T.due("rain(0, 9, 0)", x.rain(0, 9, 0), 3);
        T.due("rain(59, 9, 3)", x.rain(59, 9, 3), 0);
        T.due("rain(59, 9, 3)", x.rain(59, 9, 3), 93);
        T.due("grains(0, 0, 59)", x.grains(0, 0, 59), 63);
        T.due("grains(0, 0, 60)", x.grains(0, 0, 60), 54);
        int[][] outside = {{60, 0, 0}, {-1, 0, 0}, {0, 10, 0}, {0, -1, 0}, {0, 0, 4}, {0, 0, -1}, {MIN, MAX, MIN}};
        for (int[] to : outside) {
            T.refused(TWO, OUTSIDE, "rain", to[0], to[1], to[2]);
        }
    }

    private static void p8Deer() {
        T.promise(8, false);
        T.sentence("So many DEER: how many there were");
        T.refused(Checks.NOTHING, OUTSIDE, "deer", 10);
        T.refused(Checks.NOTHING, STATE, "deer", 0);
        SaltSaints x = Checks.with("s9990");
        T.due("deer(9)", x.deer(9), 0);
        T.due("lost(0, 1, 1)", x.lost(0, 1, 1), 18);
        T.due("lost(0, 2, 1)", x.lost(0, 2, 1), 36);
        T.due("deer(2)", x.deer(2), 9);
        T.due("lost(0, 2, 1)", x.lost(0, 2, 1), 8);
        T.due("deer(0)", x.deer(0), 2);
        T.due("lost(0, 60, 1)", x.lost(0, 60, 1), 0);
        T.refused(TWO, OUTSIDE, "deer", 10);
        T.refused(TWO, OUTSIDE, "deer", -1);
    }

    private static void dueParts(SaltSaints x, int k, int dawn, int nose, int head, int body) {
        T.due("grains(" + k + ", 0, " + dawn + ")", x.grains(k, 0, dawn), nose);
        T.due("grains(" + k + ", 1, " + dawn + ")", x.grains(k, 1, dawn), head);
        T.due("grains(" + k + ", 2, " + dawn + ")", x.grains(k, 2, dawn), body);
    }

    private static void p9GrainsInRain() {
        T.promise(9, false);
        T.sentence("GRAINS of a PART at a DAWN");
        SaltSaints x = Checks.with("s9990;b9991;m9990;s1110;m9991");
        x.rain(0, 9, 0);
        x.rain(2, 7, 1);
        dueParts(x, 0, 0, 90, 90, 90);
        dueParts(x, 0, 1, 63, 72, 81);
        dueParts(x, 1, 1, 81, 72, 81);
        dueParts(x, 2, 1, 77, 81, 86);
        dueParts(x, 3, 1, 0, 0, 1);
        dueParts(x, 4, 1, 86, 81, 86);
        dueParts(x, 0, 2, 63, 72, 81);
        dueParts(x, 0, 3, 56, 58, 74);
        dueParts(x, 1, 3, 60, 58, 74);
        dueParts(x, 2, 3, 74, 74, 83);
        dueParts(x, 3, 60, 0, 0, 0);
        dueParts(x, 4, 60, 76, 74, 83);
        int[][] unknown = {{5, 0, 0}, {-1, 0, 0}, {5, 0, 61}, {0, 3, 61}, {0, -1, 0}, {MAX, MAX, MAX}};
        for (int[] of : unknown) {
            T.due("grains(" + of[0] + ", " + of[1] + ", " + of[2] + ")", x.grains(of[0], of[1], of[2]), UNKNOWN);
        }
        T.due("grains(0, 0, 61)", x.grains(0, 0, 61), OUTSIDE);
        T.due("grains(0, 0, -1)", x.grains(0, 0, -1), OUTSIDE);
    }

    private static void p9GrainsUnderCovers() {
        SaltSaints x = Checks.with("s9990;m9990;m9990;s1110;m9991");
        x.rain(0, 9, 0);
        x.over(0, 1);
        x.over(1, 1);
        x.over(2, 2);
        x.over(3, 1);
        x.over(4, 1);
        dueParts(x, 0, 1, 77, 81, 86);
        dueParts(x, 1, 1, 84, 86, 88);
        dueParts(x, 2, 1, 90, 90, 90);
        dueParts(x, 3, 1, 0, 1, 6);
        dueParts(x, 4, 1, 88, 86, 88);
    }

    private static void p9GrainsAndDeer() {
        SaltSaints saint = Checks.with("s1110");
        saint.deer(4);
        T.due("a SAINT's body", saint.grains(0, 2, 1), 2);
        T.due("a SAINT's body, licked up", saint.grains(0, 2, 2), 0);
        T.due("only bodies are licked", saint.grains(0, 0, 60) + saint.grains(0, 1, 60), 20);
        saint.rain(0, 7, 3);
        T.due("2 GRAINS and the last one", saint.grains(0, 2, 1), 0);
        T.due("of what the rain left", saint.lost(0, 1, 1), 3);
        for (String text : new String[] {"b1110", "m1110"}) {
            SaltSaints x = Checks.with(text);
            x.deer(9);
            T.due(text + ": more than half, then below", x.grains(0, 2, 60), 4);
            x.rain(0, text.charAt(0) == 'm' ? 9 : 4, 3);
            T.due(text + ": 6 left by the rain", x.grains(0, 2, 1), 4);
            x.rain(0, 0, 0);
            x.rain(1, 9, 0);
            T.due(text + ": licked ahead of the later rain", x.lost(0, 2, 1), 6);
        }
        SaltSaints half = Checks.with("b1110");
        half.deer(9);
        half.rain(0, 5, 3);
        T.due("just half is not licked", half.grains(0, 2, 60), 5);
    }

    private static void p10Lost() {
        T.promise(10, false);
        T.sentence("What of a STATUE is in its PUDDLE, was licked by a DAWN");
        SaltSaints x = Checks.with("s1110;m2220");
        x.rain(0, 9, 0);
        x.rain(1, 9, 1);
        x.deer(1);
        T.due("lost(0, 0, 0)", x.lost(0, 0, 0), 0);
        T.due("lost(0, 1, 0)", x.lost(0, 1, 0), 29);
        T.due("lost(0, 2, 0)", x.lost(0, 2, 0), 30);
        T.due("lost(1, 1, 0)", x.lost(1, 1, 0), 13 + 9 + 4);
        T.due("lost(1, 2, 0)", x.lost(1, 2, 0), 17 + 18 + 8);
        T.due("lost(1, 0, 1)", x.lost(1, 0, 1), 0);
        T.due("lost(1, 1, 1)", x.lost(1, 1, 1), 2);
        T.due("lost(0, 60, 1)", x.lost(0, 60, 1), 0);
        T.due("lost(1, 2, 1): 14, less 4, is no more than half", x.lost(1, 2, 1), 2);
        SaltSaints unlike = Checks.with("s1230");
        unlike.rain(0, 2, 0);
        T.due("lost(0, 0, 0) of unlike PARTS", unlike.lost(0, 0, 0), 0);
        T.due("lost(0, 1, 0) of unlike PARTS", unlike.lost(0, 1, 0), 12);
        int[][] unknown = {{2, 0, 0}, {-1, 61, 2}};
        for (int[] of : unknown) {
            T.due("lost(" + of[0] + ", " + of[1] + ", " + of[2] + ")", x.lost(of[0], of[1], of[2]), UNKNOWN);
        }
        int[][] outside = {{0, 61, 0}, {0, -1, 0}, {0, 0, 2}, {0, 0, -1}};
        for (int[] of : outside) {
            T.due("lost(" + of[0] + ", " + of[1] + ", " + of[2] + ")", x.lost(of[0], of[1], of[2]), OUTSIDE);
        }
    }

    private static void p11Gone() {
        T.promise(11, false);
        T.sentence("The DAWN at which a PART, a STATUE is GONE");
        SaltSaints x = Checks.with("s1110;s2110");
        for (int part = 0; part < 4; part++) {
            T.due("gone(0, " + part + ")", x.gone(0, part), NONE);
        }
        x.rain(2, 5, 0);
        x.rain(4, 5, 0);
        int[][] want = {{3, 3, 5, 5}, {5, 3, 5, 5}};
        for (int k = 0; k < 2; k++) {
            for (int part = 0; part < 4; part++) {
                T.due("gone(" + k + ", " + part + ")", x.gone(k, part), want[k][part]);
            }
        }
        SaltSaints late = Checks.with("s1110");
        late.rain(59, 9, 0);
        T.due("gone(0, 0) at the last DAWN", late.gone(0, 0), 60);
        T.due("gone(0, 3) never", late.gone(0, 3), NONE);
        late.deer(1);
        T.due("gone(0, 2) by deer", late.gone(0, 2), 5);
        T.due("gone(0, 3) once all are", late.gone(0, 3), 60);
        int[][] unknown = {{2, 0}, {-1, 0}, {0, 4}, {0, -1}};
        for (int[] of : unknown) {
            T.due("gone(" + of[0] + ", " + of[1] + ")", x.gone(of[0], of[1]), UNKNOWN);
        }
    }

    private static void p12Liked() {
        T.promise(12, false);
        T.sentence("To which STATUE the first DEER comes on a DAY");
        SaltSaints none = new SaltSaints();
        T.due("liked(60) without STATUES", none.liked(60), OUTSIDE);
        T.due("liked(0) without STATUES", none.liked(0), STATE);
        SaltSaints x = Checks.with("s1120;s1130");
        T.due("liked(0) without DEER", x.liked(0), NONE);
        x.deer(1);
        int[] want = {1, 1, 1, 1, 1, 0, 1, 0, 1};
        for (int day = 0; day < want.length; day++) {
            T.due("liked(" + day + ")", x.liked(day), want[day]);
        }
        T.due("liked(59), all licked up", x.liked(59), NONE);
        T.due("liked(24), the last 2 GRAINS", x.liked(24), 1);
        T.due("liked(25)", x.liked(25), NONE);
        x.fence(1, true);
        T.due("liked(0) beside a FENCE", x.liked(0), 0);
        x.fence(0, true);
        T.due("liked(0), all in FENCES", x.liked(0), NONE);
        T.due("liked(60)", x.liked(60), OUTSIDE);
        T.due("liked(-1)", x.liked(-1), OUTSIDE);
        SaltSaints wet = Checks.with("s1120;s1120");
        wet.deer(9);
        T.due("liked(0), the least of equals", wet.liked(0), 0);
        wet.over(1, 2);
        wet.rain(0, 1, 3);
        T.due("liked(0), after the rain of that day", wet.liked(0), 1);
        SaltSaints spare = Checks.with("b1190;s1110");
        spare.deer(1);
        spare.rain(0, 9, 3);
        spare.rain(1, 9, 3);
        spare.rain(2, 9, 3);
        spare.rain(3, 9, 3);
        spare.rain(4, 9, 3);
        T.due("liked(4): a BISHOP no longer, a SAINT is gone", spare.liked(4), NONE);
    }

    private static void p13Lasts() {
        T.promise(13, false);
        T.sentence("Who lasts the longest, how much of all GRAINS is left");
        SaltSaints none = new SaltSaints();
        T.due("lasts(0) without STATUES", none.lasts(0), LOST);
        SaltSaints x = Checks.with("s1110;s1120;s1120");
        T.due("lasts(0), none gone", x.lasts(0), 0);
        T.due("lasts(1), all left", x.lasts(1), 1);
        T.due("lasts(2), all left", x.lasts(2), 1);
        x.rain(0, 1, 1);
        T.due("lasts(1)", x.lasts(1), 49);
        T.due("lasts(2)", x.lasts(2), 55);
        Checks.rainFor(x, 3, 9, 3);
        T.due("lasts(0), the least of the latest", x.lasts(0), 1);
        T.due("lasts(1), nothing left", x.lasts(1), 0);
        T.due("lasts(2), nothing left", x.lasts(2), 1);
        x.over(2, 2);
        T.due("lasts(0), NONE is longest", x.lasts(0), 2);
        T.due("lasts(1)", x.lasts(1), 4);
        T.due("lasts(2)", x.lasts(2), 11);
        SaltSaints least = Checks.with("m1110");
        least.rain(0, 1, 1);
        T.due("lasts(1), least terms at once", least.lasts(1), 29);
        T.due("lasts(2), least terms at once", least.lasts(2), 30);
        SaltSaints seven = Checks.with(SEVEN);
        seven.over(6, 2);
        Checks.rainFor(seven, 9, 9, 3);
        T.due("lasts(0) of seven", seven.lasts(0), 6);
        T.due("lasts(2) of seven", seven.lasts(2), 7);
        T.due("lasts(0) of seven in no rain", Checks.with(SEVEN).lasts(0), 0);
        T.due("lasts(3)", x.lasts(3), LOST);
        T.due("lasts(-1)", x.lasts(-1), LOST);
    }

    private static void p14Umbrellas() {
        T.promise(14, false);
        T.sentence("UMBRELLAS: the set, how many NOSES");
        SaltSaints none = new SaltSaints();
        T.due("umbrellas(4, 0) without STATUES", none.umbrellas(4, 0), OUTSIDE);
        T.due("umbrellas(0, 0) without STATUES", none.umbrellas(0, 0), STATE);
        SaltSaints x = Checks.with("s1110;s1110;s1110;s1110");
        T.due("umbrellas(2, 0) in no rain", x.umbrellas(2, 0), 3);
        T.due("umbrellas(2, 1) in no rain", x.umbrellas(2, 1), 4);
        Checks.rainFor(x, 2, 9, 3);
        x.over(2, 2);
        x.over(3, 1);
        int[] sets = {0, 1, 3, 7};
        for (int u = 0; u < 4; u++) {
            T.due("umbrellas(" + u + ", 0)", x.umbrellas(u, 0), sets[u]);
            T.due("umbrellas(" + u + ", 1)", x.umbrellas(u, 1), u);
        }
        T.due("ofStatue(2, 5) stays", x.ofStatue(2, 5), 2);
        T.due("ofStatue(0, 5) stays", x.ofStatue(0, 5), 0);
        SaltSaints two = Checks.with("s1113;s1110");
        two.rain(0, 9, 3);
        two.rain(59, 1, 3);
        T.due("umbrellas(1, 0): one is past help", two.umbrellas(1, 0), 2);
        T.due("umbrellas(1, 1)", two.umbrellas(1, 1), 1);
        T.due("umbrellas(3, 0) of two", two.umbrellas(3, 0), 3);
        T.due("umbrellas(3, 1) of two", two.umbrellas(3, 1), 1);
        int[][] outside = {{4, 0}, {-1, 0}, {0, 2}, {0, -1}};
        for (int[] of : outside) {
            T.due("umbrellas(" + of[0] + ", " + of[1] + ")", x.umbrellas(of[0], of[1]), OUTSIDE);
        }
    }

    private static void p15Turn() {
        T.promise(15, false);
        T.sentence("TURN: 10 times the STATUE and whereto, the DAWN");
        SaltSaints none = new SaltSaints();
        T.due("turn(2) without STATUES", none.turn(2), OUTSIDE);
        T.due("turn(0) without STATUES", none.turn(0), STATE);
        SaltSaints x = Checks.with("s1110;s1113");
        T.due("turn(0) in no rain", x.turn(0), 0);
        T.due("turn(1) in no rain", x.turn(1), 61);
        x.rain(0, 4, 3);
        T.due("turn(0)", x.turn(0), 10);
        T.due("turn(1)", x.turn(1), 61);
        T.due("ofStatue(1, 4) stays", x.ofStatue(1, 4), 3);
        x.look(0, 3);
        T.due("turn(0), the other is gone all the same", x.turn(0), 0);
        T.due("turn(1), the other is gone all the same", x.turn(1), 1);
        x.over(0, 2);
        T.due("turn(0) beside a ROOF", x.turn(0), 10);
        T.due("turn(1) beside a ROOF", x.turn(1), 61);
        SaltSaints one = Checks.with("s1110");
        one.rain(0, 9, 0);
        one.rain(1, 9, 1);
        T.due("turn(0), the latest", one.turn(0), 1);
        T.due("turn(1), the latest", one.turn(1), 2);
        one.over(0, 1);
        one.rain(1, 1, 1);
        T.due("turn(0) under an UMBRELLA", one.turn(0), 1);
        T.due("turn(1) under an UMBRELLA", one.turn(1), 61);
        SaltSaints last = Checks.with("s1110");
        last.rain(0, 9, 1);
        last.rain(59, 1, 0);
        T.due("turn(0) at the last DAWN", last.turn(0), 0);
        T.due("turn(1) at the last DAWN", last.turn(1), 60);
        SaltSaints all = Checks.with("s1990");
        for (int day = 0; day < 4; day++) {
            all.rain(day, 2, day);
        }
        T.due("turn(0) in winds of all sides", all.turn(0), 3);
        T.due("turn(1) in winds of all sides", all.turn(1), 4);
        SaltSaints seven = Checks.with("s9990;s9990;s9990;s9990;s9990;s9990;s1110");
        seven.rain(0, 9, 0);
        T.due("turn(0) of seven", seven.turn(0), 61);
        T.due("turn(1) of seven", seven.turn(1), 61);
        T.due("turn(2)", x.turn(2), OUTSIDE);
        T.due("turn(-1)", x.turn(-1), OUTSIDE);
    }

    private static void p16Roofs() {
        T.promise(16, false);
        T.sentence("ROOFS: the set, how many");
        SaltSaints none = new SaltSaints();
        T.due("roofs(61, 0) without STATUES", none.roofs(61, 0), OUTSIDE);
        T.due("roofs(0, 0) without STATUES", none.roofs(0, 0), STATE);
        SaltSaints x = Checks.with("s1110;s2110;s1110");
        Checks.rainFor(x, 3, 9, 3);
        int[] sets = {0, 0, 5, 7};
        for (int dawn = 0; dawn < 4; dawn++) {
            T.due("roofs(" + dawn + ", 0)", x.roofs(dawn, 0), sets[dawn]);
            T.due("roofs(" + dawn + ", 1)", x.roofs(dawn, 1), Integer.bitCount(sets[dawn]));
        }
        x.over(0, 1);
        x.over(2, 2);
        T.due("roofs(2, 0), one has an UMBRELLA, one a ROOF", x.roofs(2, 0), 0);
        T.due("roofs(60, 0), the UMBRELLA does not do", x.roofs(60, 0), 3);
        T.due("roofs(60, 1)", x.roofs(60, 1), 2);
        T.due("ofStatue(0, 5) stays", x.ofStatue(0, 5), 1);
        int[][] outside = {{61, 0}, {-1, 0}, {0, 2}, {0, -1}};
        for (int[] of : outside) {
            T.due("roofs(" + of[0] + ", " + of[1] + ")", x.roofs(of[0], of[1]), OUTSIDE);
        }
    }

    private static void p17TakenFor() {
        T.promise(17, true);
        T.sentence("TAKEN FOR by three such cells: the STATUE, how far apart");
        SaltSaints x = Checks.with("s1230;b2121;m3212;s5553");
        x.sheet(2, 1, 6);
        int[] cells = {999, 12, 20, 28, 0, 1000};
        for (int i = 0; i < cells.length; i++) {
            x.put(2, i, cells[i]);
        }
        T.due("takenFor(0, 2, 1, 1, 0)", x.takenFor(0, 2, 1, 1, 0), 0);
        T.due("takenFor(0, 2, 1, 1, 1)", x.takenFor(0, 2, 1, 1, 1), 4);
        T.due("takenFor(0, 2, 1, 0, 0)", x.takenFor(0, 2, 1, 0, 0), 1);
        T.due("takenFor(0, 2, 1, 0, 1)", x.takenFor(0, 2, 1, 0, 1), 979 + 2 + 0);
        T.due("takenFor(0, 2, 1, 2, 0)", x.takenFor(0, 2, 1, 2, 0), 2);
        T.due("takenFor(0, 2, 1, 2, 1)", x.takenFor(0, 2, 1, 2, 1), 10 + 8 + 10);
        x.rain(0, 9, 3);
        T.due("takenFor(1, 2, 1, 1, 1) by what is left", x.takenFor(1, 2, 1, 1, 1), 11 + 18 + 7);
        T.due("takenFor(1, 2, 1, 1, 0) by what is left", x.takenFor(1, 2, 1, 1, 0), 0);
        T.due("fault()", x.fault(), 0);
        SaltSaints equal = Checks.with("m1110;m1110");
        equal.sheet(1, 0, 3);
        T.due("takenFor(0, 1, 0, 0, 0) of equals", equal.takenFor(0, 1, 0, 0, 0), 0);
        T.due("takenFor(0, 1, 0, 0, 1) of equals", equal.takenFor(0, 1, 0, 0, 1), 30);
    }

    /** One STATUE, and a row of six ints. */
    private static Checks.Scene oneBeside(int... six) {
        return x -> {
            tellText(x, "s1110");
            Checks.row(x, 2, 2, six);
        };
    }

    private static void p17Refusals() {
        Checks.Scene none = x -> Checks.row(x, 2, 2, 1000, 0, 0);
        T.refused(none, STATE, "takenFor", 0, 2, 2, 0, 0);
        T.faulted(none, INDEX, "takenFor", 0, 2, 2, 1, 0);
        Checks.Scene one = oneBeside(0, 0, 0, 0, -1, 1000);
        T.refused(one, UNKNOWN, "takenFor", 61, 4, 3, -1, 2);
        T.refused(one, OUTSIDE, "takenFor", 61, 2, 2, 0, 0);
        T.refused(one, OUTSIDE, "takenFor", -1, 3, 2, 0, 0);
        T.refused(one, OUTSIDE, "takenFor", 0, 3, 2, 0, 2);
        T.refused(one, OUTSIDE, "takenFor", 0, 3, 3, 0, 0);
        T.faulted(one, CAST, "takenFor", 0, 2, 1, -1, 0);
        T.faulted(one, NULL, "takenFor", 0, 3, 1, -1, 0);
        int[] beyond = {-1, 4, 6, 7, MAX, MIN};
        for (int i : beyond) {
            T.faulted(one, INDEX, "takenFor", 0, 2, 2, i, 0);
        }
        T.refused(one, OUTSIDE, "takenFor", 0, 2, 2, 3, 0);
        T.refused(one, OUTSIDE, "takenFor", 0, 2, 2, 2, 1);
        T.refused(oneBeside(0, 0, 1000, 0, 0, 0), OUTSIDE, "takenFor", 0, 2, 2, 2, 0);
        T.refused(oneBeside(0, 0, 0, 1000, 0, 0), OUTSIDE, "takenFor", 0, 2, 2, 2, 0);
        T.refused(oneBeside(0, 0, 0, 0, 0, 1000), OUTSIDE, "takenFor", 0, 2, 2, 3, 1);
        T.asks(oneBeside(0, 0, 1000, 0, 0, 999), 10 + 10 + 989, "takenFor", 0, 2, 2, 3, 1);
    }

    private static void p18Whose() {
        T.promise(18, false);
        T.sentence("WHOSE, as a set");
        SaltSaints x = Checks.with("s9990;s9991;m9990;s9990");
        T.due("whose(0, 0)", x.whose(0, 0), 15);
        x.rain(0, 1, 0);
        x.over(3, 2);
        T.due("whose(6, 1)", x.whose(6, 1), 1);
        T.due("whose(4, 1)", x.whose(4, 1), 2);
        T.due("whose(2, 1)", x.whose(2, 1), 4);
        T.due("whose(0, 1)", x.whose(0, 1), 8);
        T.due("whose(0, 0)", x.whose(0, 0), 15);
        T.due("whose(5, 1)", x.whose(5, 1), 0);
        T.due("whose(-1, 1)", x.whose(-1, 1), 0);
        T.due("whose(MAX, 60)", x.whose(MAX, 60), 0);
        x.deer(9);
        T.due("whose(0, 1): what is licked is in no PUDDLE", x.whose(0, 1), 8);
        T.due("whose(0, 61)", x.whose(0, 61), OUTSIDE);
        T.due("whose(0, -1)", x.whose(0, -1), OUTSIDE);
        T.due("whose(0, 60) without STATUES", new SaltSaints().whose(0, 60), 0);
        T.due("whose(0, 61) without STATUES", new SaltSaints().whose(0, 61), OUTSIDE);
    }

    private static void p19Reading() {
        T.promise(19, false);
        T.sentence("A READING: its number");
        SaltSaints x = Checks.with("s9990;s1110");
        T.refused(TWO, UNKNOWN, "reading", 2, 0, 61, 100);
        T.refused(TWO, UNKNOWN, "reading", -1, 0, 0, 0);
        T.refused(TWO, UNKNOWN, "reading", 0, 3, 61, 0);
        T.refused(TWO, UNKNOWN, "reading", 0, -1, 0, 0);
        int[][] outside = {{61, 0}, {-1, 0}, {0, 100}, {0, -1}};
        for (int[] of : outside) {
            T.refused(TWO, OUTSIDE, "reading", 0, 0, of[0], of[1]);
        }
        for (int r = 0; r < 8; r++) {
            T.due("reading(1, 2, 60, 99)", x.reading(1, 2, 60, 99), r);
            T.due("many(2)", x.many(2), r + 1);
        }
        Checks.Scene full = y -> {
            TWO.set(y);
            for (int r = 0; r < 8; r++) {
                y.reading(1, 2, 60, 99);
            }
        };
        T.refused(full, FULL, "reading", 0, 0, 0, 0);
        T.refused(full, UNKNOWN, "reading", 2, 0, 0, 0);
        T.refused(full, OUTSIDE, "reading", 0, 0, 61, 0);
        T.due("back(1)", x.back(1), 7);
        T.due("reading(0, 0, 0, 0) of eight", x.reading(0, 0, 0, 0), 7);
        T.due("reading without STATUES", new SaltSaints().reading(0, 0, 0, 0), UNKNOWN);
    }

    private static void p20Back() {
        T.promise(20, false);
        T.sentence("The last k READINGS are taken back: how many are left");
        SaltSaints none = Checks.with("s9990");
        T.due("back(0) of none", none.back(0), 0);
        T.due("back(1) of none", none.back(1), OUTSIDE);
        Checks.Scene three = x -> {
            tellText(x, "s9990");
            x.reading(0, 2, 1, 85);
            x.reading(0, 2, 2, 80);
            x.reading(0, 2, 2, 79);
        };
        SaltSaints x = Checks.after(three);
        T.due("rains(0)", x.rains(0), 0);
        T.refused(three, OUTSIDE, "back", 4);
        T.refused(three, OUTSIDE, "back", -1);
        T.due("back(0)", x.back(0), 3);
        x.rain(1, 5, 3);
        T.due("back(1), the last one", x.back(1), 2);
        T.due("rains(0), the first two stand", x.rains(0), 1 << 5);
        T.due("back(2)", x.back(2), 0);
        T.due("rains(0), none stands", x.rains(0), 1023);
        T.due("back(0) without STATUES", new SaltSaints().back(0), 0);
    }

    private static void p21Rains() {
        T.promise(21, false);
        T.sentence("RAINS of a DAY, as a set");
        SaltSaints none = new SaltSaints();
        T.due("rains(60) without STATUES", none.rains(60), OUTSIDE);
        T.due("rains(0) without STATUES", none.rains(0), STATE);
        SaltSaints x = Checks.with("m9990;s1110");
        T.due("rains(0) without READINGS", x.rains(0), 1023);
        x.rain(3, 9, 0);
        x.reading(0, 2, 4, 88);
        T.due("rains(3), halves are cut", x.rains(3), 1 << 4 | 1 << 5);
        T.due("rain(3, 9, 0) was as it is", x.rain(3, 9, 0), 90);
        T.due("grains(0, 2, 4) is as it was", x.grains(0, 2, 4), 86);
        T.due("rains(4): the READING is wrong by any", x.rains(4), 0);
        x.rain(3, 4, 0);
        T.due("rains(4): the READING is ahead of it", x.rains(4), 1023);
        x.reading(0, 0, 4, 83);
        T.due("rains(3), the NOSE is in the wind", x.rains(3), 1 << 5);
        x.reading(1, 1, 60, 0);
        T.due("rains(3), three READINGS", x.rains(3), 1 << 5);
        x.reading(1, 1, 60, 1);
        T.due("rains(3), READINGS at odds", x.rains(3), 0);
        SaltSaints deer = Checks.with("s1110;s1120");
        deer.deer(1);
        deer.reading(1, 2, 2, 15);
        T.due("rains(0), deer lick it, too", deer.rains(0), 1 << 1);
        T.due("rains(59)", deer.rains(59), 0);
        T.due("rains(60)", x.rains(60), OUTSIDE);
        T.due("rains(-1)", x.rains(-1), OUTSIDE);
    }

    private static void p22Cast() {
        T.promise(22, false);
        T.sentence("CAST");
        SaltSaints x = Checks.with("s9993;s9993");
        x.rain(0, 2, 0);
        T.due("cast(0, 1)", x.cast(0, 1), 0);
        T.due("cast(1, 1): nine tenths of 16", x.cast(1, 1), 14);
        T.due("cast(1, 7)", x.cast(1, 7), 2);
        T.due("cast(1, 8)", x.cast(1, 8), 1);
        T.due("cast(1, 14)", x.cast(1, 14), 1);
        T.due("cast(1, 15)", x.cast(1, 15), 0);
        T.due("cast(60, 999)", x.cast(60, 999), 0);
        x.deer(9);
        T.due("cast(1, 1): nothing of what is licked", x.cast(1, 1), 14);
        SaltSaints seven = Checks.with(SEVEN);
        Checks.rainFor(seven, 60, 9, 0);
        T.due("cast(60, 1) of seven", seven.cast(60, 1), 189);
        T.due("whose(30, 60) of seven", seven.whose(30, 60), 127);
        int[][] outside = {{61, 1}, {-1, 1}, {0, 0}, {0, 1000}, {0, -1}, {0, MIN}};
        for (int[] of : outside) {
            T.due("cast(" + of[0] + ", " + of[1] + ")", x.cast(of[0], of[1]), OUTSIDE);
        }
        T.due("cast(60, 1) without STATUES", new SaltSaints().cast(60, 1), 0);
        T.due("cast(61, 1) without STATUES", new SaltSaints().cast(61, 1), OUTSIDE);
    }

    private static void p23Sheet() {
        T.promise(23, true);
        T.sentence("A SHEET gets a new row: 1");
        SaltSaints x = Checks.with("s1110");
        for (int lane = 0; lane < 3; lane++) {
            T.due("sheet(1, " + lane + ", 60)", x.sheet(1, lane, 60), 1);
            T.due("cell(1, 59, " + lane + ")", x.cell(1, 59, lane), 0);
            x.put(1, 59, 7);
        }
        T.due("sheet(1, 2, 60) again", x.sheet(1, 2, 60), 1);
        T.due("cell(1, 59, 2) is new", x.cell(1, 59, 2), 0);
        x.put(1, 3, 7);
        x.put(1, 0, 7);
        T.due("sheet(1, 2, 0)", x.sheet(1, 2, 0), 1);
        T.due("cell(1, 0, 2)", x.cell(1, 0, 2), LOST);
        T.due("sheet(1, 2, 4)", x.sheet(1, 2, 4), 1);
        T.due("cell(1, 3, 2) is new", x.cell(1, 3, 2), 0);
        T.due("cell(1, 0, 2) is new", x.cell(1, 0, 2), 0);
        Checks.Scene row = y -> Checks.row(y, 1, 2, 7, 0, 0, 7);
        T.refused(row, UNKNOWN, "sheet", 4, 3, 61);
        T.refused(row, UNKNOWN, "sheet", -1, 0, -1);
        T.refused(row, OUTSIDE, "sheet", 1, 3, -1);
        T.refused(row, OUTSIDE, "sheet", 1, -1, 1);
        T.refused(row, OUTSIDE, "sheet", 1, 0, 61);
        T.refused(row, OUTSIDE, "sheet", 1, 0, MAX);
        T.faulted(row, SIZE, "sheet", 1, 0, -1);
        T.faulted(row, SIZE, "sheet", 1, 0, MIN);
        T.due("sheet(1, 0, -1)", x.sheet(1, 0, -1), SIZE);
        T.due("fault()", x.fault(), 4);
        T.due("sheet(1, 0, 1)", x.sheet(1, 0, 1), 1);
        T.due("fault()", x.fault(), 0);
    }

    private static void p24Lose() {
        T.promise(24, false);
        T.sentence("A SHEET has nothing: 1; 0: it had nothing");
        SaltSaints x = Checks.with("s1110");
        T.due("lose(0)", x.lose(0), 1);
        T.due("lose(0) again", x.lose(0), 0);
        T.due("lose(3)", x.lose(3), 0);
        T.due("put(0, 0, 1)", x.put(0, 0, 1), NULL);
        x.sheet(3, 1, 0);
        T.due("lose(3) of no cells", x.lose(3), 1);
        T.refused(THREE, UNKNOWN, "lose", 4);
        T.refused(THREE, UNKNOWN, "lose", -1);
        x.put(0, 0, 1);
        x.lose(0);
        T.due("fault() stays", x.fault(), 1);
    }

    private static void p25Put() {
        T.promise(25, true);
        T.sentence("Cell i of a SHEET becomes v: 1");
        SaltSaints x = new SaltSaints();
        int[] numbers = {0, 127, 128, 255, 256, -128, -129, 32767, 32768, 65536, -32769, MAX, MIN};
        for (int lane = 0; lane < 3; lane++) {
            x.sheet(lane, lane, 2);
            for (int v : numbers) {
                T.due("put(" + lane + ", 1, " + v + ")", x.put(lane, 1, v), 1);
                T.due("cell after put " + v, x.cell(lane, 1, lane), lane == 0 ? (byte) v : lane == 1 ? (short) v : v);
            }
            T.due("cell(" + lane + ", 0, " + lane + ")", x.cell(lane, 0, lane), 0);
        }
        Checks.Scene row = y -> Checks.row(y, 0, 0, 1, 2);
        T.refused(row, UNKNOWN, "put", 4, -1, 0);
        T.refused(row, UNKNOWN, "put", -1, 0, 0);
        T.faulted(row, NULL, "put", 3, -1, 0);
        int[] beyond = {-1, 2, MIN, MAX};
        for (int i : beyond) {
            T.faulted(row, INDEX, "put", 0, i, 9);
        }
        T.due("put(0, 2, 1)", x.put(0, 2, 1), INDEX);
        T.due("fault()", x.fault(), 3);
        T.due("put(0, 0, 1)", x.put(0, 0, 1), 1);
        T.due("fault()", x.fault(), 0);
    }

    private static void p26Cell() {
        T.promise(26, true);
        T.sentence("Cell i of what a SHEET has, taken as a row of a LANE");
        Checks.Scene row = y -> Checks.row(y, 0, 0, 0, 0, -1);
        SaltSaints x = Checks.after(row);
        T.due("cell(0, 2, 0)", x.cell(0, 2, 0), -1);
        T.due("fault()", x.fault(), 0);
        T.refused(row, LOST, "cell", 4, -1, 3);
        T.refused(row, LOST, "cell", 1, -1, 3);
        T.refused(row, LOST, "cell", 0, 0, -1);
        T.faulted(row, CAST, "cell", 0, -1, 1);
        T.faulted(row, NULL, "cell", 1, -1, 1);
        int[] beyond = {-1, 3, MIN, MAX};
        for (int i : beyond) {
            T.faulted(row, INDEX, "cell", 0, i, 0);
        }
    }

    private static void p27Copy() {
        T.promise(27, true);
        T.sentence("n cells of a SHEET from i on go to another one from j on, as they were: n");
        Checks.Scene rows = y -> {
            Checks.row(y, 0, 1, 0, 1, 2, 3, 4);
            Checks.row(y, 1, 1, 10, 11, 12, 13, 14);
            Checks.row(y, 2, 2, 20, 21, 22, 23, 24);
        };
        SaltSaints x = Checks.after(rows);
        T.due("copy(0, 1, 1, 3, 2)", x.copy(0, 1, 1, 3, 2), 2);
        dueRow(x, 1, 1, 10, 11, 12, 1, 2);
        T.due("copy(0, 0, 0, 1, 4) onwards", x.copy(0, 0, 0, 1, 4), 4);
        dueRow(x, 0, 1, 0, 0, 1, 2, 3);
        T.due("copy(2, 1, 2, 0, 4) backwards", x.copy(2, 1, 2, 0, 4), 4);
        dueRow(x, 2, 2, 21, 22, 23, 24, 24);
        T.due("copy(0, 5, 1, 5, 0)", x.copy(0, 5, 1, 5, 0), 0);
        T.due("fault()", x.fault(), 0);
        T.refused(rows, UNKNOWN, "copy", 4, 0, 3, 0, -1);
        T.refused(rows, UNKNOWN, "copy", 3, 0, 4, 0, -1);
        T.refused(rows, UNKNOWN, "copy", 0, 0, -1, 0, 0);
        T.faulted(rows, NULL, "copy", 3, 0, 0, 0, -1);
        T.faulted(rows, NULL, "copy", 0, 0, 3, 0, -1);
        T.faulted(rows, CAST, "copy", 0, 0, 2, 0, -1);
        int[][] beyond = {{-1, 0, 1}, {0, -1, 1}, {0, 0, -1}, {0, 0, 6}, {1, 0, 5}, {0, 1, 5}, {6, 0, 0}, {0, 6, 0},
            {MAX, 0, MAX}, {0, MAX, MAX}, {1, 1, MAX}, {MIN, 0, 0}, {0, 0, MIN}, {-1, 0, 0}, {0, -1, 0}};
        for (int[] of : beyond) {
            T.faulted(rows, INDEX, "copy", 0, of[0], 1, of[1], of[2]);
        }
    }

    private static void dueRow(SaltSaints x, int k, int lane, int... cells) {
        for (int i = 0; i < cells.length; i++) {
            T.due("cell(" + k + ", " + i + ", " + lane + ")", x.cell(k, i, lane), cells[i]);
        }
    }

    private static void p28Tell() {
        T.promise(28, false);
        T.sentence("TELLING of a STATUE");
        SaltSaints x = Checks.after(THREE);
        T.due("tell(0)", x.tell(0), 10);
        T.due("trace()", x.trace(), 1);
        T.due("tell(1)", x.tell(1), 120);
        T.due("trace()", x.trace(), (31 + 2) * 31 + 1);
        T.due("tell(2)", x.tell(2), 160);
        int ahead = (31 + 2) * 31 + 1;
        T.due("trace()", x.trace(), (((ahead * 31 + 3) * 31 + 2) * 31 + 1) * 31 + 1);
        T.refused(THREE, UNKNOWN, "tell", 3);
        T.refused(THREE, UNKNOWN, "tell", -1);
    }

    private static void p29Bow() {
        T.promise(29, false);
        T.sentence("How one BOWS to it");
        SaltSaints x = Checks.with("s1110;b2110;m3110;s1110");
        int[] want = {0, 1, 70, 3};
        int trace = 0;
        for (int k = 0; k < 4; k++) {
            T.due("bow(" + k + ")", x.bow(k), want[k]);
            trace = 31 * trace + (k == 2 ? 5 : 4);
            T.due("trace()", x.trace(), trace);
        }
        T.refused(THREE, UNKNOWN, "bow", 4);
        T.refused(THREE, UNKNOWN, "bow", -1);
    }

    private static void p30As() {
        T.promise(30, true);
        T.sentence("A STATUE, taken as one of a kind: 1");
        SaltSaints x = Checks.with("s1110;b2110;m3110");
        for (int k = 0; k < 3; k++) {
            for (int kind = 0; kind < 3; kind++) {
                T.due("as(" + k + ", " + kind + ")", x.as(k, kind), kind <= k ? 1 : CAST);
                T.due("fault()", x.fault(), kind <= k ? 0 : 2);
            }
        }
        T.faulted(THREE, CAST, "as", 0, 2);
        T.refused(THREE, UNKNOWN, "as", 3, 3);
        T.refused(THREE, UNKNOWN, "as", -1, 0);
        T.refused(THREE, OUTSIDE, "as", 0, 3);
        T.refused(THREE, OUTSIDE, "as", 0, -1);
    }

    private static void p31Trace() {
        T.promise(31, false);
        T.sentence("TRACE");
        SaltSaints x = Checks.with("m1110;s1110");
        int want = 0;
        for (int t = 0; t < 40; t++) {
            T.due("trace()", x.trace(), want);
            x.tell(t % 2);
            int[] bodies = t % 2 == 0 ? new int[] {3, 2, 1, 1} : new int[] {1};
            for (int body : bodies) {
                want = 31 * want + body;
            }
        }
        tellText(x, "s1110");
        T.due("trace() over a new TEXT", x.trace(), want);
    }

    private static void p32Fault() {
        T.promise(32, false);
        T.sentence("The FAULT of the latest call that names one");
        SaltSaints x = Checks.with("s1110");
        T.due("fault()", x.fault(), 0);
        x.put(3, 0, 0);
        T.due("fault() after a FAULT", x.fault(), 1);
        T.due("fault() again", x.fault(), 1);
        x.look(0, 1);
        x.over(0, 1);
        x.fence(0, true);
        x.rain(0, 1, 1);
        x.deer(1);
        x.reading(0, 0, 0, 10);
        x.back(1);
        x.tell(0);
        x.bow(0);
        x.lose(2);
        x.lasts(9);
        x.rains(0);
        x.umbrellas(1, 0);
        x.many(7);
        x.whose(0, 99);
        T.due("fault() after calls that name none", x.fault(), 1);
        x.as(0, 9);
        T.due("fault() after a refusal", x.fault(), 0);
        x.cell(0, 0, 2);
        T.due("fault() after cell", x.fault(), 2);
        x.cell(0, 0, 0);
        T.due("fault() after a good cell", x.fault(), 0);
        x.copy(0, 9, 0, 0, 1);
        T.due("fault() after copy", x.fault(), 3);
        x.statues(0, 0, 0, 5);
        T.due("fault() after statues", x.fault(), 0);
        x.sheet(1, 0, -5);
        T.due("fault() after sheet", x.fault(), 4);
        x.takenFor(0, 0, 0, 1, 0);
        T.due("fault() after takenFor", x.fault(), 0);
        T.due("fault() of a new object", new SaltSaints().fault(), 0);
    }

    private static void p33Many() {
        T.promise(33, false);
        T.sentence("How many: STATUES, DEER, READINGS");
        SaltSaints x = Checks.with(SEVEN);
        x.deer(4);
        x.reading(0, 0, 0, 0);
        x.reading(0, 0, 0, 0);
        T.due("many(0)", x.many(0), 7);
        T.due("many(1)", x.many(1), 4);
        T.due("many(2)", x.many(2), 2);
        T.due("many(3)", x.many(3), OUTSIDE);
        T.due("many(-1)", x.many(-1), OUTSIDE);
        T.due("many(MIN)", x.many(MIN), OUTSIDE);
        SaltSaints none = new SaltSaints();
        for (int what = 0; what < 3; what++) {
            T.due("many(" + what + ") without STATUES", none.many(what), 0);
        }
        T.due("many(3) without STATUES", none.many(3), OUTSIDE);
    }
}
