/** The bounds of promises 7 to 13, and of what rain and DEER do on a DAY, sentence by sentence. */
public final class DaysBoundsTest {
    private static final int UNKNOWN = Checks.UNKNOWN, OUTSIDE = Checks.OUTSIDE, STATE = Checks.STATE, NONE = Checks.NONE;
    private static final int MIN = Checks.MIN, MAX = Checks.MAX;
    private static final int[] NOT_OF_FOUR = {-1, 4, MIN, MAX}, NOT_OF_SEVEN = {-1, 7, MIN, MAX}, NOT_OF_NONE = {-1, 0, 6, MIN, MAX};
    private static final int[] NO_DAY = {-1, 60, MIN, MAX}, NO_DAWN = {-1, 61, MIN, MAX}, NO_PART = {-1, 3, MIN, MAX};
    private static final Checks T = new Checks();

    private DaysBoundsTest() { }

    public static void main(String[] args) {
        rain();
        deer();
        grains();
        dawns();
        whatRainTakes();
        whatRainTakesOfEachKind();
        noMoreThanThereIs();
        deerAfterRain();
        deerLikeTheMost();
        deerLickSaints();
        deerLickBishops();
        deerGoAway();
        lost();
        lostAndLeft();
        gone();
        goneAtTheFirstDawn();
        liked();
        lasts();
        whoLastsTheLongest();
        shares();
        T.end();
    }

    // ---- promise 7

    private static void rain() {
        T.promise(7, false);
        T.sentence("OUTSIDE: DAYS 0 .. 59");
        T.refusedAt(Checks.FOUR, OUTSIDE, 0, NO_DAY, "rain", 0, 5, 2);
        T.answers(Checks.FOUR, 30, "rain", 0, 5, 2);
        T.answers(Checks.FOUR, 23, "rain", 59, 5, 2);
        T.sentence("OUTSIDE: RAIN (0 .. 9)");
        T.refusedAt(Checks.FOUR, OUTSIDE, 1, Checks.of(-1, 10, MIN, MAX), "rain", 0, 0, 2);
        T.answersAt(Checks.FOUR, 30, 1, Checks.of(0, 1, 8, 9), "rain", 0, 0, 2);
        T.sentence("OUTSIDE: WIND (0 .. 3)");
        T.refusedAt(Checks.FOUR, OUTSIDE, 2, Checks.of(-1, 4, MIN, MAX), "rain", 0, 5, 0);
        T.answersAt(Checks.FOUR, 30, 2, Checks.of(0, 1, 2, 3), "rain", 0, 5, 0);
        T.sentence("STATE: there are no STATUES");
        T.refused(Checks.NOTHING, STATE, "rain", 0, 0, 0);
        T.refused(Checks.ROWS, STATE, "rain", 59, 9, 3);
        T.sentence("OUTSIDE; STATE: the first of both");
        T.refused(Checks.NOTHING, OUTSIDE, "rain", 60, 0, 0);
        T.refused(Checks.NOTHING, OUTSIDE, "rain", 0, 10, 0);
        T.refused(Checks.NOTHING, OUTSIDE, "rain", 0, 0, 4);
        T.sentence("0 at first, RAIN and WIND of each DAY");
        SaltSaints x = Checks.with("s1110");
        for (int day = 0; day < 60; day++) {
            T.due(x, 0, "rain", day, day % 10, day % 4);
        }
        T.sentence("10 times what RAIN was, and WIND");
        for (int day = 0; day < 60; day++) {
            T.due(x, 10 * (day % 10) + day % 4, "rain", day, 9, 3);
            T.due(x, 93, "rain", day, 0, 3);
            T.due(x, 3, "rain", day, 9, 0);
            T.due(x, 90, "rain", day, 0, 0);
        }
    }

    // ---- promise 8

    private static void deer() {
        T.promise(8, false);
        T.sentence("OUTSIDE: DEER (0 .. 9)");
        T.refusedAt(Checks.FOUR, OUTSIDE, 0, Checks.of(-1, 10, MIN, MAX), "deer", 0);
        T.answersAt(Checks.FOUR, 2, 0, Checks.of(0, 1, 8, 9), "deer", 0);
        T.sentence("STATE: there are no STATUES");
        T.refused(Checks.NOTHING, STATE, "deer", 0);
        T.refused(Checks.ROWS, STATE, "deer", 9);
        T.sentence("OUTSIDE; STATE: the first of both");
        T.refusedAt(Checks.NOTHING, OUTSIDE, 0, Checks.of(-1, 10, MIN, MAX), "deer", 0);
        T.sentence("how many there were");
        SaltSaints x = Checks.with("s1110");
        int were = 0;
        for (int n : Checks.of(9, 9, 0, 1, 5, 0)) {
            T.due(x, were, "deer", n);
            T.due(x, n, "many", 1);
            were = n;
        }
        T.sentence("as many each DAY");
        x = Checks.with("s1190;s1190");
        x.deer(1);
        for (int dawn = 0; dawn <= 60; dawn++) {
            T.due("licked by DAWN " + dawn, x.lost(0, dawn, 1) + x.lost(1, dawn, 1), 2 * dawn);
        }
        x.deer(9);
        T.due("licked by nine DEER at DAWN 9", x.lost(0, 9, 1) + x.lost(1, 9, 1), 162);
        T.due("licked by nine DEER at DAWN 10", x.lost(0, 10, 1) + x.lost(1, 10, 1), 180);
        T.due("licked by nine DEER at DAWN 60", x.lost(0, 60, 1) + x.lost(1, 60, 1), 180);
    }

    // ---- promise 9

    private static void grains() {
        T.promise(9, false);
        T.sentence("UNKNOWN: STATUE");
        T.refusedAt(Checks.FOUR, UNKNOWN, 0, NOT_OF_FOUR, "grains", 0, 0, 0);
        T.refusedAt(Checks.SEVEN, UNKNOWN, 0, NOT_OF_SEVEN, "grains", 0, 0, 0);
        T.refusedAt(Checks.NOTHING, UNKNOWN, 0, NOT_OF_NONE, "grains", 0, 0, 0);
        T.asks(Checks.SEVEN, 10, "grains", 0, 0, 0);
        T.asks(Checks.SEVEN, 88, "grains", 6, 2, 60);
        T.sentence("UNKNOWN: PART");
        T.refusedAt(Checks.FOUR, UNKNOWN, 1, NO_PART, "grains", 0, 0, 0);
        T.asks(Checks.FOUR, 10, "grains", 0, 0, 0);
        T.asks(Checks.FOUR, 30, "grains", 0, 2, 0);
        T.sentence("OUTSIDE: DAWN");
        T.refusedAt(Checks.FOUR, OUTSIDE, 2, NO_DAWN, "grains", 2, 1, 0);
        T.asks(Checks.FOUR, 20, "grains", 2, 1, 0);
        T.asks(Checks.FOUR, 20, "grains", 2, 1, 60);
        T.sentence("UNKNOWN: STATUE, PART; OUTSIDE: DAWN: the first of them");
        T.refused(Checks.FOUR, UNKNOWN, "grains", 4, 0, 61);
        T.refused(Checks.FOUR, UNKNOWN, "grains", 0, 3, 61);
        T.refused(Checks.FOUR, UNKNOWN, "grains", -1, -1, -1);
    }

    private static void dueParts(SaltSaints x, int k, int dawn, int nose, int head, int body) {
        T.due(x, nose, "grains", k, 0, dawn);
        T.due(x, head, "grains", k, 1, dawn);
        T.due(x, body, "grains", k, 2, dawn);
    }

    private static void dawns() {
        T.sentence("At DAWN n so many DAYS are over (0 .. 60)");
        SaltSaints x = Checks.with("s9990");
        x.rain(0, 1, 1);
        x.rain(58, 2, 1);
        x.rain(59, 3, 1);
        dueParts(x, 0, 0, 90, 90, 90);
        dueParts(x, 0, 1, 89, 88, 89);
        dueParts(x, 0, 58, 89, 88, 89);
        dueParts(x, 0, 59, 87, 84, 87);
        dueParts(x, 0, 60, 84, 78, 84);
        T.sentence("At a DAWN, whatever was asked or told ahead");
        T.due(x, 21, "rain", 58, 0, 1);
        dueParts(x, 0, 60, 86, 82, 86);
        dueParts(x, 0, 0, 90, 90, 90);
        T.due(x, 11, "rain", 0, 0, 0);
        dueParts(x, 0, 1, 90, 90, 90);
        dueParts(x, 0, 60, 87, 84, 87);
    }

    private static void whatRainTakes() {
        T.sentence("NOSE loses RAIN, three times that, if WIND is whereto it LOOKS; HEAD twice RAIN; BODY RAIN");
        for (int wind = 0; wind < 4; wind++) {
            for (int looks = 0; looks < 4; looks++) {
                SaltSaints x = Checks.with("s999" + looks);
                x.rain(0, 5, wind);
                dueParts(x, 0, 1, wind == looks ? 75 : 85, 80, 85);
            }
        }
        for (int rain = 0; rain <= 9; rain++) {
            SaltSaints x = Checks.with("s9990;b9991");
            x.rain(0, rain, 0);
            dueParts(x, 0, 1, 90 - 3 * rain, 90 - 2 * rain, 90 - rain);
            dueParts(x, 1, 1, 90 - rain, 90 - 2 * rain, 90 - rain);
        }
    }

    /** Of RAIN 0, 1, 2, 3, 8, 9 in the WIND: what a NOSE, a HEAD, a BODY lose. */
    private static void whatRainTakesOfEachKind() {
        int[] rains = {0, 1, 2, 3, 8, 9};
        int[] whole = {0, 0, 0, 3, 2, 1, 6, 4, 2, 9, 6, 3, 24, 16, 8, 27, 18, 9};
        int[] half = {0, 0, 0, 1, 1, 0, 3, 2, 1, 4, 3, 1, 12, 8, 4, 13, 9, 4};
        int[] quarter = {0, 0, 0, 0, 0, 0, 1, 1, 0, 2, 1, 0, 6, 4, 2, 6, 4, 2};
        T.sentence("A SAINT, a BISHOP lose all of it");
        dueLosses("s9992", 0, rains, whole);
        dueLosses("b9992", 0, rains, whole);
        T.sentence("A MARTYR loses half of each (cut)");
        dueLosses("m9992", 0, rains, half);
        T.sentence("Under an UMBRELLA half of what is lost then (cut)");
        dueLosses("s9992", 1, rains, half);
        dueLosses("b9992", 1, rains, half);
        dueLosses("m9992", 1, rains, quarter);
        T.sentence("Under a ROOF nothing");
        for (String text : new String[] {"s9992", "b9992", "m9992"}) {
            dueLosses(text, 2, rains, new int[18]);
        }
    }

    private static void dueLosses(String text, int cover, int[] rains, int[] losses) {
        for (int r = 0; r < rains.length; r++) {
            SaltSaints x = Checks.with(text);
            x.over(0, cover);
            x.rain(0, rains[r], 2);
            dueParts(x, 0, 1, 90 - losses[3 * r], 90 - losses[3 * r + 1], 90 - losses[3 * r + 2]);
            T.due(x, losses[3 * r] + losses[3 * r + 1] + losses[3 * r + 2], "lost", 0, 1, 0);
        }
    }

    private static void noMoreThanThereIs() {
        T.sentence("A PART loses no more than it has: less, just that much, more");
        int[][] want = {{3, 1, 2, 6}, {4, 0, 2, 6}, {5, 0, 0, 5}, {9, 0, 0, 1}};
        for (int[] of : want) {
            SaltSaints x = Checks.with("s1110");
            x.rain(0, of[0], 0);
            x.rain(1, 0, 0);
            int nose = Math.max(0, 10 - 3 * of[0]);
            dueParts(x, 0, 1, nose, of[0] == 3 ? 4 : of[0] == 4 ? 2 : 0, 10 - of[0]);
            T.due(x, 30 - nose - (of[0] == 3 ? 4 : of[0] == 4 ? 2 : 0) - (10 - of[0]), "lost", 0, 1, 0);
        }
        SaltSaints x = Checks.with("s1111");
        Checks.rainFor(x, 2, 5, 0);
        dueParts(x, 0, 1, 5, 0, 5);
        dueParts(x, 0, 2, 0, 0, 0);
        T.due(x, 30, "lost", 0, 2, 0);
        Checks.rainFor(x, 60, 9, 1);
        dueParts(x, 0, 1, 0, 0, 1);
        dueParts(x, 0, 2, 0, 0, 0);
        dueParts(x, 0, 60, 0, 0, 0);
        T.due(x, 29, "lost", 0, 1, 0);
        T.due(x, 30, "lost", 0, 60, 0);
        T.sentence("half of what is lost, and then no more than it has");
        SaltSaints dry = Checks.with("s1110");
        dry.over(0, 1);
        dry.rain(0, 6, 0);
        dry.rain(1, 2, 0);
        dueParts(dry, 0, 1, 1, 4, 7);
        dueParts(dry, 0, 2, 0, 2, 6);
        dry.rain(0, 9, 0);
        dueParts(dry, 0, 1, 0, 1, 6);
        T.due(dry, 10 + 9 + 4, "lost", 0, 1, 0);
    }

    private static void deerAfterRain() {
        T.sentence("On a DAY, in order: rain, then DEER");
        SaltSaints x = Checks.with("s1110");
        x.deer(1);
        x.rain(0, 9, 3);
        dueParts(x, 0, 1, 1, 0, 0);
        T.due(x, 1, "lost", 0, 1, 1);
        T.due(x, 28, "lost", 0, 1, 0);
        T.sentence("DEER lick of a BODY alone");
        x.rain(0, 0, 0);
        x.deer(9);
        dueParts(x, 0, 1, 10, 10, 0);
        dueParts(x, 0, 60, 10, 10, 0);
        T.due(x, 10, "lost", 0, 60, 1);
        T.due(x, 0, "lost", 0, 60, 0);
    }

    private static void dueLicked(SaltSaints x, int dawn, int... licked) {
        for (int k = 0; k < licked.length; k++) {
            T.due(x, licked[k], "lost", k, dawn, 1);
        }
    }

    private static void deerLikeTheMost() {
        T.sentence("that of the most GRAINS in its BODY, however much its NOSE and HEAD have");
        SaltSaints x = Checks.with("s9910;s1120;s9910");
        x.deer(1);
        dueLicked(x, 1, 0, 2, 0);
        T.sentence("of several the least; DEER come one after another");
        x = Checks.with("s1110;s1130;s1130;s1130");
        int[][] want = {{0, 0, 0, 0}, {0, 2, 0, 0}, {0, 2, 2, 0}, {0, 2, 2, 2}, {0, 4, 2, 2}, {0, 4, 4, 2}, {0, 4, 4, 4},
            {0, 6, 4, 4}, {0, 6, 6, 4}, {0, 6, 6, 6}};
        for (int n = 0; n <= 9; n++) {
            x.deer(n);
            dueLicked(x, 1, want[n]);
        }
        T.sentence("of those that have no FENCE");
        x.fence(1, true);
        dueLicked(x, 1, 0, 0, 10, 8);
        x.fence(2, true);
        dueLicked(x, 1, 0, 0, 0, 18);
        x.fence(3, true);
        dueLicked(x, 1, 10, 0, 0, 0);
        x.fence(0, true);
        dueLicked(x, 60, 0, 0, 0, 0);
        T.sentence("seven of them, the last one of the most");
        x = Checks.with("s1110;s1110;s1110;s1110;s1110;s1110;s1120");
        x.deer(5);
        dueLicked(x, 1, 0, 0, 0, 0, 0, 0, 10);
        x.deer(6);
        dueLicked(x, 1, 2, 0, 0, 0, 0, 0, 10);
    }

    private static void deerLickSaints() {
        T.sentence("of a SAINT as long as there is something of its BODY; Each licks 2 GRAINS, or the last one");
        int[] rains = {6, 7, 8, 9};
        int[] one = {2, 2, 2, 1};
        int[] two = {4, 3, 2, 1};
        for (int r = 0; r < rains.length; r++) {
            SaltSaints x = Checks.with("s1110");
            x.rain(0, rains[r], 3);
            x.deer(1);
            dueLicked(x, 1, one[r]);
            x.deer(2);
            dueLicked(x, 1, two[r]);
            x.deer(9);
            dueLicked(x, 1, 10 - rains[r]);
            T.due(x, 0, "grains", 0, 2, 1);
        }
    }

    private static void deerLickBishops() {
        T.sentence("of a BISHOP as long as that is more than half of what it was at first");
        int[] rains = {3, 4, 5, 6};
        int[] licked = {2, 2, 0, 0};
        for (int r = 0; r < rains.length; r++) {
            SaltSaints x = Checks.with("b1110");
            x.rain(0, rains[r], 3);
            x.deer(9);
            dueLicked(x, 1, licked[r]);
            dueLicked(x, 60, licked[r]);
        }
        SaltSaints dry = Checks.with("b1190");
        dry.deer(9);
        dueLicked(dry, 60, 46);
        T.sentence("(a MARTYR, too)");
        int[] half = {5, 6, 7, 8, 9};
        for (int rain : half) {
            SaltSaints x = Checks.with("m1110");
            x.rain(0, rain, 3);
            x.deer(9);
            dueLicked(x, 1, rain < 6 ? 4 : 2);
            x.rain(1, 2, 3);
            dueLicked(x, 60, rain < 6 ? 4 : 2);
        }
        SaltSaints wet = Checks.with("m1110");
        wet.rain(0, 9, 3);
        wet.rain(1, 2, 3);
        wet.deer(1);
        wet.fence(0, true);
        T.due(wet, 5, "grains", 0, 2, 2);
        wet.fence(0, false);
        dueLicked(wet, 60, 2);
        T.sentence("one of fewer GRAINS, where the one of the most can't be licked any more");
        SaltSaints both = Checks.with("b1190;s1110");
        Checks.rainFor(both, 4, 9, 3);
        both.rain(4, 9, 3);
        both.fence(1, true);
        T.due(both, 45, "grains", 0, 2, 5);
        both.over(1, 2);
        both.fence(1, false);
        both.deer(1);
        dueLicked(both, 1, 2, 0);
        T.due(both, 0, "liked", 3);
        T.due(both, 1, "liked", 4);
        T.due(both, 1, "liked", 8);
        T.due(both, NONE, "liked", 9);
    }

    private static void deerGoAway() {
        T.sentence("If there is none, it goes away");
        SaltSaints x = Checks.with("s1110;b1110");
        x.fence(0, true);
        x.deer(9);
        dueLicked(x, 1, 0, 6);
        dueLicked(x, 60, 0, 6);
        T.due(x, 10, "grains", 0, 2, 60);
        T.due(x, 4, "grains", 1, 2, 60);
        T.sentence("DEER 0: none comes");
        x = Checks.with("s1110");
        T.due(x, 0, "deer", 0);
        dueParts(x, 0, 60, 10, 10, 10);
    }

    // ---- promise 10

    private static void lost() {
        T.promise(10, false);
        T.sentence("UNKNOWN: there is no such STATUE");
        T.refusedAt(Checks.FOUR, UNKNOWN, 0, NOT_OF_FOUR, "lost", 0, 0, 0);
        T.refusedAt(Checks.SEVEN, UNKNOWN, 0, NOT_OF_SEVEN, "lost", 0, 60, 1);
        T.refusedAt(Checks.NOTHING, UNKNOWN, 0, NOT_OF_NONE, "lost", 0, 0, 0);
        T.sentence("OUTSIDE: DAWN");
        T.refusedAt(Checks.FOUR, OUTSIDE, 1, NO_DAWN, "lost", 0, 0, 0);
        T.asks(Checks.FOUR, 0, "lost", 0, 0, 0);
        T.asks(Checks.FOUR, 0, "lost", 0, 0, 1);
        T.asks(Checks.FOUR, 44, "lost", 1, 60, 0);
        T.sentence("OUTSIDE: what, but for 0, 1");
        T.refusedAt(Checks.FOUR, OUTSIDE, 2, Checks.of(-1, 2, MIN, MAX), "lost", 0, 60, 0);
        T.asks(Checks.FOUR, 12, "lost", 1, 1, 0);
        T.asks(Checks.FOUR, 0, "lost", 1, 1, 1);
        T.sentence("UNKNOWN; OUTSIDE: the first of both");
        T.refused(Checks.FOUR, UNKNOWN, "lost", 4, 61, 2);
        T.refused(Checks.FOUR, UNKNOWN, "lost", -1, 0, 2);
        T.sentence("the most that there may be");
        SaltSaints x = Checks.with("s9990;s9990;s9990;s9990;s9990;s9990;s9990");
        x.deer(9);
        for (int k = 0; k < 7; k++) {
            T.due(x, 90, "lost", k, 60, 1);
            T.due(x, 0, "lost", k, 60, 0);
        }
        x.deer(0);
        Checks.rainFor(x, 60, 9, 0);
        for (int k = 0; k < 7; k++) {
            T.due(x, 270, "lost", k, 60, 0);
            T.due(x, 0, "lost", k, 60, 1);
        }
    }

    private static void lostAndLeft() {
        T.sentence("each grain is left, or in the PUDDLE, or licked");
        for (int dawn : Checks.of(0, 1, 2, 7, 59, 60)) {
            SaltSaints x = Checks.after(Checks.SEVEN);
            for (int k = 0; k < 7; k++) {
                int left = x.grains(k, 0, dawn) + x.grains(k, 1, dawn) + x.grains(k, 2, dawn);
                int first = x.ofStatue(k, 0) + x.ofStatue(k, 1) + x.ofStatue(k, 2);
                T.due("all of " + k + " at DAWN " + dawn, left + x.lost(k, dawn, 0) + x.lost(k, dawn, 1), first);
            }
        }
    }

    // ---- promise 11

    private static void gone() {
        T.promise(11, false);
        T.sentence("UNKNOWN: STATUE");
        T.refusedAt(Checks.FOUR, UNKNOWN, 0, NOT_OF_FOUR, "gone", 0, 0);
        T.refusedAt(Checks.SEVEN, UNKNOWN, 0, NOT_OF_SEVEN, "gone", 0, 3);
        T.refusedAt(Checks.NOTHING, UNKNOWN, 0, NOT_OF_NONE, "gone", 0, 0);
        T.sentence("UNKNOWN: part, but for 0 .. 3");
        T.refusedAt(Checks.FOUR, UNKNOWN, 1, Checks.of(-1, 4, MIN, MAX), "gone", 0, 0);
        T.asks(Checks.FOUR, 2, "gone", 1, 0);
        T.asks(Checks.FOUR, 2, "gone", 1, 1);
        T.asks(Checks.FOUR, NONE, "gone", 1, 2);
        T.asks(Checks.FOUR, NONE, "gone", 1, 3);
    }

    private static void goneAtTheFirstDawn() {
        T.sentence("A PART is GONE at the first DAWN at which it has no GRAINS; NONE: at none of 0 .. 60");
        SaltSaints x = Checks.with("s1110");
        int[] rainy = {0, 29, 58, 59};
        for (int day : rainy) {
            x.rain(day, 5, 1);
            T.due(x, day + 1, "gone", 0, 1);
            T.due(x, NONE, "gone", 0, 0);
            x.rain(day, 4, 0);
            T.due(x, day + 1, "gone", 0, 0);
            T.due(x, NONE, "gone", 0, 1);
            x.rain(day, 3, 0);
            T.due(x, NONE, "gone", 0, 0);
            x.rain(day, 0, 0);
        }
        T.sentence("a STATUE, as all its PARTS are");
        int[][] days = {{0, 1}, {0, 59}, {58, 59}};
        for (int[] two : days) {
            x = Checks.with("s1110");
            x.rain(two[0], 9, 0);
            x.rain(two[1], 1, 1);
            T.due(x, two[0] + 1, "gone", 0, 0);
            T.due(x, two[0] + 1, "gone", 0, 1);
            T.due(x, two[1] + 1, "gone", 0, 2);
            T.due(x, two[1] + 1, "gone", 0, 3);
            x.rain(two[1], 0, 1);
            T.due(x, NONE, "gone", 0, 2);
            T.due(x, NONE, "gone", 0, 3);
        }
        T.sentence("the BODY licked up first, the NOSE last");
        x = Checks.with("s1110");
        x.deer(5);
        x.rain(1, 9, 1);
        x.rain(2, 1, 1);
        T.due(x, 1, "gone", 0, 2);
        T.due(x, 2, "gone", 0, 1);
        T.due(x, 3, "gone", 0, 0);
        T.due(x, 3, "gone", 0, 3);
    }

    // ---- promise 12

    private static void liked() {
        T.promise(12, false);
        T.sentence("OUTSIDE: a DAY");
        T.refusedAt(Checks.FOUR, OUTSIDE, 0, NO_DAY, "liked", 0);
        T.asks(Checks.FOUR, 3, "liked", 0);
        T.asks(Checks.FOUR, NONE, "liked", 59);
        T.sentence("STATE: there are no STATUES");
        T.refused(Checks.NOTHING, STATE, "liked", 0);
        T.refused(Checks.ROWS, STATE, "liked", 59);
        T.sentence("OUTSIDE; STATE: the first of both");
        T.refusedAt(Checks.NOTHING, OUTSIDE, 0, NO_DAY, "liked", 0);
        T.sentence("NONE: there are no DEER");
        SaltSaints x = Checks.with("s1190;s1190");
        T.due(x, NONE, "liked", 0);
        T.due(x, NONE, "liked", 59);
        T.sentence("To which STATUE the first DEER comes, on the first and on the last DAY");
        x.deer(1);
        T.due(x, 0, "liked", 0);
        T.due(x, 1, "liked", 1);
        T.due(x, 0, "liked", 58);
        T.due(x, 1, "liked", 59);
        T.sentence("the first of them: of two each DAY");
        x.deer(2);
        T.due(x, 0, "liked", 0);
        T.due(x, 0, "liked", 1);
        T.due(x, 0, "liked", 44);
        T.sentence("NONE: to none");
        T.due(x, NONE, "liked", 45);
        T.due(x, NONE, "liked", 59);
        x.fence(0, true);
        T.due(x, 1, "liked", 0);
        T.due(x, 1, "liked", 22);
        T.due(x, NONE, "liked", 23);
        x.fence(1, true);
        T.due(x, NONE, "liked", 0);
        T.sentence("NONE: there are no DEER any more");
        x.fence(0, false);
        T.due(x, 0, "liked", 0);
        x.deer(0);
        T.due(x, NONE, "liked", 0);
    }

    // ---- promise 13

    private static void lasts() {
        T.promise(13, false);
        T.sentence("LOST: OUTSIDE: what, but for 0, 1, 2");
        T.refusedAt(Checks.FOUR, Checks.LOST, 0, Checks.of(-1, 3, MIN, MAX), "lasts", 0);
        T.asks(Checks.FOUR, 0, "lasts", 0);
        T.sentence("LOST: STATE: there are no STATUES");
        T.refusedAt(Checks.NOTHING, Checks.LOST, 0, Checks.of(0, 1, 2), "lasts", 0);
        T.refusedAt(Checks.ROWS, Checks.LOST, 0, Checks.of(0, 1, 2, -1, 3, MIN, MAX), "lasts", 0);
    }

    private static void whoLastsTheLongest() {
        T.sentence("of several the least: none is GONE");
        T.due(Checks.with("s1110"), 0, "lasts", 0);
        T.due(Checks.with("s1110;s1190"), 0, "lasts", 0);
        T.due(Checks.after(Checks.SEVEN), 0, "lasts", 0);
        T.sentence("of several the least: all are GONE at the same DAWN");
        SaltSaints x = Checks.with("s1110;s1120;s1120;s1110;s1120;s1110;s1120");
        Checks.rainFor(x, 60, 5, 3);
        T.due(x, 1, "lasts", 0);
        T.sentence("NONE is longest of all, the last DAWN is not");
        x = Checks.with("s1110;s1120;s1110");
        Checks.rainFor(x, 1, 9, 3);
        x.rain(59, 9, 3);
        x.rain(58, 1, 3);
        T.due(x, 59, "gone", 0, 3);
        T.due(x, NONE, "gone", 1, 3);
        T.due(x, 1, "lasts", 0);
        x.rain(57, 1, 3);
        T.due(x, 60, "gone", 1, 3);
        T.due(x, 1, "lasts", 0);
        x.over(2, 2);
        T.due(x, 2, "lasts", 0);
        x.over(0, 2);
        T.due(x, 0, "lasts", 0);
        T.sentence("GONE at DAWN 59, and at 60");
        x = Checks.with("s1110;s1110");
        Checks.rainFor(x, 1, 5, 3);
        x.rain(58, 5, 3);
        T.due(x, 0, "lasts", 0);
        x.over(1, 1);
        x.rain(59, 9, 3);
        T.due(x, 59, "gone", 0, 3);
        T.due(x, NONE, "gone", 1, 3);
        T.due(x, 1, "lasts", 0);
    }

    private static void dueShare(SaltSaints x, int upper, int lower) {
        T.due(x, upper, "lasts", 1);
        T.due(x, lower, "lasts", 2);
    }

    private static void shares() {
        T.sentence("how much is left, as a share in least terms: all of it is 1 of 1");
        dueShare(Checks.with("s1110"), 1, 1);
        dueShare(Checks.with("s9990;s9990;s9990;s9990;s9990;s9990;s9990"), 1, 1);
        T.sentence("upper and lower number (above 0) in least terms: nothing is 0 of 1");
        SaltSaints x = Checks.with("s1110");
        Checks.rainFor(x, 2, 9, 0);
        dueShare(x, 0, 1);
        x = Checks.with("s9990;s9990;s9990;s9990;s9990;s9990;s9990");
        Checks.rainFor(x, 60, 9, 0);
        dueShare(x, 0, 1);
        T.sentence("of all GRAINS: what can't be told in less");
        x = Checks.with("m9990;s9990;s9990;s9990;s9990;s9990;s9990");
        for (int k = 1; k < 7; k++) {
            x.over(k, 2);
        }
        x.rain(0, 1, 1);
        dueShare(x, 1889, 1890);
        T.sentence("what can: by 2, by 3, by more");
        x.rain(0, 2, 1);
        dueShare(x, 943, 945);
        x.rain(0, 3, 1);
        dueShare(x, 377, 378);
        x.rain(0, 9, 1);
        dueShare(x, 1873, 1890);
        x.over(0, 2);
        dueShare(x, 1, 1);
        T.sentence("at DAWN 60, all that the last DAY takes is lost; what is licked is lost, too");
        x = Checks.with("s1110");
        x.rain(59, 1, 1);
        dueShare(x, 13, 15);
        x.deer(1);
        dueShare(x, 17, 30);
        x.deer(0);
        x.rain(59, 9, 0);
        dueShare(x, 1, 30);
    }
}
