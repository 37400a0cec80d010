/** The bounds of promises 14 to 16, sentence by sentence. */
public final class PlansBoundsTest {
    private static final int OUTSIDE = Checks.OUTSIDE, STATE = Checks.STATE, NONE = Checks.NONE;
    private static final int MIN = Checks.MIN, MAX = Checks.MAX;
    private static final int[] NO_WHAT = {-1, 2, MIN, MAX};
    private static final String SEVEN_SMALL = "s1110;s1110;s1110;s1110;s1110;s1110;s1110";
    private static final Checks T = new Checks();

    private PlansBoundsTest() { }

    public static void main(String[] args) {
        umbrellas();
        umbrellasOverFew();
        umbrellasOverSeven();
        umbrellasInPlaceOfAll();
        nosesAtTheLastDawn();
        turn();
        turnWhereNoneIsGone();
        turnWhomAndWhereto();
        turnByTheFirstNose();
        roofs();
        roofsByDawns();
        roofsBesides();
        T.end();
    }

    private static void duePlan(SaltSaints x, String name, int number, int set, int many) {
        T.due(x, set, name, number, 0);
        T.due(x, many, name, number, 1);
    }

    // ---- promise 14

    private static void umbrellas() {
        T.promise(14, false);
        T.sentence("OUTSIDE: u, but for 0 .. 3");
        T.refusedAt(Checks.FOUR, OUTSIDE, 0, Checks.of(-1, 4, MIN, MAX), "umbrellas", 0, 0);
        T.refusedAt(Checks.SEVEN, OUTSIDE, 0, Checks.of(-1, 4, 7, MIN, MAX), "umbrellas", 0, 1);
        T.asks(Checks.SEVEN, 0, "umbrellas", 0, 0);
        T.asks(Checks.SEVEN, 7, "umbrellas", 3, 0);
        T.sentence("OUTSIDE: what, but for 0, 1");
        T.refusedAt(Checks.FOUR, OUTSIDE, 1, NO_WHAT, "umbrellas", 0, 0);
        T.asks(Checks.SEVEN, 1, "umbrellas", 1, 0);
        T.asks(Checks.SEVEN, 7, "umbrellas", 1, 1);
        T.sentence("STATE: there are no STATUES");
        T.refused(Checks.NOTHING, STATE, "umbrellas", 0, 0);
        T.refused(Checks.ROWS, STATE, "umbrellas", 3, 1);
        T.sentence("OUTSIDE; STATE: the first of both");
        T.refused(Checks.NOTHING, OUTSIDE, "umbrellas", 4, 0);
        T.refused(Checks.NOTHING, OUTSIDE, "umbrellas", 0, 2);
    }

    /** In rain that no NOSE of 10 lasts without an UMBRELLA. */
    private static void umbrellasOverFew() {
        T.sentence("If there are fewer STATUES, as many as there are: each over another one");
        int[][] sets = {{0, 1, 1, 1}, {0, 1, 3, 3}, {0, 1, 3, 7}, {0, 1, 3, 7}};
        for (int many = 1; many <= 4; many++) {
            SaltSaints dry = Checks.with(SEVEN_SMALL.substring(0, 6 * many - 1));
            SaltSaints wet = Checks.with(SEVEN_SMALL.substring(0, 6 * many - 1));
            Checks.rainFor(wet, 2, 9, 3);
            for (int u = 0; u <= 3; u++) {
                duePlan(dry, "umbrellas", u, sets[many - 1][u], many);
                duePlan(wet, "umbrellas", u, sets[many - 1][u], Math.min(u, many));
            }
        }
    }

    private static void umbrellasOverSeven() {
        T.sentence("of several sets the least: nobody needs one");
        SaltSaints x = Checks.with(SEVEN_SMALL);
        int[] least = {0, 1, 3, 7};
        for (int u = 0; u <= 3; u++) {
            duePlan(x, "umbrellas", u, least[u], 7);
        }
        T.sentence("of several sets the least: all need one");
        Checks.rainFor(x, 2, 9, 3);
        for (int u = 0; u <= 3; u++) {
            duePlan(x, "umbrellas", u, least[u], u);
        }
        T.sentence("of several sets the least: nobody is helped");
        Checks.rainFor(x, 9, 9, 3);
        for (int u = 0; u <= 3; u++) {
            duePlan(x, "umbrellas", u, least[u], 0);
        }
        T.sentence("by which the most NOSES are not GONE: the last ones alone are helped");
        x = Checks.with("s1113;s1113;s1113;s1113;s1110;s1110;s1110");
        Checks.rainFor(x, 2, 9, 3);
        int[] last = {0, 16, 48, 112};
        for (int u = 0; u <= 3; u++) {
            duePlan(x, "umbrellas", u, last[u], u);
        }
        T.sentence("one alone is helped: the others stand over the least");
        x = Checks.with("s1113;s1113;s1113;s1113;s1113;s1113;s1110");
        Checks.rainFor(x, 2, 9, 3);
        int[] one = {0, 64, 65, 67};
        for (int u = 0; u <= 3; u++) {
            duePlan(x, "umbrellas", u, one[u], Math.min(u, 1));
        }
    }

    private static void umbrellasInPlaceOfAll() {
        T.sentence("in place of all that is over any");
        SaltSaints x = Checks.with("s1110;s1110;s1110;s1110");
        Checks.rainFor(x, 2, 9, 3);
        x.over(0, 2);
        x.over(1, 1);
        x.over(3, 2);
        for (int u = 0; u <= 3; u++) {
            duePlan(x, "umbrellas", u, (1 << u) - 1, u);
        }
        T.due(x, 2, "ofStatue", 0, 5);
        T.due(x, 1, "ofStatue", 1, 5);
        T.due(x, 0, "ofStatue", 2, 5);
        T.due(x, NONE, "gone", 0, 0);
        T.due(x, 2, "gone", 2, 0);
    }

    private static void nosesAtTheLastDawn() {
        T.sentence("NOSES not GONE at DAWN 60: the last DAY counts, the last grain is enough");
        SaltSaints x = Checks.with("s1110");
        x.rain(0, 9, 3);
        duePlan(x, "umbrellas", 0, 0, 1);
        x.rain(59, 1, 3);
        duePlan(x, "umbrellas", 0, 0, 0);
        duePlan(x, "umbrellas", 1, 1, 1);
        x.rain(59, 9, 3);
        duePlan(x, "umbrellas", 1, 1, 1);
        x.rain(58, 4, 3);
        duePlan(x, "umbrellas", 1, 1, 0);
        x.rain(58, 3, 3);
        duePlan(x, "umbrellas", 1, 1, 1);
    }

    // ---- promise 15

    private static void turn() {
        T.promise(15, false);
        T.sentence("OUTSIDE: what, but for 0, 1");
        T.refusedAt(Checks.FOUR, OUTSIDE, 0, NO_WHAT, "turn", 0);
        T.asks(Checks.SEVEN, 0, "turn", 0);
        T.asks(Checks.SEVEN, 61, "turn", 1);
        T.sentence("STATE: there are no STATUES");
        T.refused(Checks.NOTHING, STATE, "turn", 0);
        T.refused(Checks.ROWS, STATE, "turn", 1);
        T.sentence("OUTSIDE; STATE: the first of both");
        T.refusedAt(Checks.NOTHING, OUTSIDE, 0, NO_WHAT, "turn", 0);
    }

    private static void dueTurn(SaltSaints x, int whom, int dawn) {
        T.due(x, whom, "turn", 0);
        T.due(x, dawn, "turn", 1);
    }

    private static void turnWhereNoneIsGone() {
        T.sentence("61: none is; of several the least STATUE, then the least of whereto");
        dueTurn(Checks.with("s1113"), 0, 61);
        dueTurn(Checks.with(SEVEN_SMALL), 0, 61);
        SaltSaints x = Checks.with("s1111");
        x.rain(0, 9, 0);
        dueTurn(x, 1, 61);
        T.sentence("60: at the last DAWN, whoever is turned");
        x = Checks.with("s1113;s1113");
        x.rain(0, 9, 0);
        x.rain(59, 1, 1);
        dueTurn(x, 1, 60);
        T.sentence("the last DAY counts: turned out of its WIND");
        x = Checks.with("s1113");
        x.rain(59, 4, 3);
        T.due(x, 60, "gone", 0, 0);
        dueTurn(x, 0, 61);
        T.sentence("the first DAWN: nobody can be turned so that it is later");
        x = Checks.with("s1110;s1110;s1110");
        x.rain(0, 9, 0);
        dueTurn(x, 0, 1);
    }

    private static void turnWhomAndWhereto() {
        T.sentence("10 times the STATUE and whereto: each of seven, each whereto");
        for (int k = 0; k < 7; k++) {
            for (int to = 1; to < 4; to++) {
                SaltSaints x = Checks.with(SEVEN_SMALL);
                for (int other = 0; other < 7; other++) {
                    x.over(other, other == k ? 0 : 2);
                }
                for (int wind = 0; wind < to; wind++) {
                    x.rain(wind, 3, wind);
                }
                x.rain(10, 1, 0);
                T.due(x, to == 1 ? 11 : 2, "gone", k, 0);
                dueTurn(x, 10 * k + to, to == 3 ? 11 : 61);
            }
        }
        T.sentence("then the least of whereto: 0, 1, 2 are in the WIND, 3 is not");
        SaltSaints x = Checks.with("s2110;s2110");
        x.over(0, 2);
        x.rain(0, 5, 0);
        x.rain(1, 5, 1);
        x.rain(2, 5, 2);
        dueTurn(x, 13, 61);
        x.rain(3, 5, 3);
        dueTurn(x, 13, 4);
        T.due(x, 2, "gone", 1, 0);
        T.due(x, 0, "ofStatue", 1, 4);
        x.over(0, 0);
        dueTurn(x, 0, 2);
        T.sentence("whereto 0 .. 3, no other: all of them are in the WIND once");
        x = Checks.with("s3110");
        for (int wind = 0; wind < 4; wind++) {
            x.rain(wind, 5, wind);
        }
        dueTurn(x, 0, 4);
    }

    private static void turnByTheFirstNose() {
        T.sentence("the first NOSE that is GONE, of all STATUES");
        SaltSaints x = Checks.with("s1110;s1113;s1110");
        x.rain(3, 5, 3);
        x.rain(7, 7, 2);
        T.due(x, 4, "gone", 1, 0);
        dueTurn(x, 10, 8);
        x.look(0, 3);
        dueTurn(x, 0, 4);
        T.sentence("that no DEER lick, that all else is as it is over them");
        x.look(0, 0);
        x.deer(9);
        dueTurn(x, 10, 8);
        x.over(1, 1);
        dueTurn(x, 0, 8);
        x.over(0, 1);
        x.over(2, 1);
        dueTurn(x, 10, 61);
        x.over(1, 2);
        dueTurn(x, 0, 61);
    }

    // ---- promise 16

    private static void roofs() {
        T.promise(16, false);
        T.sentence("OUTSIDE: DAWN");
        T.refusedAt(Checks.FOUR, OUTSIDE, 0, Checks.of(-1, 61, MIN, MAX), "roofs", 0, 0);
        T.asks(Checks.FOUR, 0, "roofs", 0, 0);
        T.asks(Checks.FOUR, 2, "roofs", 60, 0);
        T.sentence("OUTSIDE: what, but for 0, 1");
        T.refusedAt(Checks.FOUR, OUTSIDE, 1, NO_WHAT, "roofs", 60, 0);
        T.asks(Checks.FOUR, 1, "roofs", 60, 1);
        T.sentence("STATE: there are no STATUES");
        T.refused(Checks.NOTHING, STATE, "roofs", 0, 0);
        T.refused(Checks.ROWS, STATE, "roofs", 60, 1);
        T.sentence("OUTSIDE; STATE: the first of both");
        T.refused(Checks.NOTHING, OUTSIDE, "roofs", 61, 0);
        T.refused(Checks.NOTHING, OUTSIDE, "roofs", 0, 2);
    }

    private static void roofsByDawns() {
        T.sentence("by which no NOSE is GONE at a DAWN: just ahead of it, just then, the last one");
        SaltSaints x = Checks.with("s1110;s2110;s3110;s1110");
        x.rain(0, 9, 3);
        x.rain(1, 1, 3);
        x.rain(58, 9, 3);
        x.rain(59, 1, 3);
        duePlan(x, "roofs", 0, 0, 0);
        duePlan(x, "roofs", 1, 0, 0);
        duePlan(x, "roofs", 2, 9, 2);
        duePlan(x, "roofs", 58, 9, 2);
        duePlan(x, "roofs", 59, 9, 2);
        duePlan(x, "roofs", 60, 11, 3);
        T.sentence("nobody needs one, all seven do");
        x = Checks.with(SEVEN_SMALL);
        duePlan(x, "roofs", 60, 0, 0);
        x.rain(59, 9, 0);
        duePlan(x, "roofs", 59, 0, 0);
        duePlan(x, "roofs", 60, 127, 7);
    }

    private static void roofsBesides() {
        T.sentence("the fewest STATUES under ROOFS besides (all else as it is)");
        SaltSaints x = Checks.with(SEVEN_SMALL);
        Checks.rainFor(x, 2, 9, 3);
        x.over(0, 2);
        x.over(1, 1);
        x.look(2, 3);
        x.deer(9);
        duePlan(x, "roofs", 1, 4, 1);
        duePlan(x, "roofs", 2, 124, 5);
        x.rain(2, 9, 3);
        duePlan(x, "roofs", 3, 126, 6);
        for (int k = 0; k < 7; k++) {
            T.due(x, k == 0 ? 2 : k == 1 ? 1 : 0, "ofStatue", k, 5);
            x.over(k, 2);
        }
        duePlan(x, "roofs", 60, 0, 0);
    }
}
