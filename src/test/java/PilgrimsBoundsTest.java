/** The bounds of promises 17 to 22, sentence by sentence. */
public final class PilgrimsBoundsTest {
    private static final int UNKNOWN = Checks.UNKNOWN, OUTSIDE = Checks.OUTSIDE, STATE = Checks.STATE, FULL = Checks.FULL;
    private static final int NULL = Checks.NULL, CAST = Checks.CAST, INDEX = Checks.INDEX;
    private static final int MIN = Checks.MIN, MAX = Checks.MAX;
    private static final int[] NO_DAWN = {-1, 61, MIN, MAX}, NO_WHAT = {-1, 2, MIN, MAX}, NO_NUMBER = {-1, 1000, MIN, MAX};
    private static final String NINES = "s9990;s9990;s9990;s9990;s9990;s9990;s9990";
    private static final Checks T = new Checks();

    private PilgrimsBoundsTest() { }

    public static void main(String[] args) {
        takenForRefusals();
        takenForFaults();
        takenForNumbers();
        takenForOrder();
        takenForTheLeast();
        whose();
        reading();
        readingFull();
        back();
        rains();
        rainsByReadings();
        rainsThatChangeNothing();
        cast();
        castOfTheMost();
        T.end();
    }

    // ---- promise 17

    private static void takenForRefusals() {
        T.promise(17, true);
        T.sentence("UNKNOWN: SHEET");
        T.refusedAt(Checks.FOUR, UNKNOWN, 1, Checks.of(-1, 4, MIN, MAX), "takenFor", 0, 0, 2, 0, 0);
        for (int k = 0; k < 4; k++) {
            int sheet = k;
            T.answers(x -> {
                Checks.FOUR.set(x);
                Checks.row(x, sheet, 2, 30, 20, 10);
            }, 2, "takenFor", 0, sheet, 2, 0, 0);
        }
        T.sentence("OUTSIDE: DAWN");
        T.refusedAt(Checks.FOUR, OUTSIDE, 0, NO_DAWN, "takenFor", 0, 2, 2, 0, 0);
        T.asks(Checks.FOUR, 0, "takenFor", 0, 2, 2, 0, 0);
        T.asks(Checks.FOUR, 1, "takenFor", 60, 2, 2, 0, 0);
        T.sentence("OUTSIDE: what, but for 0, 1");
        T.refusedAt(Checks.FOUR, OUTSIDE, 4, NO_WHAT, "takenFor", 0, 2, 2, 0, 0);
        T.asks(Checks.FOUR, 10 + 979 + 20, "takenFor", 0, 2, 2, 0, 1);
        T.sentence("OUTSIDE: lane");
        T.refusedAt(Checks.FOUR, OUTSIDE, 2, Checks.of(-1, 3, MIN, MAX), "takenFor", 0, 2, 2, 0, 0);
        for (int lane = 0; lane < 3; lane++) {
            int of = lane;
            T.asks(x -> {
                Checks.FOUR.set(x);
                Checks.row(x, 3, of, 30, 20, 10);
            }, 2, "takenFor", 0, 3, lane, 0, 0);
        }
        T.sentence("STATE: there are no STATUES");
        T.refused(Checks.ROWS, STATE, "takenFor", 0, 0, 0, 0, 0);
        T.refused(Checks.ROWS, STATE, "takenFor", 60, 2, 2, 0, 1);
    }

    private static void takenForFaults() {
        T.sentence("CAST: it is of another LANE");
        for (int sheet = 0; sheet < 3; sheet++) {
            for (int lane = 0; lane < 3; lane++) {
                if (lane != sheet) {
                    T.faulted(Checks.FOUR, CAST, "takenFor", 0, sheet, lane, 0, 0);
                }
            }
        }
        T.sentence("NULL (nothing is no CAST)");
        for (int lane = 0; lane < 3; lane++) {
            T.faulted(Checks.FOUR, NULL, "takenFor", 0, 3, lane, 0, 0);
        }
        T.faulted(Checks.NOTHING, NULL, "takenFor", 0, 0, 0, 0, 0);
        T.sentence("INDEX: one of three such cells is not there");
        T.asks(Checks.FOUR, 3, "takenFor", 0, 0, 0, 0, 0);
        T.asks(Checks.FOUR, 3, "takenFor", 0, 0, 0, 20, 0);
        T.faultedAt(Checks.FOUR, INDEX, 3, Checks.of(-1, -3, 21, 22, 23, 24, MIN, MAX, MAX - 2), "takenFor", 0, 0, 0, 0, 0);
        T.sentence("INDEX: of a row of 0, 1, 2 numbers; none, of 3");
        for (int many = 0; many <= 3; many++) {
            int cells = many;
            Checks.Scene scene = x -> {
                Checks.FOUR.set(x);
                x.sheet(3, 0, cells);
            };
            if (many < 3) {
                T.faultedAt(scene, INDEX, 3, Checks.of(-1, 0, 1, 2, 3, MIN, MAX), "takenFor", 0, 3, 0, 0, 0);
            } else {
                T.asks(scene, 1, "takenFor", 0, 3, 0, 0, 0);
                T.faultedAt(scene, INDEX, 3, Checks.of(-1, 1, 3, 4), "takenFor", 0, 3, 0, 0, 0);
            }
        }
        T.sentence("INDEX: of a row of 60 numbers");
        T.asksAt(Checks.SEVEN, 0, 3, Checks.of(1, 56), "takenFor", 0, 1, 0, 0, 0);
        T.refused(Checks.SEVEN, OUTSIDE, "takenFor", 0, 1, 0, 57, 0);
        T.faultedAt(Checks.SEVEN, INDEX, 3, Checks.of(58, 59, 60, 61), "takenFor", 0, 1, 0, 0, 0);
    }

    private static void takenForNumbers() {
        T.sentence("OUTSIDE: a number (0 .. 999), the first, the second, the third one");
        for (int part = 0; part < 3; part++) {
            for (int number : NO_NUMBER) {
                int[] three = {0, 0, 0};
                three[part] = number;
                T.refused(x -> {
                    Checks.FOUR.set(x);
                    Checks.row(x, 3, 2, three);
                }, OUTSIDE, "takenFor", 0, 3, 2, 0, part % 2);
            }
            int[] three = {0, 0, 0};
            three[part] = 999;
            T.asks(x -> {
                Checks.SEVEN.set(x);
                Checks.row(x, 3, 2, three);
            }, 20 + 989, "takenFor", 0, 3, 2, 0, 1);
        }
        T.sentence("numbers that are cut to a LANE, with their sign");
        T.refused(x -> {
            Checks.FOUR.set(x);
            Checks.row(x, 3, 0, 128, 0, 0);
        }, OUTSIDE, "takenFor", 0, 3, 0, 0, 0);
        T.asks(x -> {
            Checks.FOUR.set(x);
            Checks.row(x, 3, 0, 256 + 10, 512 + 20, 127);
        }, 97, "takenFor", 0, 3, 0, 0, 1);
        T.sentence("no number but the three is looked at");
        T.asks(x -> {
            Checks.FOUR.set(x);
            Checks.row(x, 3, 2, -1, 10, 20, 30, 1000);
        }, 0, "takenFor", 0, 3, 2, 1, 1);
    }

    /** Each line has all of the later ones, too, as far as they go together. */
    private static void takenForOrder() {
        T.sentence("UNKNOWN: SHEET; OUTSIDE: DAWN, what, lane; CAST; NULL; INDEX; STATE; OUTSIDE: a number: the first that is come to");
        T.refused(Checks.ROWS, UNKNOWN, "takenFor", 61, 4, 3, -1, 2);
        T.refused(Checks.ROWS, OUTSIDE, "takenFor", 61, 2, 1, -1, 0);
        T.refused(Checks.ROWS, OUTSIDE, "takenFor", 0, 2, 1, -1, 2);
        T.refused(Checks.ROWS, OUTSIDE, "takenFor", 0, 2, 3, -1, 0);
        T.refused(Checks.ROWS, OUTSIDE, "takenFor", -1, 3, 0, -1, 0);
        T.refused(Checks.ROWS, OUTSIDE, "takenFor", 0, 3, 0, -1, -1);
        T.refused(Checks.ROWS, OUTSIDE, "takenFor", 0, 3, -1, -1, 0);
        T.faulted(Checks.ROWS, CAST, "takenFor", 0, 2, 1, -1, 0);
        T.faulted(Checks.ROWS, CAST, "takenFor", 0, 2, 1, 0, 0);
        T.faulted(Checks.ROWS, NULL, "takenFor", 0, 3, 1, -1, 0);
        T.faulted(Checks.ROWS, NULL, "takenFor", 0, 3, 1, 0, 0);
        T.faulted(Checks.ROWS, INDEX, "takenFor", 0, 2, 2, 1, 0);
        T.faulted(Checks.FOUR, INDEX, "takenFor", 0, 2, 2, 4, 0);
        T.refused(Checks.ROWS, STATE, "takenFor", 0, 2, 2, 0, 0);
        T.refused(Checks.FOUR, OUTSIDE, "takenFor", 0, 2, 2, 3, 0);
    }

    private static void takenForTheLeast() {
        T.sentence("the STATUE of which they are the least apart, summed up; of several the least");
        SaltSaints x = Checks.with("s1110;s1130;s1120;s1130;s1110;s1190;s1190");
        int[] bodies = {0, 15, 16, 20, 25, 26, 60, 61, 90, 127};
        int[] whom = {0, 0, 2, 2, 1, 1, 1, 5, 5, 5};
        int[] apart = {10, 5, 4, 0, 5, 4, 30, 29, 0, 37};
        for (int t = 0; t < bodies.length; t++) {
            Checks.row(x, 1, 0, 10, 10, bodies[t]);
            T.due(x, whom[t], "takenFor", 0, 1, 0, 0, 0);
            T.due(x, apart[t], "takenFor", 0, 1, 0, 0, 1);
        }
        T.sentence("at a DAWN: the first and the last one");
        x = Checks.with("s9990;s1110");
        x.over(1, 2);
        Checks.row(x, 1, 0, 4, 5, 5);
        T.due(x, 1, "takenFor", 0, 1, 0, 0, 0);
        T.due(x, 16, "takenFor", 0, 1, 0, 0, 1);
        Checks.rainFor(x, 60, 9, 3);
        T.due(x, 16, "takenFor", 0, 1, 0, 0, 1);
        T.due(x, 0, "takenFor", 60, 1, 0, 0, 0);
        T.due(x, 14, "takenFor", 60, 1, 0, 0, 1);
        x = Checks.with("s1110;s1110");
        x.over(0, 2);
        x.rain(59, 9, 3);
        Checks.row(x, 1, 0, 4, 5, 5);
        T.due(x, 0, "takenFor", 59, 1, 0, 0, 0);
        T.due(x, 16, "takenFor", 59, 1, 0, 0, 1);
        T.due(x, 1, "takenFor", 60, 1, 0, 0, 0);
        T.due(x, 12, "takenFor", 60, 1, 0, 0, 1);
        T.sentence("one of one STATUE, as far as can be");
        x = Checks.with("s1110");
        Checks.row(x, 1, 1, 999, 999, 999);
        T.due(x, 0, "takenFor", 0, 1, 1, 0, 0);
        T.due(x, 2967, "takenFor", 0, 1, 1, 0, 1);
        Checks.rainFor(x, 2, 9, 0);
        T.due(x, 2997, "takenFor", 60, 1, 1, 0, 1);
    }

    // ---- promise 18

    private static void whose() {
        T.promise(18, false);
        T.sentence("OUTSIDE: DAWN");
        T.refusedAt(Checks.FOUR, OUTSIDE, 1, NO_DAWN, "whose", 0, 0);
        T.refusedAt(Checks.NOTHING, OUTSIDE, 1, NO_DAWN, "whose", 0, 0);
        T.asks(Checks.FOUR, 15, "whose", 0, 0);
        T.asks(Checks.FOUR, 4, "whose", 0, 60);
        T.sentence("no number of GRAINS is OUTSIDE: as no PUDDLE has so many, no STATUES");
        for (int v : Checks.of(-1, 1, 271, 1000, MIN, MAX)) {
            T.asks(Checks.FOUR, 0, "whose", v, 0);
        }
        T.sentence("a set: of no STATUES, of seven");
        T.asks(Checks.NOTHING, 0, "whose", 0, 0);
        T.asks(Checks.ROWS, 0, "whose", 0, 60);
        T.asks(Checks.SEVEN, 127, "whose", 0, 0);
        T.sentence("just so many GRAINS: the most that there may be");
        SaltSaints x = Checks.with(NINES);
        Checks.rainFor(x, 60, 9, 0);
        T.due(x, 127, "whose", 270, 60);
        T.due(x, 0, "whose", 269, 60);
        T.due(x, 0, "whose", 271, 60);
        x.over(6, 2);
        T.due(x, 63, "whose", 270, 60);
        T.due(x, 64, "whose", 0, 60);
        x.over(0, 2);
        T.due(x, 62, "whose", 270, 60);
        T.due(x, 65, "whose", 0, 60);
        T.sentence("what is licked is in no PUDDLE");
        x = Checks.with("s1110");
        x.deer(9);
        T.due(x, 1, "whose", 0, 60);
        T.due(x, 0, "whose", 10, 60);
    }

    // ---- promise 19

    private static void reading() {
        T.promise(19, false);
        T.sentence("UNKNOWN: STATUE");
        T.refusedAt(Checks.FOUR, UNKNOWN, 0, Checks.of(-1, 4, MIN, MAX), "reading", 0, 0, 0, 0);
        T.refusedAt(Checks.NOTHING, UNKNOWN, 0, Checks.of(-1, 0, 6, MIN, MAX), "reading", 0, 0, 0, 0);
        T.answersAt(Checks.FOUR, 3, 0, Checks.of(0, 1, 2, 3), "reading", 0, 0, 0, 0);
        T.sentence("UNKNOWN: PART");
        T.refusedAt(Checks.FOUR, UNKNOWN, 1, Checks.of(-1, 3, MIN, MAX), "reading", 0, 0, 0, 0);
        T.answersAt(Checks.FOUR, 3, 1, Checks.of(0, 1, 2), "reading", 0, 0, 0, 0);
        T.sentence("OUTSIDE: DAWN");
        T.refusedAt(Checks.FOUR, OUTSIDE, 2, NO_DAWN, "reading", 0, 0, 0, 0);
        T.answersAt(Checks.FOUR, 3, 2, Checks.of(0, 60), "reading", 0, 0, 0, 0);
        T.sentence("OUTSIDE: v (0 .. 99)");
        T.refusedAt(Checks.FOUR, OUTSIDE, 3, Checks.of(-1, 100, MIN, MAX), "reading", 0, 0, 0, 0);
        T.answersAt(Checks.FOUR, 3, 3, Checks.of(0, 90, 91, 99), "reading", 0, 0, 0, 0);
        T.sentence("UNKNOWN: STATUE, PART; OUTSIDE: DAWN, v; FULL: the first of them");
        T.refused(Checks.SEVEN, UNKNOWN, "reading", 7, 0, 61, 100);
        T.refused(Checks.SEVEN, UNKNOWN, "reading", 0, 3, 61, 100);
        T.refused(Checks.SEVEN, OUTSIDE, "reading", 0, 0, 61, 0);
        T.refused(Checks.SEVEN, OUTSIDE, "reading", 0, 0, 0, 100);
        T.refused(Checks.SEVEN, FULL, "reading", 0, 0, 0, 0);
    }

    private static void readingFull() {
        T.sentence("READINGS, 8 at most, each numbered by how many there are ahead of it (the first one 0)");
        SaltSaints x = Checks.with("s1110");
        for (int r = 0; r < 8; r++) {
            T.due(x, r, "many", 2);
            T.due(x, r, "reading", 0, 0, 0, 10);
        }
        T.due(x, 8, "many", 2);
        T.sentence("FULL: the ninth; none that is taken back counts");
        T.due(x, Checks.FULL, "reading", 0, 0, 0, 0);
        T.due(x, Checks.FULL, "reading", 0, 0, 0, 10);
        T.due(x, 8, "many", 2);
        T.due(x, 1023, "rains", 0);
        T.due(x, 7, "back", 1);
        T.due(x, 7, "reading", 0, 0, 0, 0);
        T.due(x, Checks.FULL, "reading", 0, 0, 0, 10);
        T.due(x, 0, "rains", 0);
        T.due(x, 0, "back", 8);
        T.due(x, 0, "reading", 0, 0, 0, 10);
        T.due(x, 1023, "rains", 0);
    }

    // ---- promise 20

    private static void back() {
        T.promise(20, false);
        T.sentence("OUTSIDE, but for 0 .. as many as there are: three, eight, none");
        T.refusedAt(Checks.FOUR, OUTSIDE, 0, Checks.of(-1, 4, 8, MIN, MAX), "back", 0);
        T.refusedAt(Checks.SEVEN, OUTSIDE, 0, Checks.of(-1, 9, MIN, MAX), "back", 0);
        T.refusedAt(Checks.NOTHING, OUTSIDE, 0, Checks.of(-1, 1, MIN, MAX), "back", 0);
        T.asks(Checks.FOUR, 3, "back", 0);
        T.answers(Checks.FOUR, 2, "back", 1);
        T.answers(Checks.FOUR, 0, "back", 3);
        T.asks(Checks.SEVEN, 8, "back", 0);
        T.answers(Checks.SEVEN, 0, "back", 8);
        T.asks(Checks.NOTHING, 0, "back", 0);
        T.sentence("The last k READINGS are taken back: how many are left");
        SaltSaints x = Checks.with("s1110");
        for (int v = 1; v <= 8; v++) {
            x.reading(0, 2, 1, v < 3 ? 5 : v);
        }
        T.due(x, 0, "rains", 0);
        T.due(x, 3, "back", 5);
        T.due(x, 0, "rains", 0);
        T.due(x, 2, "back", 1);
        T.due(x, 1 << 5, "rains", 0);
        T.due(x, 2, "reading", 0, 2, 1, 5);
        T.due(x, 1 << 5, "rains", 0);
        T.due(x, 0, "back", 3);
        T.due(x, OUTSIDE, "back", 1);
        T.due(x, 1023, "rains", 0);
    }

    // ---- promise 21

    private static void rains() {
        T.promise(21, false);
        T.sentence("OUTSIDE: a DAY");
        T.refusedAt(Checks.FOUR, OUTSIDE, 0, Checks.of(-1, 60, MIN, MAX), "rains", 0);
        T.sentence("STATE: there are no STATUES");
        T.refused(Checks.NOTHING, STATE, "rains", 0);
        T.refused(Checks.ROWS, STATE, "rains", 59);
        T.sentence("OUTSIDE; STATE: the first of both");
        T.refusedAt(Checks.NOTHING, OUTSIDE, 0, Checks.of(-1, 60, MIN, MAX), "rains", 0);
        T.sentence("RAIN 0 .. 9 by which all READINGS are so: all of them, if there are none");
        SaltSaints x = Checks.with("s1110");
        for (int day = 0; day < 60; day++) {
            T.due(x, 1023, "rains", day);
        }
    }

    private static void rainsByReadings() {
        T.sentence("RAIN 0 alone, RAIN 9 alone, each of them alone");
        for (int rain = 0; rain <= 9; rain++) {
            for (int day : Checks.of(0, 59)) {
                SaltSaints x = Checks.with("s1190;b1190");
                x.rain(day, 9 - rain, 3);
                x.reading(1, 2, day + 1, 90 - rain);
                T.due(x, 1 << rain, "rains", day);
                x.reading(0, 2, day, 90);
                x.reading(0, 1, day + 1, rain > 4 ? 0 : 10 - 2 * rain);
                T.due(x, 1 << rain, "rains", day);
                x.reading(0, 2, 60, 89 - rain);
                T.due(x, 0, "rains", day);
            }
        }
        T.sentence("a PART that loses no more than it has: several of them");
        SaltSaints x = Checks.with("s1110");
        x.reading(0, 1, 1, 0);
        T.due(x, 992, "rains", 0);
        x.reading(0, 0, 60, 0);
        T.due(x, 992, "rains", 0);
        x.look(0, 1);
        T.due(x, 0, "rains", 0);
        T.sentence("if it were that of the DAY: READINGS ahead of it are so by all, or by none");
        x = Checks.with("s1110");
        x.reading(0, 0, 5, 10);
        T.due(x, 1023, "rains", 5);
        T.due(x, 1, "rains", 4);
        x.reading(0, 0, 0, 9);
        T.due(x, 0, "rains", 59);
        T.sentence("all READINGS: eight of them, the last one at odds");
        x = Checks.with("s1110");
        for (int r = 0; r < 7; r++) {
            x.reading(0, 2, 60, 7);
        }
        T.due(x, 1 << 3, "rains", 59);
        x.reading(0, 2, 59, 9);
        T.due(x, 0, "rains", 59);
        T.due(x, 0, "rains", 58);
        T.due(x, 7, "back", 1);
        T.due(x, 1 << 3, "rains", 0);
        T.sentence("a READING that no RAIN can bring about");
        x = Checks.with("s1110");
        x.reading(0, 0, 0, 99);
        T.due(x, 0, "rains", 0);
    }

    private static void rainsThatChangeNothing() {
        T.sentence("RAINS of a DAY are asked alone: RAIN stays as it was");
        int[] days = {0, 1, 2, 58, 59};
        int[] want = {12, 1 << 6 | 1 << 7 | 1 << 8 | 1 << 9, 1023, 1023, 1023};
        for (int d = 0; d < days.length; d++) {
            T.asks(Checks.FOUR, want[d], "rains", days[d]);
        }
        T.asks(Checks.SEVEN, 2, "rains", 0);
        T.asks(Checks.SEVEN, 1023, "rains", 59);
    }

    // ---- promise 22

    private static void cast() {
        T.promise(22, false);
        T.sentence("OUTSIDE: DAWN");
        T.refusedAt(Checks.FOUR, OUTSIDE, 0, NO_DAWN, "cast", 0, 1);
        T.refusedAt(Checks.NOTHING, OUTSIDE, 0, NO_DAWN, "cast", 0, 1);
        T.asks(Checks.FOUR, 0, "cast", 0, 1);
        T.asks(Checks.SEVEN, 0, "cast", 60, 999);
        T.sentence("OUTSIDE: size (1 .. 999)");
        T.refusedAt(Checks.FOUR, OUTSIDE, 1, Checks.of(0, -1, 1000, MIN, MAX), "cast", 1, 0);
        T.refusedAt(Checks.NOTHING, OUTSIDE, 1, Checks.of(0, 1000), "cast", 0, 0);
        T.sentence("of no STATUES nothing can be cast");
        T.asks(Checks.NOTHING, 0, "cast", 0, 1);
        T.asks(Checks.ROWS, 0, "cast", 60, 999);
        T.sentence("of all PUDDLES nine tenths (cut): of 0, 1, 2, 9, 10, 11, 20 GRAINS");
        int[] puddles = {0, 1, 2, 9, 10, 11, 12, 19, 20};
        int[] brine = {0, 0, 1, 8, 9, 9, 10, 17, 18};
        for (int t = 0; t < puddles.length; t++) {
            SaltSaints x = Checks.with("m9991;s1111");
            x.over(1, 2);
            Checks.rainFor(x, puddles[t], 1, 0);
            T.due("the PUDDLE", x.lost(0, 60, 0), puddles[t]);
            T.due(x, brine[t], "cast", 60, 1);
        }
    }

    private static void castOfTheMost() {
        T.sentence("how many of so many GRAINS (1 .. 999): of the most that there may be");
        SaltSaints x = Checks.with(NINES);
        Checks.rainFor(x, 60, 9, 0);
        int[] sizes = {1, 2, 566, 567, 568, 850, 851, 999};
        int[] many = {1701, 850, 3, 3, 2, 2, 1, 1};
        for (int t = 0; t < sizes.length; t++) {
            T.due(x, many[t], "cast", 60, sizes[t]);
        }
        T.sentence("of all PUDDLES at a DAWN, not of what is licked");
        T.due(x, 0, "cast", 0, 1);
        T.due(x, (27 + 18 + 9) * 7 * 9 / 10, "cast", 1, 1);
        Checks.rainFor(x, 60, 0, 0);
        x.deer(9);
        T.due(x, 0, "cast", 60, 1);
    }
}
