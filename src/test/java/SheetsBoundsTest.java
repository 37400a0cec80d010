/** The bounds of promises 23 to 33, sentence by sentence. */
public final class SheetsBoundsTest {
    private static final int UNKNOWN = Checks.UNKNOWN, OUTSIDE = Checks.OUTSIDE, STATE = Checks.STATE, NONE = Checks.NONE;
    private static final int NULL = Checks.NULL, CAST = Checks.CAST, INDEX = Checks.INDEX, SIZE = Checks.SIZE;
    private static final long LOST = Checks.LOST;
    private static final int MIN = Checks.MIN, MAX = Checks.MAX;
    private static final int[] NO_SHEET = {-1, 4, MIN, MAX}, NO_LANE = {-1, 3, MIN, MAX};
    private static final int[] NOT_OF_FOUR = {-1, 4, MIN, MAX}, NOT_OF_SEVEN = {-1, 7, MIN, MAX}, NOT_OF_NONE = {-1, 0, 6, MIN, MAX};
    private static final Checks T = new Checks();

    private SheetsBoundsTest() { }

    public static void main(String[] args) {
        constants();
        sheet();
        sheetIsNew();
        lose();
        put();
        putCutsToLanes();
        cell();
        cellsOfRows();
        copyRefusals();
        copyFaults();
        copyIndex();
        copyAsTheyWere();
        tell();
        bow();
        as();
        trace();
        traceWraps();
        faultOfEachCall();
        faultStays();
        many();
        T.end();
    }

    private static void constants() {
        T.promise(0, false);
        T.sentence("the constants");
        T.due("UNKNOWN", SaltSaints.UNKNOWN, -1);
        T.due("OUTSIDE", SaltSaints.OUTSIDE, -2);
        T.due("STATE", SaltSaints.STATE, -3);
        T.due("FULL", SaltSaints.FULL, -4);
        T.due("NONE", SaltSaints.NONE, -9);
        T.due("LOST", SaltSaints.LOST, Long.MIN_VALUE);
    }

    // ---- promise 23

    private static void sheet() {
        T.promise(23, true);
        T.sentence("UNKNOWN: SHEETS 0 .. 3");
        T.refusedAt(Checks.FOUR, UNKNOWN, 0, NO_SHEET, "sheet", 0, 0, 5);
        T.refusedAt(Checks.NOTHING, UNKNOWN, 0, NO_SHEET, "sheet", 0, 0, 5);
        T.answersAt(Checks.FOUR, 1, 0, Checks.of(0, 1, 2, 3), "sheet", 0, 0, 5);
        T.sentence("OUTSIDE: lane");
        T.refusedAt(Checks.FOUR, OUTSIDE, 1, NO_LANE, "sheet", 0, 0, 5);
        T.answersAt(Checks.FOUR, 1, 1, Checks.of(0, 1, 2), "sheet", 0, 0, 5);
        T.sentence("OUTSIDE: n above 60");
        T.refusedAt(Checks.FOUR, OUTSIDE, 2, Checks.of(61, 62, MAX), "sheet", 0, 0, 5);
        T.answersAt(Checks.FOUR, 1, 2, Checks.of(0, 1, 59, 60), "sheet", 0, 0, 5);
        T.sentence("SIZE: a length below 0");
        T.faultedAt(Checks.FOUR, SIZE, 2, Checks.of(-1, -60, MIN), "sheet", 0, 0, 5);
        T.faultedAt(Checks.NOTHING, SIZE, 2, Checks.of(-1, MIN), "sheet", 3, 2, 5);
        T.sentence("UNKNOWN; OUTSIDE: lane, n above 60; SIZE: the first of them");
        T.refused(Checks.FOUR, UNKNOWN, "sheet", 4, 3, 61);
        T.refused(Checks.FOUR, UNKNOWN, "sheet", -1, 0, 61);
        T.refused(Checks.FOUR, UNKNOWN, "sheet", -1, 0, -1);
        T.refused(Checks.FOUR, OUTSIDE, "sheet", 0, 3, -1);
        T.refused(Checks.FOUR, OUTSIDE, "sheet", 0, -1, MIN);
    }

    private static void dueRow(SaltSaints x, int k, int lane, int... cells) {
        for (int i = 0; i < cells.length; i++) {
            T.due(x, cells[i], "cell", k, i, lane);
        }
        T.due(x, LOST, "cell", k, cells.length, lane);
        T.due(x, 3, "fault");
        T.due(x, LOST, "cell", k, -1, lane);
    }

    private static void sheetIsNew() {
        T.sentence("A SHEET gets a new row: of so many numbers, 0 at first");
        for (int n : Checks.of(0, 1, 59, 60)) {
            for (int lane = 0; lane < 3; lane++) {
                SaltSaints x = new SaltSaints();
                T.due(x, 1, "sheet", 3, lane, n);
                dueRow(x, 3, lane, new int[n]);
            }
        }
        T.sentence("A SHEET gets a new row in place of what it has: nothing of it is left");
        SaltSaints x = Checks.after(Checks.ROWS);
        T.due(x, 1, "sheet", 0, 0, 60);
        dueRow(x, 0, 0, new int[60]);
        Checks.row(x, 0, 2, 7, 8, 9);
        T.due(x, 1, "sheet", 0, 1, 1);
        dueRow(x, 0, 1, 0);
        T.due(x, 1, "sheet", 0, 1, 3);
        dueRow(x, 0, 1, 0, 0, 0);
        T.due(x, LOST, "cell", 0, 0, 2);
        T.due(x, 2, "fault");
        T.sentence("A SHEET: no other one");
        dueRow(x, 2, 2, 10, 20, 1000);
        dueRow(x, 1, 1);
        T.due(x, 0, "lose", 3);
    }

    // ---- promise 24

    private static void lose() {
        T.promise(24, false);
        T.sentence("UNKNOWN: there is no such SHEET");
        T.refusedAt(Checks.FOUR, UNKNOWN, 0, NO_SHEET, "lose", 0);
        T.refusedAt(Checks.NOTHING, UNKNOWN, 0, NO_SHEET, "lose", 0);
        T.sentence("1; 0: it had nothing");
        T.answersAt(Checks.FOUR, 1, 0, Checks.of(0, 1, 2), "lose", 0);
        T.asks(Checks.FOUR, 0, "lose", 3);
        T.asks(Checks.NOTHING, 0, "lose", 0);
        T.sentence("a row of 0 numbers is not nothing");
        T.answers(Checks.SEVEN, 1, "lose", 2);
        T.sentence("A SHEET has nothing: it has a row no more, whatever it had");
        SaltSaints x = Checks.after(Checks.FOUR);
        for (int k = 0; k < 3; k++) {
            T.due(x, 1, "lose", k);
            T.due(x, NULL, "put", k, 0, 1);
            T.due(x, LOST, "cell", k, 0, k);
            T.due(x, 1, "fault");
            T.due(x, NULL, "statues", k, k, 0, 5);
            T.due(x, 0, "lose", k);
            T.due(x, 1, "sheet", k, k, 23);
            T.due(x, 0, "cell", k, 0, k);
            T.due(x, 0, "cell", k, 4, k);
            T.due(x, 1, "lose", k);
        }
        T.due(x, 4, "many", 0);
    }

    // ---- promise 25

    private static void put() {
        T.promise(25, true);
        T.sentence("UNKNOWN: there is no such SHEET");
        T.refusedAt(Checks.FOUR, UNKNOWN, 0, NO_SHEET, "put", 0, 0, 9);
        T.answersAt(Checks.FOUR, 1, 0, Checks.of(0, 1, 2), "put", 0, 0, 9);
        T.answers(x -> x.sheet(3, 0, 1), 1, "put", 3, 0, 9);
        T.sentence("NULL");
        T.faulted(Checks.FOUR, NULL, "put", 3, 0, 9);
        T.faulted(Checks.NOTHING, NULL, "put", 0, 0, 9);
        T.sentence("INDEX");
        int[] many = {23, 5, 6};
        for (int k = 0; k < 3; k++) {
            T.faultedAt(Checks.FOUR, INDEX, 1, Checks.of(-1, many[k], many[k] + 1, MIN, MAX), "put", k, 0, 9);
            T.answersAt(Checks.FOUR, 1, 1, Checks.of(0, many[k] - 1), "put", k, 0, 9);
        }
        T.sentence("INDEX: of a row of 0 and of 60 numbers");
        T.faultedAt(Checks.SEVEN, INDEX, 1, Checks.of(-1, 0, 1, 59, MIN, MAX), "put", 2, 0, 9);
        T.faultedAt(Checks.SEVEN, INDEX, 1, Checks.of(-1, 60, 61, MIN, MAX), "put", 1, 0, 9);
        T.answersAt(Checks.SEVEN, 1, 1, Checks.of(0, 59), "put", 1, 0, 9);
        T.sentence("UNKNOWN; NULL; INDEX: the first of them");
        T.refused(Checks.FOUR, UNKNOWN, "put", 4, -1, 9);
        T.faulted(Checks.FOUR, NULL, "put", 3, -1, 9);
        T.faulted(Checks.FOUR, NULL, "put", 3, MAX, 9);
        T.sentence("Cell i of a SHEET becomes v: no other cell");
        SaltSaints x = new SaltSaints();
        Checks.row(x, 1, 0, 1, 2, 3);
        Checks.row(x, 0, 0, 1, 2, 3);
        T.due(x, 1, "put", 0, 0, 7);
        dueRow(x, 0, 0, 7, 2, 3);
        T.due(x, 1, "put", 0, 2, 9);
        dueRow(x, 0, 0, 7, 2, 9);
        dueRow(x, 1, 0, 1, 2, 3);
    }

    private static void putCutsToLanes() {
        int[] numbers = {0, 1, -1, 127, 128, 129, 255, 256, 257, -127, -128, -129, -256, 32767, 32768, 65535, 65536,
            -32768, -32769, 65536 + 32768, MAX, MIN, MAX - 255, MIN + 128};
        int[][] want = {
            {0, 1, -1, 127, -128, -127, -1, 0, 1, -127, -128, 127, 0, -1, 0, -1, 0, 0, -1, 0, -1, 0, 0, -128},
            {0, 1, -1, 127, 128, 129, 255, 256, 257, -127, -128, -129, -256, 32767, -32768, -1, 0, -32768, 32767, -32768, -1, 0, -256, 128},
            numbers};
        String[] lanes = {"0 bytes", "1 shorts", "2 ints"};
        for (int lane = 0; lane < 3; lane++) {
            T.sentence("what comes to a cell of it is cut to its LANE (with its sign): " + lanes[lane]);
            SaltSaints x = new SaltSaints();
            x.sheet(lane, lane, 60);
            for (int t = 0; t < numbers.length; t++) {
                T.due(x, 1, "put", lane, t, numbers[t]);
            }
            for (int t = 0; t < numbers.length; t++) {
                T.due(x, want[lane][t], "cell", lane, t, lane);
            }
        }
    }

    // ---- promise 26

    private static void cell() {
        T.promise(26, true);
        T.sentence("LOST: UNKNOWN");
        T.refusedAt(Checks.FOUR, LOST, 0, NO_SHEET, "cell", 0, 0, 0);
        T.asks(Checks.FOUR, 115, "cell", 0, 0, 0);
        T.asks(x -> Checks.row(x, 3, 1, 8), 8, "cell", 3, 0, 1);
        T.sentence("LOST: OUTSIDE: lane");
        T.refusedAt(Checks.FOUR, LOST, 2, NO_LANE, "cell", 0, 0, 0);
        T.refusedAt(Checks.FOUR, LOST, 2, NO_LANE, "cell", 2, 0, 0);
        T.asks(Checks.FOUR, 300, "cell", 1, 0, 1);
        T.asks(Checks.FOUR, 70000, "cell", 2, 5, 2);
        T.sentence("FAULTS CAST");
        for (int sheet = 0; sheet < 3; sheet++) {
            for (int lane = 0; lane < 3; lane++) {
                if (lane != sheet) {
                    T.faulted(Checks.FOUR, CAST, "cell", sheet, 0, lane);
                }
            }
        }
        T.sentence("(nothing is no CAST), NULL");
        for (int lane = 0; lane < 3; lane++) {
            T.faulted(Checks.FOUR, NULL, "cell", 3, 0, lane);
            T.faulted(Checks.NOTHING, NULL, "cell", 0, 0, lane);
        }
        T.sentence("INDEX");
        T.faultedAt(Checks.FOUR, INDEX, 1, Checks.of(-1, 23, 24, 59, 60, MIN, MAX), "cell", 0, 0, 0);
        T.asks(Checks.FOUR, 51, "cell", 0, 22, 0);
        T.faultedAt(Checks.FOUR, INDEX, 1, Checks.of(-1, 5, MIN, MAX), "cell", 1, 0, 1);
        T.asks(Checks.FOUR, 999, "cell", 1, 4, 1);
        T.faultedAt(Checks.FOUR, INDEX, 1, Checks.of(-1, 6, MIN, MAX), "cell", 2, 0, 2);
        T.sentence("LOST: UNKNOWN, OUTSIDE: lane; FAULTS CAST, NULL, INDEX: the first of them");
        T.refused(Checks.FOUR, LOST, "cell", 4, -1, 0);
        T.refused(Checks.FOUR, LOST, "cell", 3, -1, 3);
        T.refused(Checks.FOUR, LOST, "cell", 1, -1, 3);
        T.refused(Checks.FOUR, LOST, "cell", 0, -1, -1);
        T.faulted(Checks.FOUR, CAST, "cell", 1, -1, 2);
        T.faulted(Checks.FOUR, CAST, "cell", 1, 5, 0);
        T.faulted(Checks.FOUR, NULL, "cell", 3, -1, 2);
    }

    private static void cellsOfRows() {
        T.sentence("INDEX: of a row of 0 and of 60 numbers");
        T.faultedAt(Checks.SEVEN, INDEX, 1, Checks.of(-1, 0, 1, 59, 60, MIN, MAX), "cell", 2, 0, 2);
        T.faultedAt(Checks.SEVEN, INDEX, 1, Checks.of(-1, 60, 61, MIN, MAX), "cell", 1, 0, 0);
        T.asks(Checks.SEVEN, 1, "cell", 1, 0, 0);
        T.asks(Checks.SEVEN, 0, "cell", 1, 58, 0);
        T.asks(Checks.SEVEN, -1, "cell", 1, 59, 0);
        T.sentence("a number is no LOST, however little it is");
        T.asks(x -> Checks.row(x, 0, 2, MIN), MIN, "cell", 0, 0, 2);
        T.asks(x -> Checks.row(x, 0, 2, MAX), MAX, "cell", 0, 0, 2);
        T.asks(x -> Checks.row(x, 0, 1, -32768), -32768, "cell", 0, 0, 1);
        T.asks(x -> Checks.row(x, 0, 0, -128), -128, "cell", 0, 0, 0);
    }

    // ---- promise 27

    /** SHEETS 0 and 1 have five shorts each, 2 five ints, 3 nothing. */
    private static final Checks.Scene PAIR = x -> {
        Checks.row(x, 0, 1, 0, 1, 2, 3, 4);
        Checks.row(x, 1, 1, 10, 11, 12, 13, 14);
        Checks.row(x, 2, 2, 20, 21, 22, 23, 24);
    };

    private static void copyRefusals() {
        T.promise(27, true);
        T.sentence("UNKNOWN: the first, the other");
        T.refusedAt(PAIR, UNKNOWN, 0, NO_SHEET, "copy", 0, 0, 1, 0, 5);
        T.refusedAt(PAIR, UNKNOWN, 2, NO_SHEET, "copy", 0, 0, 1, 0, 5);
        T.answers(PAIR, 5, "copy", 0, 0, 1, 0, 5);
        T.asks(PAIR, 5, "copy", 0, 0, 0, 0, 5);
        T.answers(x -> {
            PAIR.set(x);
            x.sheet(3, 2, 5);
        }, 5, "copy", 3, 0, 2, 0, 5);
        T.sentence("UNKNOWN; FAULTS NULL (the first, the other), CAST, INDEX: the first of them");
        T.refused(PAIR, UNKNOWN, "copy", 4, -1, 3, -1, -1);
        T.refused(PAIR, UNKNOWN, "copy", 3, -1, 4, -1, -1);
        T.refused(PAIR, UNKNOWN, "copy", 0, -1, 4, -1, -1);
        T.faulted(PAIR, NULL, "copy", 3, -1, 2, -1, -1);
        T.faulted(PAIR, NULL, "copy", 2, -1, 3, -1, -1);
        T.faulted(PAIR, CAST, "copy", 0, -1, 2, -1, -1);
        T.faulted(PAIR, CAST, "copy", 2, 0, 1, 0, 6);
    }

    private static void copyFaults() {
        T.sentence("NULL (the first, the other)");
        T.faulted(PAIR, NULL, "copy", 3, 0, 0, 0, 5);
        T.faulted(PAIR, NULL, "copy", 0, 0, 3, 0, 5);
        T.faulted(PAIR, NULL, "copy", 3, 0, 3, 0, 0);
        T.faulted(Checks.NOTHING, NULL, "copy", 0, 0, 1, 0, 0);
        T.sentence("CAST (unlike LANES), also of no cells");
        for (int one = 0; one < 3; one++) {
            for (int other = 0; other < 3; other++) {
                if (one != other) {
                    T.faulted(Checks.FOUR, CAST, "copy", one, 0, other, 0, 5);
                    T.faulted(Checks.FOUR, CAST, "copy", one, 0, other, 0, 0);
                }
            }
        }
        T.sentence("like LANES, of rows unlike in length");
        for (int lane = 0; lane < 3; lane++) {
            int of = lane;
            T.answers(x -> {
                x.sheet(0, of, 60);
                x.sheet(1, of, 2);
            }, 2, "copy", 0, 58, 1, 0, 2);
        }
    }

    private static void copyIndex() {
        T.sentence("INDEX: n below 0");
        T.faultedAt(PAIR, INDEX, 4, Checks.of(-1, -5, MIN), "copy", 0, 0, 1, 0, 0);
        T.asks(PAIR, 0, "copy", 0, 0, 1, 0, 0);
        T.sentence("INDEX: i below 0 or beyond");
        T.faultedAt(PAIR, INDEX, 1, Checks.of(-1, 4, 5, MIN, MAX), "copy", 0, 0, 1, 0, 2);
        T.faultedAt(PAIR, INDEX, 1, Checks.of(-1, 6, MIN, MAX), "copy", 0, 0, 1, 0, 0);
        T.answersAt(PAIR, 2, 1, Checks.of(0, 3), "copy", 0, 0, 1, 0, 2);
        T.asksAt(PAIR, 0, 1, Checks.of(0, 5), "copy", 0, 0, 1, 0, 0);
        T.sentence("INDEX: j below 0 or beyond");
        T.faultedAt(PAIR, INDEX, 3, Checks.of(-1, 4, 5, MIN, MAX), "copy", 0, 0, 1, 0, 2);
        T.faultedAt(PAIR, INDEX, 3, Checks.of(-1, 6, MIN, MAX), "copy", 0, 0, 1, 0, 0);
        T.answersAt(PAIR, 2, 3, Checks.of(0, 3), "copy", 0, 0, 1, 0, 2);
        T.asksAt(PAIR, 0, 3, Checks.of(0, 5), "copy", 0, 0, 1, 0, 0);
        T.sentence("INDEX: n beyond, of the first, of the other");
        T.faultedAt(PAIR, INDEX, 4, Checks.of(6, 60, 61, MAX), "copy", 0, 0, 1, 0, 0);
        T.faultedAt(PAIR, INDEX, 4, Checks.of(3, MAX - 2, MAX - 1, MAX), "copy", 0, 3, 1, 0, 0);
        T.faultedAt(PAIR, INDEX, 4, Checks.of(3, MAX - 2, MAX - 1, MAX), "copy", 0, 0, 1, 3, 0);
        T.answersAt(PAIR, 2, 4, Checks.of(2), "copy", 0, 3, 1, 0, 0);
        T.answersAt(PAIR, 2, 4, Checks.of(2), "copy", 0, 0, 1, 3, 0);
        T.sentence("INDEX: of rows of 0 and of 60 numbers");
        Checks.Scene unlike = x -> {
            x.sheet(0, 0, 60);
            x.put(0, 59, 5);
            x.put(0, 0, 6);
            x.sheet(1, 0, 0);
            x.sheet(2, 0, 60);
        };
        T.asks(unlike, 0, "copy", 0, 60, 1, 0, 0);
        T.asks(unlike, 0, "copy", 1, 0, 0, 60, 0);
        T.faulted(unlike, INDEX, "copy", 0, 61, 1, 0, 0);
        T.faulted(unlike, INDEX, "copy", 1, 0, 0, 61, 0);
        T.faulted(unlike, INDEX, "copy", 0, 0, 1, 0, 1);
        T.faulted(unlike, INDEX, "copy", 1, 0, 0, 0, 1);
        T.answers(unlike, 60, "copy", 0, 0, 2, 0, 60);
        T.faulted(unlike, INDEX, "copy", 0, 0, 2, 0, 61);
        T.faulted(unlike, INDEX, "copy", 0, 0, 2, 1, 60);
        T.faulted(unlike, INDEX, "copy", 0, 1, 2, 0, 60);
        T.answers(unlike, 1, "copy", 0, 59, 2, 0, 1);
        T.answers(unlike, 1, "copy", 0, 0, 2, 59, 1);
    }

    private static void copyAsTheyWere() {
        T.sentence("n cells of a SHEET from i on go to another one from j on");
        SaltSaints x = Checks.after(PAIR);
        T.due(x, 2, "copy", 0, 1, 1, 3, 2);
        dueRow(x, 0, 1, 0, 1, 2, 3, 4);
        dueRow(x, 1, 1, 10, 11, 12, 1, 2);
        T.due(x, 5, "copy", 0, 0, 1, 0, 5);
        dueRow(x, 1, 1, 0, 1, 2, 3, 4);
        T.due(x, 0, "copy", 0, 5, 1, 5, 0);
        dueRow(x, 1, 1, 0, 1, 2, 3, 4);
        T.sentence("(perhaps the same), as they were: onwards, backwards, in their places");
        T.due(x, 4, "copy", 0, 0, 0, 1, 4);
        dueRow(x, 0, 1, 0, 0, 1, 2, 3);
        T.due(x, 4, "copy", 1, 1, 1, 0, 4);
        dueRow(x, 1, 1, 1, 2, 3, 4, 4);
        T.due(x, 3, "copy", 2, 0, 2, 2, 3);
        dueRow(x, 2, 2, 20, 21, 20, 21, 22);
        T.due(x, 5, "copy", 2, 0, 2, 0, 5);
        dueRow(x, 2, 2, 20, 21, 20, 21, 22);
        T.sentence("they stay cut, and go on with their sign");
        x = new SaltSaints();
        Checks.row(x, 0, 0, 200, -200);
        x.sheet(1, 0, 2);
        T.due(x, 2, "copy", 0, 0, 1, 0, 2);
        dueRow(x, 1, 0, -56, 56);
    }

    // ---- promises 28 to 30

    private static void tell() {
        T.promise(28, false);
        T.sentence("UNKNOWN: there is no such STATUE; no body begins");
        T.refusedAt(Checks.FOUR, UNKNOWN, 0, NOT_OF_FOUR, "tell", 0);
        T.refusedAt(Checks.SEVEN, UNKNOWN, 0, NOT_OF_SEVEN, "tell", 0);
        T.refusedAt(Checks.NOTHING, UNKNOWN, 0, NOT_OF_NONE, "tell", 0);
        T.sentence("SAINT (1), BISHOP (2), MARTYR (3): the first and the last one, the least and the greatest NOSE");
        T.answers(Checks.SEVEN, 10, "tell", 0);
        T.answers(Checks.SEVEN, 90, "tell", 6);
        String[] kinds = {"s", "b", "m"};
        int[] least = {10, 110, 120};
        int[] most = {90, 190, 280};
        int[] traces = {1, 31 * 2 + 1, 31 * 31 * 31 * 3 + 31 * 31 * 2 + 31 + 1};
        for (int kind = 0; kind < 3; kind++) {
            SaltSaints x = Checks.with(kinds[kind] + "1990;" + kinds[kind] + "9110");
            T.due(x, least[kind], "tell", 0);
            T.due(x, traces[kind], "trace");
            x = Checks.with(kinds[kind] + "1990;" + kinds[kind] + "9110");
            T.due(x, most[kind], "tell", 1);
            T.due(x, traces[kind], "trace");
        }
        T.sentence("GRAINS of its NOSE at first, if it is GONE, too");
        SaltSaints x = Checks.with("s3110;b3110;m3110");
        Checks.rainFor(x, 60, 9, 0);
        T.due(x, 0, "grains", 2, 0, 60);
        T.due(x, 30, "tell", 0);
        T.due(x, 130, "tell", 1);
        T.due(x, 160, "tell", 2);
    }

    private static void bow() {
        T.promise(29, false);
        T.sentence("UNKNOWN: there is no such STATUE; no body begins");
        T.refusedAt(Checks.FOUR, UNKNOWN, 0, NOT_OF_FOUR, "bow", 0);
        T.refusedAt(Checks.SEVEN, UNKNOWN, 0, NOT_OF_SEVEN, "bow", 0);
        T.refusedAt(Checks.NOTHING, UNKNOWN, 0, NOT_OF_NONE, "bow", 0);
        T.sentence("a lent body (4): the number of the STATUE; MARTYRS have their own (5): 70");
        int[] want = {0, 1, 70, 3, 4, 70, 6};
        for (int k = 0; k < 7; k++) {
            T.answers(Checks.SEVEN, want[k], "bow", k);
            SaltSaints x = Checks.with("s1110;b2221;m3332;s4443;b5550;m6661;s9992");
            T.due(x, want[k], "bow", k);
            T.due(x, want[k] == 70 ? 5 : 4, "trace");
        }
    }

    private static void as() {
        T.promise(30, true);
        T.sentence("UNKNOWN: there is no such STATUE");
        T.refusedAt(Checks.FOUR, UNKNOWN, 0, NOT_OF_FOUR, "as", 0, 0);
        T.refusedAt(Checks.SEVEN, UNKNOWN, 0, NOT_OF_SEVEN, "as", 0, 0);
        T.refusedAt(Checks.NOTHING, UNKNOWN, 0, NOT_OF_NONE, "as", 0, 0);
        T.asks(Checks.SEVEN, 1, "as", 0, 0);
        T.asks(Checks.SEVEN, 1, "as", 6, 0);
        T.sentence("OUTSIDE: kind, but for 0, 1, 2");
        for (int k = 0; k < 3; k++) {
            T.refusedAt(Checks.FOUR, OUTSIDE, 1, Checks.of(-1, 3, MIN, MAX), "as", k, 0);
        }
        T.sentence("CAST: it is none");
        T.faulted(Checks.FOUR, CAST, "as", 0, 1);
        T.faulted(Checks.FOUR, CAST, "as", 0, 2);
        T.faulted(Checks.FOUR, CAST, "as", 1, 2);
        T.sentence("1: a BISHOP is a SAINT, a MARTYR a BISHOP");
        T.asks(Checks.FOUR, 1, "as", 0, 0);
        T.asks(Checks.FOUR, 1, "as", 1, 0);
        T.asks(Checks.FOUR, 1, "as", 1, 1);
        T.asksAt(Checks.FOUR, 1, 1, Checks.of(0, 1, 2), "as", 2, 0);
        T.sentence("UNKNOWN; OUTSIDE; CAST: the first of them");
        T.refused(Checks.FOUR, UNKNOWN, "as", 4, 3);
        T.refused(Checks.FOUR, UNKNOWN, "as", -1, -1);
        T.refused(Checks.FOUR, OUTSIDE, "as", 0, 3);
    }

    // ---- promise 31

    private static void trace() {
        T.promise(31, false);
        T.sentence("TRACE: 0 at first, 31 times it and the number as a body begins");
        T.asks(Checks.NOTHING, 0, "trace");
        T.asks(Checks.ROWS, 0, "trace");
        SaltSaints x = Checks.with("s1110;b1110;m1110");
        T.due(x, 0, "trace");
        x.tell(0);
        T.due(x, 1, "trace");
        x.bow(0);
        T.due(x, 35, "trace");
        x.bow(2);
        T.due(x, 1090, "trace");
        x.tell(1);
        T.due(x, (1090 * 31 + 2) * 31 + 1, "trace");
        T.sentence("asked twice, it is the same; no call but those that begin a body changes it");
        int trace = x.trace();
        T.due(x, trace, "trace");
        Checks.FOUR.set(x);
        SaltSaints y = Checks.with("s1110");
        x.tell(9);
        x.bow(9);
        x.as(0, 0);
        T.due(y, 0, "trace");
        int four = trace * 31 + 3;
        four = ((four * 31 + 2) * 31 + 1) * 31 + 1;
        T.due(x, four * 31 + 4, "trace");
    }

    private static void traceWraps() {
        T.sentence("TRACE (an int that wraps)");
        SaltSaints x = Checks.with("s1110;m1110");
        int[] lent = {4, 128, 3972, 123136, 3817220, 118333824, -626618748, 2049655296, -885195260, -1671249280};
        for (int want : lent) {
            T.due(x, 0, "bow", 0);
            T.due(x, want, "trace");
        }
        T.sentence("TRACE wraps by each body: MARTYRS' own");
        SaltSaints y = Checks.with("s1110;m1110");
        int[] own = {5, 160, 4965, 153920, 4771525, 147917280, 290468389, 414585472, -32752251, -1015319776};
        for (int want : own) {
            T.due(y, 70, "bow", 1);
            T.due(y, want, "trace");
        }
        T.sentence("TRACE wraps within a TELLING, too");
        SaltSaints z = Checks.with("m1110");
        int[] told = {91327, -1556852226, 1822459837, -1787968004, -52179781};
        for (int want : told) {
            T.due(z, 120, "tell", 0);
            T.due(z, want, "trace");
        }
    }

    // ---- promise 32

    /** A call that names FAULTS, with another one ahead of it: what fault() answers then, asked twice. */
    private static void leaves(int fault, long want, String name, int... numbers) {
        SaltSaints x = Checks.after(Checks.FOUR);
        if (fault == 4) {
            T.due(x, NULL, "put", 3, 0, 0);
        } else {
            T.due(x, SIZE, "sheet", 0, 0, -1);
        }
        T.due(x, fault == 4 ? 1 : 4, "fault");
        T.due(x, want, name, numbers);
        T.due(x, fault, "fault");
        T.due(x, fault, "fault");
    }

    private static void faultOfEachCall() {
        T.promise(32, false);
        T.sentence("(0 ahead of any)");
        T.due(new SaltSaints(), 0, "fault");
        T.sentence("The FAULT of the latest call that names one: 1 NULL");
        leaves(1, NULL, "statues", 3, 0, 0, 0);
        leaves(1, NULL, "takenFor", 0, 3, 0, 0, 0);
        leaves(1, NULL, "put", 3, 0, 0);
        leaves(1, LOST, "cell", 3, 0, 0);
        leaves(1, NULL, "copy", 3, 0, 0, 0, 0);
        T.sentence("The FAULT of the latest call that names one: 2 CAST");
        leaves(2, CAST, "statues", 0, 2, 0, 0);
        leaves(2, CAST, "takenFor", 0, 0, 1, 0, 0);
        leaves(2, LOST, "cell", 0, 0, 1);
        leaves(2, CAST, "copy", 0, 0, 1, 0, 0);
        leaves(2, CAST, "as", 0, 1);
        T.sentence("The FAULT of the latest call that names one: 3 INDEX");
        leaves(3, INDEX, "statues", 0, 0, 24, 0);
        leaves(3, INDEX, "takenFor", 0, 0, 0, 21, 0);
        leaves(3, INDEX, "put", 0, 23, 0);
        leaves(3, LOST, "cell", 0, 23, 0);
        leaves(3, INDEX, "copy", 0, 0, 0, 0, -1);
        T.sentence("The FAULT of the latest call that names one: 4 SIZE");
        leaves(4, SIZE, "statues", 0, 0, 0, -1);
        leaves(4, SIZE, "sheet", 0, 0, -1);
        T.sentence("0: it came to none");
        leaves(0, 4, "statues", 0, 0, 0, 23);
        leaves(0, 3, "takenFor", 0, 0, 0, 0, 0);
        leaves(0, 1, "sheet", 3, 0, 0);
        leaves(0, 1, "put", 0, 0, 115);
        leaves(0, 115, "cell", 0, 0, 0);
        leaves(0, 0, "copy", 0, 0, 0, 0, 0);
        leaves(0, 1, "as", 0, 0);
        T.sentence("0: it was refused");
        leaves(0, UNKNOWN, "statues", 4, 0, 0, 0);
        leaves(0, OUTSIDE, "statues", 0, 3, 0, 0);
        leaves(0, -106, "statues", 0, 0, 0, 6);
        leaves(0, UNKNOWN, "takenFor", 0, 4, 0, 0, 0);
        leaves(0, OUTSIDE, "takenFor", 61, 0, 0, 0, 0);
        leaves(0, OUTSIDE, "takenFor", 0, 2, 2, 3, 0);
        leaves(0, UNKNOWN, "sheet", 4, 0, 0);
        leaves(0, OUTSIDE, "sheet", 0, 0, 61);
        leaves(0, UNKNOWN, "put", 4, 0, 0);
        leaves(0, LOST, "cell", 4, 0, 0);
        leaves(0, LOST, "cell", 0, 0, 3);
        leaves(0, UNKNOWN, "copy", 0, 0, 4, 0, 0);
        leaves(0, UNKNOWN, "as", 4, 0);
        leaves(0, OUTSIDE, "as", 0, 3);
    }

    private static void faultStays() {
        T.sentence("of the latest call that names one: no other call changes it, taken or refused");
        SaltSaints x = Checks.with("s1110;b2110");
        T.due(x, NULL, "put", 3, 0, 0);
        int[][] numbers = {{0}, {1}, {-1}, {0, 0}, {1, 1}, {-1, -1}, {0, 0, 0}, {1, 1, 1}, {-1, -1, -1},
            {0, 0, 0, 0}, {1, 1, 1, 1}, {-1, -1, -1, -1}};
        String[][] names = {{"deer", "liked", "lasts", "turn", "back", "rains", "tell", "bow", "many", "lose"},
            {"ofStatue", "look", "over", "fence", "gone", "umbrellas", "roofs", "whose", "cast"}, {"rain", "grains", "lost"}, {"reading"}};
        for (int[] of : numbers) {
            for (String name : names[of.length - 1]) {
                T.due("no such call is " + name, Calls.answer(x, name, of) instanceof Long ? 1 : 0, 1);
                T.due(x, 1, "fault");
            }
        }
        T.due(x, x.trace(), "trace");
        T.due(x, 1, "fault");
    }

    // ---- promise 33

    private static void many() {
        T.promise(33, false);
        T.sentence("OUTSIDE: what, but for 0, 1, 2");
        T.refusedAt(Checks.FOUR, OUTSIDE, 0, Checks.of(-1, 3, MIN, MAX), "many", 0);
        T.refusedAt(Checks.NOTHING, OUTSIDE, 0, Checks.of(-1, 3, MIN, MAX), "many", 0);
        T.sentence("How many: 0 STATUES, 1 DEER, 2 READINGS");
        T.asks(Checks.FOUR, 4, "many", 0);
        T.asks(Checks.FOUR, 2, "many", 1);
        T.asks(Checks.FOUR, 3, "many", 2);
        T.asks(Checks.SEVEN, 7, "many", 0);
        T.asks(Checks.SEVEN, 9, "many", 1);
        T.asks(Checks.SEVEN, 8, "many", 2);
        T.sentence("(0 all without STATUES)");
        T.asksAt(Checks.NOTHING, 0, 0, Checks.of(0, 1, 2), "many", 0);
        T.asksAt(Checks.ROWS, 0, 0, Checks.of(0, 1, 2), "many", 0);
        SaltSaints x = new SaltSaints();
        T.due(x, STATE, "deer", 5);
        T.due(x, UNKNOWN, "reading", 0, 0, 0, 0);
        T.due(x, 0, "many", 1);
        T.due(x, 0, "many", 2);
        T.sentence("NONE is -9, where there is none of them");
        T.due(Checks.with("s1110"), NONE, "gone", 0, 3);
        T.due(Checks.with("s1110"), NONE, "liked", 0);
    }
}
