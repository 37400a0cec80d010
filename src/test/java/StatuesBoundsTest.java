/** The bounds of promises 1 to 6, sentence by sentence. */
public final class StatuesBoundsTest {
    private static final int UNKNOWN = Checks.UNKNOWN, OUTSIDE = Checks.OUTSIDE, STATE = Checks.STATE;
    private static final int NULL = Checks.NULL, CAST = Checks.CAST, INDEX = Checks.INDEX, SIZE = Checks.SIZE;
    private static final int MIN = Checks.MIN, MAX = Checks.MAX;
    private static final int[] NOT_OF_FOUR = {-1, 4, MIN, MAX}, NOT_OF_SEVEN = {-1, 7, MIN, MAX}, NOT_OF_NONE = {-1, 0, 6, MIN, MAX};
    private static final String MOST = "s1110;b2221;m3332;s4443;b5550;m6661;s9992";
    private static final Checks T = new Checks();

    private StatuesBoundsTest() { }

    public static void main(String[] args) {
        newObject();
        statuesRefusals();
        statuesFaults();
        statuesIndex();
        statuesOrder();
        textsThatEndTooSoon();
        textsThatGoOn();
        codesJustInsideAndOutside();
        firstOfSeveralFaults();
        textsOfLanes();
        anew();
        anewOnceAsked();
        notAnew();
        ofStatue();
        look();
        over();
        fence();
        T.end();
    }

    // ---- promise 1

    private static void newObject() {
        T.promise(1, false);
        T.sentence("No STATUES");
        SaltSaints x = new SaltSaints();
        for (int what = 0; what < 3; what++) {
            T.due(x, 0, "many", what);
        }
        for (int k : NOT_OF_NONE) {
            for (String name : new String[] {"ofStatue", "look", "over", "fence", "gone", "as"}) {
                T.due(x, UNKNOWN, name, k, 0);
            }
            T.due(x, UNKNOWN, "grains", k, 0, 0);
            T.due(x, UNKNOWN, "lost", k, 0, 0);
            T.due(x, UNKNOWN, "reading", k, 0, 0, 0);
            T.due(x, UNKNOWN, "tell", k);
            T.due(x, UNKNOWN, "bow", k);
        }
        for (String name : new String[] {"deer", "liked", "turn", "rains"}) {
            T.due(x, STATE, name, 0);
        }
        T.sentence("SHEETS have nothing");
        for (int k = 0; k < 4; k++) {
            T.due(x, 0, "lose", k);
            T.due(x, NULL, "put", k, 0, 0);
            T.due(x, 1, "fault");
            T.due(x, NULL, "copy", k, 0, k, 0, 0);
            for (int lane = 0; lane < 3; lane++) {
                T.due(x, Checks.LOST, "cell", k, 0, lane);
                T.due(x, NULL, "statues", k, lane, 0, 0);
            }
        }
        T.sentence("TRACE is 0 at first; fault() is 0 ahead of any call that names a FAULT");
        T.due(new SaltSaints(), 0, "trace");
        T.due(new SaltSaints(), 0, "fault");
        T.sentence("a new object, whatever was called of another one");
        SaltSaints other = Checks.after(Checks.FOUR);
        T.due(other, SIZE, "sheet", 0, 0, -1);
        SaltSaints fresh = new SaltSaints();
        T.due(fresh, 0, "fault");
        T.due(fresh, 0, "trace");
        T.due(fresh, 0, "many", 0);
        T.due(fresh, 0, "lose", 0);
        T.due(other, 4, "many", 0);
        T.due(other, 4, "fault");
        T.due(other, 1, "lose", 0);
    }

    // ---- promise 2

    private static void statuesRefusals() {
        T.promise(2, true);
        T.sentence("UNKNOWN: there is no such SHEET");
        T.refusedAt(Checks.FOUR, UNKNOWN, 0, NOT_OF_FOUR, "statues", 0, 0, 0, 23);
        for (int k = 0; k < 4; k++) {
            int sheet = k;
            T.answers(x -> Checks.write(x, sheet, 2, 0, "b1111"), 1, "statues", k, 2, 0, 5);
        }
        T.sentence("OUTSIDE: lane");
        T.refusedAt(Checks.FOUR, OUTSIDE, 1, Checks.of(-1, 3, MIN, MAX), "statues", 0, 0, 0, 23);
        for (int lane = 0; lane < 3; lane++) {
            int of = lane;
            T.answers(x -> Checks.write(x, 0, of, 0, "b1111"), 1, "statues", 0, lane, 0, 5);
        }
    }

    private static void statuesFaults() {
        T.sentence("CAST: it is of another LANE");
        for (int sheet = 0; sheet < 3; sheet++) {
            for (int lane = 0; lane < 3; lane++) {
                if (lane != sheet) {
                    T.faulted(Checks.FOUR, CAST, "statues", sheet, lane, 0, 5);
                }
            }
        }
        T.sentence("nothing is no CAST; NULL");
        for (int lane = 0; lane < 3; lane++) {
            T.faulted(Checks.FOUR, NULL, "statues", 3, lane, 0, 5);
        }
        T.faulted(Checks.NOTHING, NULL, "statues", 0, 0, 0, 0);
        T.faulted(x -> {
            Checks.FOUR.set(x);
            x.lose(0);
        }, NULL, "statues", 0, 1, 0, 23);
        T.sentence("SIZE: n below 0");
        T.faultedAt(Checks.FOUR, SIZE, 3, Checks.of(-1, -23, MIN), "statues", 0, 0, 0, 0);
        T.refused(Checks.FOUR, -100, "statues", 0, 0, 0, 0);
    }

    private static void statuesIndex() {
        T.sentence("INDEX: of cells from i on, where one is not there");
        T.answers(Checks.FOUR, 4, "statues", 0, 0, 0, 23);
        T.answers(Checks.FOUR, 1, "statues", 0, 0, 18, 5);
        T.faultedAt(Checks.FOUR, INDEX, 3, Checks.of(24, 25, 60, 61, MAX), "statues", 0, 0, 0, 0);
        T.faultedAt(Checks.FOUR, INDEX, 3, Checks.of(6, MAX - 18, MAX - 17, MAX), "statues", 0, 0, 18, 0);
        T.faultedAt(Checks.FOUR, INDEX, 2, Checks.of(-1, 19, 23, 24, MIN, MAX), "statues", 0, 0, 0, 5);
        T.sentence("INDEX: also where i is not 0 .. how many there are, if none of them is taken");
        T.refusedAt(Checks.FOUR, -100, 2, Checks.of(0, 22, 23), "statues", 0, 0, 0, 0);
        T.faultedAt(Checks.FOUR, INDEX, 2, Checks.of(-1, 24, MIN, MAX), "statues", 0, 0, 0, 0);
        T.sentence("a row of 0 numbers");
        T.refused(Checks.SEVEN, -100, "statues", 2, 2, 0, 0);
        T.faulted(Checks.SEVEN, INDEX, "statues", 2, 2, 0, 1);
        T.faultedAt(Checks.SEVEN, INDEX, 2, Checks.of(-1, 1, MIN, MAX), "statues", 2, 2, 0, 0);
        T.sentence("a row of 60 numbers");
        Checks.Scene full = x -> Checks.write(x, 2, 1, 55, "m9993");
        T.answers(full, 1, "statues", 2, 1, 55, 5);
        T.faulted(full, INDEX, "statues", 2, 1, 56, 5);
        T.faulted(full, INDEX, "statues", 2, 1, 55, 6);
        T.refused(full, -104, "statues", 2, 1, 55, 4);
        T.refused(full, -100, "statues", 2, 1, 0, 60);
        T.faulted(full, INDEX, "statues", 2, 1, 0, 61);
        T.refused(full, -100, "statues", 2, 1, 60, 0);
        T.faulted(full, INDEX, "statues", 2, 1, 61, 0);
    }

    /** Each line has all of the later ones, too. */
    private static void statuesOrder() {
        T.sentence("UNKNOWN; OUTSIDE: lane; CAST; NULL; SIZE; INDEX; -100 less it: the first that is come to");
        T.refused(Checks.FOUR, UNKNOWN, "statues", 4, 3, -1, -1);
        T.refused(Checks.FOUR, OUTSIDE, "statues", 1, 3, -1, -1);
        T.refused(Checks.FOUR, OUTSIDE, "statues", 3, -1, -1, -1);
        T.faulted(Checks.FOUR, CAST, "statues", 1, 2, -1, -1);
        T.faulted(Checks.FOUR, NULL, "statues", 3, 2, -1, -1);
        T.faulted(Checks.FOUR, SIZE, "statues", 1, 1, -1, -1);
        T.faulted(Checks.FOUR, SIZE, "statues", 1, 1, MAX, MIN);
        T.faulted(Checks.FOUR, CAST, "statues", 1, 2, 6, 5);
        T.faulted(Checks.FOUR, NULL, "statues", 3, 2, 6, 5);
        T.faulted(Checks.FOUR, INDEX, "statues", 1, 1, -1, 5);
        T.faulted(Checks.FOUR, INDEX, "statues", 1, 1, 1, 5);
        T.refused(Checks.FOUR, -100, "statues", 1, 1, 0, 5);
    }

    private static void textsThatEndTooSoon() {
        T.sentence("FIRST FAULT: how many codes there are, if it just ends too soon");
        for (int n = 0; n <= 41; n++) {
            SaltSaints x = new SaltSaints();
            Checks.write(x, 0, 0, 0, MOST);
            int want = n % 6 == 5 ? (n + 1) / 6 : -100 - n;
            T.due(x, want, "statues", 0, 0, 0, n);
            T.due(x, 0, "fault");
            T.due(x, Math.max(0, want), "many", 0);
        }
        Checks.Scene seven = Checks.SEVEN;
        T.refusedAt(seven, -104, 3, Checks.of(4), "statues", 0, 1, 0, 0);
        T.refusedAt(seven, -106, 3, Checks.of(6), "statues", 0, 1, 0, 0);
        T.refusedAt(seven, -140, 3, Checks.of(40), "statues", 0, 1, 0, 0);
        T.sentence("1 to 7 of them: just one, all seven");
        T.answers(seven, 1, "statues", 0, 1, 0, 5);
        T.answers(seven, 6, "statues", 0, 1, 6, 35);
        T.answers(seven, 7, "statues", 0, 1, 0, 41);
    }

    private static void textsThatGoOn() {
        T.sentence("FIRST FAULT: the ; of an eighth STATUE");
        for (String more : new String[] {";", ";s", ";s1110", ";;", "s", "0", "#", ";s1110;s1110;s1110"}) {
            Checks.Scene scene = x -> {
                Checks.SEVEN.set(x);
                Checks.write(x, 3, 0, 0, MOST + more);
            };
            T.refused(scene, -141, "statues", 3, 0, 0, 41 + more.length());
            T.answers(scene, 7, "statues", 3, 0, 0, 41);
        }
        T.sentence("a ; after the sixth STATUE, and nothing, is a TEXT that ends too soon");
        T.refused(Checks.SEVEN, -136, "statues", 0, 1, 0, 36);
    }

    private static boolean goesOn(int place, int code) {
        String[] codes = {"sbm", "123456789", "123456789", "123456789", "0123", ";"};
        return code > 0 && code < 128 && codes[place % 6].indexOf(code) >= 0;
    }

    private static void codesJustInsideAndOutside() {
        T.sentence("FIRST FAULT: the place (from 0 on) of the first code with which no TEXT goes on");
        int[] codes = {MIN, -1, 0, 47, 48, 49, 51, 52, 57, 58, 59, 60, 97, 98, 99, 108, 109, 110, 114, 115, 116,
            128, 48 + 128, 49 + 256, 59 + 256, 115 + 256, 115 + 65536, MAX};
        for (int place = 0; place < 41; place++) {
            for (int code : codes) {
                SaltSaints x = new SaltSaints();
                Checks.write(x, 1, 2, 3, MOST);
                x.put(1, 3 + place, code);
                T.due("code " + code + " at " + place, x.statues(1, 2, 3, 41), goesOn(place, code) ? 7 : -100 - place);
            }
        }
        T.sentence("a letter; digits 1 .. 9; a digit 0 .. 3");
        String[] taken = {"s1110", "b1110", "m1110", "s9110", "s1910", "s1190", "s9990", "s1113"};
        int[][] want = {{10, 10, 10, 0, 0}, {10, 10, 10, 1, 0}, {10, 10, 10, 2, 0}, {90, 10, 10, 0, 0}, {10, 90, 10, 0, 0},
            {10, 10, 90, 0, 0}, {90, 90, 90, 0, 0}, {10, 10, 10, 0, 3}};
        for (int t = 0; t < taken.length; t++) {
            SaltSaints x = Checks.with(taken[t]);
            for (int what = 0; what < 5; what++) {
                T.due(taken[t] + ": ofStatue(0, " + what + ")", x.ofStatue(0, what), want[t][what]);
            }
        }
    }

    private static void firstOfSeveralFaults() {
        T.sentence("FIRST FAULT: of several the first one");
        String[] texts = {"x0000", "s0x00", "s10x4", "s1104", "s1114x", "s1110,;", "s1110;x0", "s1110;b111", "s111a;", "s11"};
        int[] places = {0, 1, 2, 3, 4, 5, 6, 10, 4, 3};
        for (int t = 0; t < texts.length; t++) {
            String text = texts[t];
            T.refused(x -> {
                Checks.SEVEN.set(x);
                Checks.write(x, 3, 2, 7, text);
            }, -100 - places[t], "statues", 3, 2, 7, text.length());
        }
    }

    private static void textsOfLanes() {
        T.sentence("taken as a row of a LANE: what a cell holds once it is cut to it");
        int[] cut = {115 + 256, 115 + 65536, 115 - 256, 115 - 65536};
        int[][] want = {{1, 1, 1, 1}, {-100, 1, -100, 1}, {-100, -100, -100, -100}};
        for (int lane = 0; lane < 3; lane++) {
            for (int c = 0; c < cut.length; c++) {
                SaltSaints x = new SaltSaints();
                Checks.write(x, 0, lane, 0, "s1110");
                x.put(0, 0, cut[c]);
                T.due(cut[c] + " for an s in LANE " + lane, x.statues(0, lane, 0, 5), want[lane][c]);
            }
        }
    }

    private static void anew() {
        T.sentence("A TEXT that is taken makes all anew: no rain");
        SaltSaints x = new SaltSaints();
        Checks.write(x, 0, 0, 0, "s1230;b2121");
        x.statues(0, 0, 0, 11);
        Checks.rainFor(x, 60, 9, 3);
        T.due(x, 2, "statues", 0, 0, 0, 11);
        T.due(x, 30, "grains", 0, 2, 60);
        for (int day = 0; day < 60; day++) {
            T.due(x, 0, "rain", day, 0, 0);
        }
        T.sentence("A TEXT that is taken makes all anew: no DEER, no READINGS");
        x = Checks.after(Checks.SEVEN);
        T.due(x, 7, "statues", 0, 1, 0, 41);
        T.due(x, 0, "many", 1);
        T.due(x, 0, "many", 2);
        T.due(x, 0, "back", 0);
        T.due(x, OUTSIDE, "back", 1);
        T.due(x, 1023, "rains", 0);
        T.due(x, 0, "reading", 0, 0, 0, 0);
        T.due(x, 0, "deer", 9);
        T.sentence("A TEXT that is taken makes all anew: nothing over any STATUE, no fences, each LOOKS as it is told");
        x = Checks.with(MOST);
        for (int k = 0; k < 7; k++) {
            x.over(k, 1 + k % 2);
            x.fence(k, true);
            x.look(k, 1);
        }
        T.due(x, 7, "statues", 0, 0, 0, 41);
        int[] looks = {0, 1, 2, 3, 0, 1, 2};
        for (int k = 0; k < 7; k++) {
            T.due(x, looks[k], "ofStatue", k, 4);
            T.due(x, 0, "ofStatue", k, 5);
            T.due(x, 0, "ofStatue", k, 6);
        }
        T.sentence("A TEXT that is taken makes all anew: seven STATUES, then one; one, then seven");
        T.due(x, 1, "statues", 0, 0, 36, 5);
        T.due(x, 1, "many", 0);
        T.due(x, 90, "ofStatue", 0, 0);
        T.due(x, UNKNOWN, "ofStatue", 1, 0);
        T.due(x, 7, "statues", 0, 0, 0, 41);
        T.due(x, 90, "ofStatue", 6, 0);
        T.due(x, 60, "grains", 5, 2, 60);
        T.due(x, UNKNOWN, "ofStatue", 7, 0);
    }

    /** What the DAYS of an earlier TEXT came to was asked for, so that it might have been kept. */
    private static void anewOnceAsked() {
        T.sentence("A TEXT that is taken makes all anew, whatever was asked of the one ahead of it");
        SaltSaints x = Checks.with("s1230;b2121");
        Checks.rainFor(x, 60, 9, 0);
        x.deer(9);
        T.due(x, 0, "grains", 0, 0, 60);
        T.due(x, 0, "liked", 0);
        T.due(x, 2, "statues", 0, 0, 0, 11);
        T.due(x, 10, "grains", 0, 0, 60);
        T.due(x, 10, "grains", 0, 0, 1);
        T.due(x, 10, "grains", 1, 1, 60);
        T.due(x, 0, "lost", 0, 60, 0);
        T.due(x, 0, "lost", 0, 60, 1);
        T.due(x, Checks.NONE, "gone", 0, 0);
        T.due(x, Checks.NONE, "liked", 0);
        T.due(x, 1, "lasts", 1);
        T.due(x, 0, "roofs", 60, 0);
        T.due(x, 61, "turn", 1);
        T.due(x, 0, "cast", 60, 1);
        T.due(x, 3, "whose", 0, 60);
        T.due(x, 1, "statues", 0, 0, 6, 5);
        T.due(x, 20, "grains", 0, 0, 60);
    }

    private static void notAnew() {
        T.sentence("A TEXT that is taken makes all anew, but for SHEETS and TRACE");
        SaltSaints x = Checks.after(Checks.FOUR);
        int trace = x.trace();
        T.due("trace() is not 0", trace != 0 ? 1 : 0, 1);
        T.due(x, 4, "statues", 0, 0, 0, 23);
        T.due(x, trace, "trace");
        T.due(x, 115, "cell", 0, 0, 0);
        T.due(x, 51, "cell", 0, 22, 0);
        T.due(x, 300, "cell", 1, 0, 1);
        T.due(x, 70000, "cell", 2, 5, 2);
        T.due(x, 0, "lose", 3);
    }

    // ---- promise 3

    private static void ofStatue() {
        T.promise(3, false);
        T.sentence("UNKNOWN: there is no such STATUE");
        T.refusedAt(Checks.FOUR, UNKNOWN, 0, NOT_OF_FOUR, "ofStatue", 0, 0);
        T.refusedAt(Checks.SEVEN, UNKNOWN, 0, NOT_OF_SEVEN, "ofStatue", 0, 0);
        T.refusedAt(Checks.NOTHING, UNKNOWN, 0, NOT_OF_NONE, "ofStatue", 0, 0);
        T.answers(Checks.SEVEN, 10, "ofStatue", 0, 0);
        T.answers(Checks.SEVEN, 90, "ofStatue", 6, 0);
        T.sentence("OUTSIDE: what");
        T.refusedAt(Checks.FOUR, OUTSIDE, 1, Checks.of(-1, 7, MIN, MAX), "ofStatue", 0, 0);
        T.answers(Checks.FOUR, 10, "ofStatue", 0, 0);
        T.answers(Checks.FOUR, 0, "ofStatue", 0, 6);
        T.answers(Checks.FOUR, 1, "ofStatue", 1, 6);
        T.sentence("UNKNOWN; OUTSIDE: the first of both");
        T.refused(Checks.FOUR, UNKNOWN, "ofStatue", 4, 7);
        T.refused(Checks.NOTHING, UNKNOWN, "ofStatue", 0, -1);
        T.sentence("0 .. 2 GRAINS of its PARTS at first");
        SaltSaints x = Checks.with("m1230");
        Checks.rainFor(x, 60, 9, 0);
        T.due(x, 0, "grains", 0, 0, 60);
        T.due(x, 10, "ofStatue", 0, 0);
        T.due(x, 20, "ofStatue", 0, 1);
        T.due(x, 30, "ofStatue", 0, 2);
        T.sentence("3 kind, 4 whereto it LOOKS, 5 what is over it, 6 whether it has a FENCE");
        int[][] want = {{0, 0, 1, 0}, {1, 1, 0, 1}, {2, 2, 2, 0}, {0, 1, 0, 0}};
        for (int k = 0; k < 4; k++) {
            for (int what = 3; what < 7; what++) {
                T.answers(Checks.FOUR, want[k][what - 3], "ofStatue", k, what);
            }
        }
    }

    // ---- promises 4 to 6

    private static void look() {
        T.promise(4, false);
        T.sentence("UNKNOWN: there is no such STATUE");
        T.refusedAt(Checks.FOUR, UNKNOWN, 0, NOT_OF_FOUR, "look", 0, 3);
        T.refusedAt(Checks.SEVEN, UNKNOWN, 0, NOT_OF_SEVEN, "look", 0, 3);
        T.refusedAt(Checks.NOTHING, UNKNOWN, 0, NOT_OF_NONE, "look", 0, 3);
        T.answers(Checks.SEVEN, 0, "look", 0, 3);
        T.answers(Checks.SEVEN, 2, "look", 6, 3);
        T.sentence("OUTSIDE: whereto, but for 0 .. 3");
        T.refusedAt(Checks.FOUR, OUTSIDE, 1, Checks.of(-1, 4, MIN, MAX), "look", 0, 0);
        T.answersAt(Checks.FOUR, 2, 1, Checks.of(0, 1, 2, 3), "look", 2, 0);
        T.sentence("UNKNOWN; OUTSIDE: the first of both");
        T.refused(Checks.FOUR, UNKNOWN, "look", 4, 4);
        T.sentence("whereto it did, also if it is to LOOK there again");
        SaltSaints x = Checks.with("s1113;b1110");
        int[] to = {0, 0, 3, 3, 2, 1};
        int was = 3;
        for (int next : to) {
            T.due(x, was, "look", 0, next);
            T.due(x, next, "ofStatue", 0, 4);
            T.due(x, 0, "ofStatue", 1, 4);
            was = next;
        }
        T.sentence("A STATUE is to LOOK elsewhere: on all DAYS, those that were asked for ahead, too");
        x = Checks.with("s9993");
        x.rain(0, 2, 0);
        x.rain(59, 2, 3);
        T.due(x, 82, "grains", 0, 0, 60);
        T.due(x, 3, "look", 0, 0);
        T.due(x, 84, "grains", 0, 0, 1);
        T.due(x, 82, "grains", 0, 0, 60);
    }

    private static void over() {
        T.promise(5, false);
        T.sentence("UNKNOWN: there is no such STATUE");
        T.refusedAt(Checks.FOUR, UNKNOWN, 0, NOT_OF_FOUR, "over", 0, 2);
        T.refusedAt(Checks.SEVEN, UNKNOWN, 0, NOT_OF_SEVEN, "over", 0, 2);
        T.refusedAt(Checks.NOTHING, UNKNOWN, 0, NOT_OF_NONE, "over", 0, 2);
        T.answers(Checks.SEVEN, 0, "over", 0, 2);
        T.answers(Checks.SEVEN, 1, "over", 6, 2);
        T.sentence("OUTSIDE: what, but for nothing (0), an UMBRELLA (1), a ROOF (2)");
        T.refusedAt(Checks.FOUR, OUTSIDE, 1, Checks.of(-1, 3, MIN, MAX), "over", 0, 0);
        T.answersAt(Checks.FOUR, 1, 1, Checks.of(0, 1, 2), "over", 0, 0);
        T.answersAt(Checks.FOUR, 2, 1, Checks.of(0, 1, 2), "over", 2, 0);
        T.sentence("UNKNOWN; OUTSIDE: the first of both");
        T.refused(Checks.FOUR, UNKNOWN, "over", -1, 3);
        T.sentence("what there was; what comes is in place of it");
        SaltSaints x = Checks.with("s1113;b1110");
        int was = 0;
        for (int next : Checks.of(1, 1, 2, 2, 0, 0, 2, 1, 0)) {
            T.due(x, was, "over", 0, next);
            T.due(x, next, "ofStatue", 0, 5);
            T.due(x, 0, "ofStatue", 1, 5);
            was = next;
        }
    }

    private static void fence() {
        T.promise(6, false);
        T.sentence("UNKNOWN: there is no such STATUE");
        T.refusedAt(Checks.FOUR, UNKNOWN, 0, NOT_OF_FOUR, "fence", 0, 1);
        T.refusedAt(Checks.FOUR, UNKNOWN, 0, NOT_OF_FOUR, "fence", 0, 0);
        T.refusedAt(Checks.SEVEN, UNKNOWN, 0, NOT_OF_SEVEN, "fence", 0, 1);
        T.refusedAt(Checks.NOTHING, UNKNOWN, 0, NOT_OF_NONE, "fence", 0, 1);
        T.answers(Checks.SEVEN, 1, "fence", 0, 1);
        T.answers(Checks.SEVEN, 1, "fence", 6, 0);
        T.sentence("1; 0: it was so");
        T.answers(Checks.FOUR, 0, "fence", 1, 1);
        T.answers(Checks.FOUR, 1, "fence", 1, 0);
        T.answers(Checks.FOUR, 1, "fence", 0, 1);
        T.answers(Checks.FOUR, 0, "fence", 0, 0);
        SaltSaints x = Checks.with("s1113;b1110");
        int[] is = {0, 1, 1, 0, 0, 1, 0};
        int[] want = {0, 1, 0, 1, 0, 1, 1};
        for (int t = 0; t < is.length; t++) {
            T.due(x, want[t], "fence", 0, is[t]);
            T.due(x, is[t], "ofStatue", 0, 6);
            T.due(x, 0, "ofStatue", 1, 6);
        }
    }
}
