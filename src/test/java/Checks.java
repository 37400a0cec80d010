import java.util.HashMap;
import java.util.Map;

/**
 * What the tests of the bounds share. Each sentence of the document is told first, then its calls with their answers. A
 * call that is refused, or comes to a FAULT, is made on objects of its own, all brought to the same state: one tells its
 * answer and fault(), the others what is seen after it, so that no object is ever asked more than 512 times.
 */
final class Checks {
    static final int UNKNOWN = -1, OUTSIDE = -2, STATE = -3, FULL = -4, NONE = -9;
    static final int NULL = -11, CAST = -12, INDEX = -13, SIZE = -14;
    static final long LOST = Long.MIN_VALUE;
    static final int MIN = Integer.MIN_VALUE, MAX = Integer.MAX_VALUE;

    /** The calls that bring a new object to a state; some 150 at most. */
    interface Scene {
        void set(SaltSaints x);
    }

    private static final int STAYS = -1, SLICES = 13;
    private static final int[] AHEAD = {0, 4};

    private final Map<Scene, String[]> seen = new HashMap<>();
    private int promise = 0;
    private boolean namesFaults = false;
    private String sentence = "";
    private int sentences = 0;
    private int wrong = 0;

    // ---- states

    /** A new object. */
    static final Scene NOTHING = x -> { };

    /** Rows, but no STATUES: SHEET 0 has 60 bytes, 1 no shorts, 2 the ints 10, 20, 1000, 3 nothing. */
    static final Scene ROWS = x -> {
        x.sheet(0, 0, 60);
        for (int i = 0; i < 60; i++) {
            x.put(0, i, i + 1);
        }
        x.sheet(1, 1, 0);
        row(x, 2, 2, 10, 20, 1000);
    };

    /** Four STATUES with all that there may be about them; SHEET 0 has their TEXT, 1 five shorts, 2 six ints, 3 nothing. */
    static final Scene FOUR = x -> {
        write(x, 0, 0, 0, "s1230;b2121;m3212;s5553");
        x.statues(0, 0, 0, 23);
        row(x, 1, 1, 300, -7, 20, 30, 999);
        row(x, 2, 2, 0, 999, 10, 1000, -1, 70000);
        x.rain(0, 3, 0);
        x.rain(1, 9, 1);
        x.rain(59, 2, 3);
        x.deer(2);
        x.look(3, 1);
        x.over(0, 1);
        x.over(2, 2);
        x.fence(1, true);
        x.reading(0, 2, 1, 29);
        x.reading(1, 0, 2, 0);
        x.reading(2, 1, 60, 20);
        x.tell(2);
        x.bow(1);
    };

    /** Seven STATUES and eight READINGS; SHEET 0 has their TEXT, 1 sixty bytes, 2 no ints, 3 nothing. */
    static final Scene SEVEN = x -> {
        write(x, 0, 1, 0, "s1110;b2221;m3332;s4443;b5550;m6661;s9992");
        x.statues(0, 1, 0, 41);
        x.sheet(1, 0, 60);
        x.put(1, 0, 1);
        x.put(1, 59, -1);
        x.sheet(2, 2, 0);
        x.rain(0, 1, 2);
        x.rain(7, 4, 3);
        x.deer(9);
        x.over(6, 1);
        x.fence(6, true);
        int[] noses = {9, 19, 29, 39, 49, 60, 89, 9};
        for (int r = 0; r < 8; r++) {
            x.reading(r % 7, 0, 1, noses[r]);
        }
        x.bow(5);
    };

    static SaltSaints after(Scene scene) {
        SaltSaints x = new SaltSaints();
        scene.set(x);
        return x;
    }

    static SaltSaints with(String text) {
        SaltSaints x = new SaltSaints();
        write(x, 0, 0, 0, text);
        x.statues(0, 0, 0, text.length());
        return x;
    }

    /** A SHEET gets a row of a LANE that ends with a text's codes, from a place on. */
    static void write(SaltSaints x, int sheet, int lane, int from, String text) {
        x.sheet(sheet, lane, from + text.length());
        for (int i = 0; i < text.length(); i++) {
            x.put(sheet, from + i, text.charAt(i));
        }
    }

    static void row(SaltSaints x, int sheet, int lane, int... numbers) {
        x.sheet(sheet, lane, numbers.length);
        for (int i = 0; i < numbers.length; i++) {
            x.put(sheet, i, numbers[i]);
        }
    }

    static void rainFor(SaltSaints x, int days, int rain, int wind) {
        for (int day = 0; day < days; day++) {
            x.rain(day, rain, wind);
        }
    }

    static int[] of(int... numbers) {
        return numbers;
    }

    // ---- what is told

    void promise(int number, boolean itNamesFaults) {
        promise = number;
        namesFaults = itNamesFaults;
        sentence = "";
    }

    void sentence(String words) {
        sentence = words;
        sentences++;
    }

    /** The end of a test's main method. */
    void end() {
        System.out.println(wrong == 0 ? sentences + " sentences hold" : wrong + " answers are not as due");
        if (wrong != 0) {
            System.exit(1);
        }
    }

    private void compare(String what, Object got, Object want) {
        if (!got.equals(want)) {
            wrong++;
            System.out.println("promise " + promise + ", \"" + sentence + "\": " + what + ": " + got + ", due is " + want);
        }
    }

    void due(String what, long got, long want) {
        compare(what, got, want);
    }

    /** The next call of an object that is made by the test itself. */
    void due(SaltSaints x, long want, String name, int... numbers) {
        compare(Calls.told(name, numbers), Calls.answer(x, name, numbers), want);
    }

    // ---- one call ahead of a state

    /** A call that is neither refused nor comes to a FAULT. */
    void answers(Scene scene, long want, String name, int... numbers) {
        tellsFault(scene, want, namesFaults ? 0 : STAYS, name, numbers);
    }

    void answersAt(Scene scene, long want, int place, int[] in, String name, int... numbers) {
        for (int number : in) {
            answers(scene, want, name, put(numbers, place, number));
        }
    }

    /** A call that answers, and changes nothing by it. */
    void asks(Scene scene, long want, String name, int... numbers) {
        refused(scene, want, name, numbers);
    }

    void asksAt(Scene scene, long want, int place, int[] in, String name, int... numbers) {
        refusedAt(scene, want, place, in, name, numbers);
    }

    void refused(Scene scene, long want, String name, int... numbers) {
        tellsFault(scene, want, namesFaults ? 0 : STAYS, name, numbers);
        changesNothing(scene, name, numbers);
    }

    /** The same call again and again, with each of these numbers at a place. */
    void refusedAt(Scene scene, long want, int place, int[] wrongs, String name, int... numbers) {
        for (int number : wrongs) {
            refused(scene, want, name, put(numbers, place, number));
        }
    }

    /** Want is NULL, CAST, INDEX or SIZE, for a call that answers LOST, too. */
    void faulted(Scene scene, int want, String name, int... numbers) {
        tellsFault(scene, name.equals("cell") ? LOST : want, -10 - want, name, numbers);
        changesNothing(scene, name, numbers);
    }

    void faultedAt(Scene scene, int want, int place, int[] wrongs, String name, int... numbers) {
        for (int number : wrongs) {
            faulted(scene, want, name, put(numbers, place, number));
        }
    }

    private static int[] put(int[] numbers, int place, int number) {
        int[] other = numbers.clone();
        other[place] = number;
        return other;
    }

    private void tellsFault(Scene scene, long want, int fault, String name, int... numbers) {
        String call = Calls.told(name, numbers);
        for (int ahead : AHEAD) {
            SaltSaints x = after(scene);
            leaveFault(x, ahead);
            compare(call, Calls.answer(x, name, numbers), want);
            compare("fault() after " + call + ", " + ahead + " ahead of it", (long) x.fault(), (long) (fault == STAYS ? ahead : fault));
        }
    }

    /** Both calls change nothing else in any state. */
    private void leaveFault(SaltSaints x, int fault) {
        if (fault == 0) {
            x.as(MIN, 0);
        } else {
            x.sheet(0, 0, -1);
        }
        compare("fault() ahead", (long) x.fault(), (long) fault);
    }

    private void changesNothing(Scene scene, String name, int... numbers) {
        String[] before = seen.computeIfAbsent(scene, Checks::allSeen);
        for (int slice = 0; slice < SLICES; slice++) {
            SaltSaints x = after(scene);
            Calls.answer(x, name, numbers);
            compare("seen after " + Calls.told(name, numbers), sliceOf(x, slice), before[slice]);
        }
    }

    // ---- all that can be seen, but fault(); each slice on an object of its own, as asking may change it

    private static String[] allSeen(Scene scene) {
        String[] slices = new String[SLICES];
        for (int slice = 0; slice < SLICES; slice++) {
            slices[slice] = sliceOf(after(scene), slice);
        }
        return slices;
    }

    private static String sliceOf(SaltSaints x, int slice) {
        StringBuilder told = new StringBuilder();
        if (slice == 0) {
            tellWhatIsSet(x, told);
        } else if (slice == 1) {
            tellWhatComesOfIt(x, told);
        } else if (slice < 6) {
            tellSheet(x, slice - 2, told);
        } else {
            tellGrains(x, slice - 6, told);
        }
        return told.toString();
    }

    private static void tellWhatIsSet(SaltSaints x, StringBuilder told) {
        told.append("trace ").append(x.trace()).append(" many");
        for (int what = 0; what < 3; what++) {
            told.append(' ').append(x.many(what));
        }
        for (int k = 0; k < 7; k++) {
            told.append(" statue ").append(k);
            for (int what = 0; what < 7; what++) {
                told.append(' ').append(x.ofStatue(k, what));
            }
        }
        told.append(" readings");
        for (int r = 0; r < 9; r++) {
            told.append(' ').append(x.rains(0)).append(' ').append(x.rains(1)).append(' ').append(x.back(1));
        }
        told.append(" rain");
        for (int day = 0; day < 60; day++) {
            told.append(' ').append(x.rain(day, 0, 0));
        }
    }

    private static void tellWhatComesOfIt(SaltSaints x, StringBuilder told) {
        told.append("lasts ").append(x.lasts(0)).append(' ').append(x.lasts(1)).append(' ').append(x.lasts(2));
        for (int k = 0; k < 7; k++) {
            told.append(" gone");
            for (int part = 0; part < 4; part++) {
                told.append(' ').append(x.gone(k, part));
            }
        }
        told.append(" liked");
        for (int day = 0; day < 60; day++) {
            told.append(' ').append(x.liked(day));
        }
    }

    private static void tellSheet(SaltSaints x, int k, StringBuilder told) {
        told.append("sheet ").append(k);
        for (int lane = 0; lane < 3; lane++) {
            for (int i = 0; i <= 60; i++) {
                told.append(' ').append(x.cell(k, i, lane));
            }
        }
    }

    private static void tellGrains(SaltSaints x, int k, StringBuilder told) {
        told.append("grains ").append(k);
        for (int dawn = 0; dawn <= 60; dawn++) {
            for (int part = 0; part < 3; part++) {
                told.append(' ').append(x.grains(k, part, dawn));
            }
            told.append(' ').append(x.lost(k, dawn, 1));
        }
    }
}
