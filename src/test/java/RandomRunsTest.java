import java.lang.reflect.Constructor;
import java.lang.reflect.Field;
import java.lang.reflect.Method;
import java.lang.reflect.Modifier;
import java.util.ArrayList;
import java.util.Arrays;
import java.util.List;
import java.util.Random;

/** Long runs of calls, drawn with fixed seeds, on the class and on Reference beside it: each answer must be the same. */
public final class RandomRunsTest {
    private static final int RUNS = 5000, LAST_CALLS = 300;
    private static final int[] ODD = {
        -1, 0, 1, 2, 3, 4, 5, 6, 7, 8, 9, 10, 59, 60, 61, 99, 100, 127, 128, 255, 999, 1000, 32768,
        Integer.MAX_VALUE, Integer.MAX_VALUE - 1, Integer.MIN_VALUE, Integer.MIN_VALUE + 1, -2, -60};

    private final Random random;
    private final Twin twin;
    private final Reference due;

    private RandomRunsTest(int run) {
        this.random = new Random(run);
        this.twin = new Twin("run " + run);
        this.due = twin.asked();
    }

    public static void main(String[] args) {
        int failed = faceFaults();
        for (int run = 1; run <= RUNS && failed < 5; run++) {
            RandomRunsTest test = new RandomRunsTest(run);
            test.go();
            failed += test.twin.isWrong() ? 1 : 0;
        }
        System.out.println(failed == 0 ? RUNS + " runs answered alike" : "some runs did not answer alike");
        if (failed != 0) {
            System.exit(1);
        }
    }

    /** The public face is that of the document: Reference has it written down. */
    private static int faceFaults() {
        List<String> face = members(SaltSaints.class);
        List<String> wanted = members(Reference.class);
        if (face.equals(wanted)) {
            return 0;
        }
        System.out.println("the face is " + face + ", due is " + wanted);
        return 1;
    }

    private static List<String> members(Class<?> of) {
        List<String> members = new ArrayList<>();
        members.add(Modifier.toString(of.getModifiers()));
        for (Field field : of.getDeclaredFields()) {
            if (!Modifier.isPrivate(field.getModifiers())) {
                members.add(Modifier.toString(field.getModifiers()) + " " + field.getType() + " " + field.getName() + " " + valueOf(field));
            }
        }
        for (Method method : of.getDeclaredMethods()) {
            if (!Modifier.isPrivate(method.getModifiers())) {
                members.add(Modifier.toString(method.getModifiers()) + " " + method.getReturnType() + " " + method.getName()
                    + Arrays.toString(method.getParameterTypes()));
            }
        }
        for (Constructor<?> constructor : of.getDeclaredConstructors()) {
            members.add(Modifier.toString(constructor.getModifiers()) + Arrays.toString(constructor.getParameterTypes()));
        }
        members.sort(null);
        return members;
    }

    private static Object valueOf(Field field) {
        try {
            return field.get(null);
        } catch (IllegalAccessException | NullPointerException e) {
            return "none";
        }
    }

    private void go() {
        if (random.nextInt(10) > 0) {
            makeStatues();
        }
        while (twin.left() > LAST_CALLS && !twin.isWrong()) {
            callAny();
        }
        lookAtAll();
    }

    private void call(String name, int... numbers) {
        twin.call(name, numbers);
    }

    private void callAny() {
        int pick = random.nextInt(100);
        if (pick < 22) {
            call("rain", day(), below(10), below(4));
        } else if (pick < 50) {
            askDays();
        } else if (pick < 60) {
            askPlans();
        } else if (pick < 74) {
            askPilgrims();
        } else if (pick < 84) {
            change();
        } else if (pick < 99) {
            useSheets();
        } else {
            makeStatues();
        }
    }

    private void change() {
        switch (random.nextInt(4)) {
            case 0 -> call("look", statue(), below(4));
            case 1 -> call("over", statue(), below(3));
            case 2 -> call("fence", statue(), random.nextInt(2));
            default -> call("deer", below(10));
        }
    }

    private void askDays() {
        switch (random.nextInt(7)) {
            case 0 -> call("grains", statue(), below(3), dawn());
            case 1 -> call("lost", statue(), dawn(), below(2));
            case 2 -> call("gone", statue(), below(4));
            case 3 -> call("liked", day());
            case 4 -> call("lasts", below(3));
            case 5 -> call("ofStatue", statue(), below(7));
            default -> call("many", below(3));
        }
    }

    private void askPlans() {
        switch (random.nextInt(3)) {
            case 0 -> call("umbrellas", below(4), below(2));
            case 1 -> call("turn", below(2));
            default -> call("roofs", dawn(), below(2));
        }
    }

    private void askPilgrims() {
        switch (random.nextInt(7)) {
            case 0 -> call("takenFor", dawn(), below(4), below(3), below(62), below(2));
            case 1 -> call("whose", random.nextInt(3) > 0 ? someLost() : below(200), dawn());
            case 2, 3 -> makeReading();
            case 4 -> call("back", below(3));
            case 5 -> call("rains", day());
            default -> call("cast", dawn(), random.nextInt(4) > 0 ? below(30) : below(1001));
        }
    }

    private int someLost() {
        return Math.max(0, due.lost(random.nextInt(7), random.nextInt(61), 0));
    }

    /** Mostly one that is so, or would be with another RAIN of its day. */
    private void makeReading() {
        int k = statue();
        int part = below(3);
        int dawn = random.nextInt(4) > 0 ? 1 + random.nextInt(5) : dawn();
        int v = Math.max(0, due.grains(k, part, dawn)) - (random.nextInt(3) == 0 ? random.nextInt(4) : 0);
        call("reading", k, part, dawn, odd() ? below(101) : v);
    }

    private void useSheets() {
        int k = below(4);
        switch (random.nextInt(10)) {
            case 0 -> call("sheet", k, below(3), below(62));
            case 1 -> call("lose", k);
            case 2, 3 -> call("put", k, below(62), random.nextInt(2) > 0 ? random.nextInt() : below(120));
            case 4, 5 -> call("cell", k, below(62), below(3));
            case 6 -> call("copy", k, below(62), below(4), below(62), below(40));
            case 7 -> call("tell", statue());
            case 8 -> call("bow", statue());
            default -> call("as", statue(), below(3));
        }
        if (random.nextInt(12) == 0) {
            call("statues", below(4), below(3), below(62), below(62));
        }
        call("fault");
        call("trace");
    }

    /** A TEXT, put into a SHEET by the right number of calls; one in five has something wrong in it. */
    private void makeStatues() {
        StringBuilder text = new StringBuilder();
        int many = 1 + random.nextInt(random.nextInt(8) == 0 ? 9 : 7);
        for (int k = 0; k < many; k++) {
            text.append(k > 0 ? ";" : "").append("sbm".charAt(random.nextInt(3)));
            for (int part = 0; part < 3; part++) {
                text.append((char) ('1' + random.nextInt(random.nextInt(2) > 0 ? 9 : 3)));
            }
            text.append((char) ('0' + random.nextInt(4)));
        }
        if (random.nextInt(5) == 0) {
            spoil(text);
        }
        int sheet = random.nextInt(4);
        int lane = random.nextInt(3);
        int ahead = random.nextInt(4);
        call("sheet", sheet, lane, ahead + text.length() + random.nextInt(2));
        for (int i = 0; i < text.length(); i++) {
            call("put", sheet, ahead + i, text.charAt(i));
        }
        call("statues", sheet, lane, ahead, text.length());
        call("fault");
    }

    private void spoil(StringBuilder text) {
        int at = random.nextInt(text.length());
        switch (random.nextInt(3)) {
            case 0 -> text.setLength(at);
            case 1 -> text.setCharAt(at, "sbm;0123456789:/tca".charAt(random.nextInt(19)));
            default -> text.append(';');
        }
    }

    /** All that can be seen at the end, so that nothing that a call should have left alone has changed. */
    private void lookAtAll() {
        call("fault");
        call("trace");
        for (int what = 0; what < 3; what++) {
            call("many", what);
            call("lasts", what);
        }
        for (int k = 0; k < 7; k++) {
            for (int what = 0; what < 7; what++) {
                call("ofStatue", k, what);
            }
            for (int part = 0; part < 4; part++) {
                call("gone", k, part);
            }
            call("lost", k, 60, 0);
            call("lost", k, 60, 1);
        }
        for (int i = 0; i < 60; i += 7) {
            for (int k = 0; k < 4; k++) {
                for (int lane = 0; lane < 3; lane++) {
                    call("cell", k, i, lane);
                }
            }
        }
    }

    private boolean odd() {
        return random.nextInt(40) == 0;
    }

    private int below(int bound) {
        return odd() ? ODD[random.nextInt(ODD.length)] : random.nextInt(bound);
    }

    private int statue() {
        return odd() ? below(9) : random.nextInt(Math.max(1, due.many(0)));
    }

    private int day() {
        return random.nextInt(3) > 0 ? below(12) : below(60);
    }

    private int dawn() {
        return random.nextInt(3) > 0 ? below(12) : below(61);
    }
}
