import java.lang.reflect.Method;
import java.util.ArrayList;
import java.util.Arrays;
import java.util.Collections;
import java.util.List;
import java.util.Map;
import java.util.Random;
import java.util.TreeMap;

/**
 * Each call with every combination of numbers at its bounds (just inside, just outside, the least and the greatest int),
 * in several states, compared with Reference: the answer, what fault() and trace() say afterwards, and what is seen after
 * some more of them. So refusals and FAULTS come in the order of the call's line, and no call throws.
 */
public final class EdgeGridTest {
    private static final int MIN = Integer.MIN_VALUE, MAX = Integer.MAX_VALUE;
    private static final int[] STATUE = {-1, 0, 1, 2, 3, 4, 6, 7, MIN, MAX};
    private static final int[] SHEET = {-1, 0, 1, 2, 3, 4, MIN, MAX};
    private static final int[] LANE = {-1, 0, 1, 2, 3, MIN, MAX};
    private static final int[] PART = {-1, 0, 2, 3, 4, MIN, MAX};
    private static final int[] DAWN = {-1, 0, 1, 60, 61, MIN, MAX};
    private static final int[] DAY = {-1, 0, 1, 59, 60, MIN, MAX};
    private static final int[] WHAT = {-1, 0, 1, 2, 3, 6, 7, MIN, MAX};
    private static final int[] TWO = {-1, 0, 1, 2, MIN, MAX};
    private static final int[] FOUR = {-1, 0, 3, 4, MIN, MAX};
    private static final int[] TEN = {-1, 0, 9, 10, MIN, MAX};
    private static final int[] CELL = {-1, 0, 1, 2, 4, 5, 23, 24, 41, 59, 60, 61, MIN, MAX};
    private static final int[] RUN = {-1, 0, 1, 3, 5, 6, 23, 24, 41, 59, 60, 61, MIN, MAX};
    private static final int[] FEW = {-1, 0, 1, 5, 59, 60, 61, MIN, MAX};
    private static final int[] NUMBER = {-1, 0, 1, 127, 128, -129, 999, 1000, 32767, 32768, -32769, MIN, MAX};
    private static final int[] LITTLE = {-1, 0, 1, 2, 3, 4, 7, 8, 9, MIN, MAX};
    private static final int[] READ = {-1, 0, 10, 99, 100, MIN, MAX};
    private static final int[] SIZE = {-1, 0, 1, 2, 999, 1000, MIN, MAX};
    private static final Map<String, int[][]> GRID = grid();

    private final int number;
    private int calls = 0;
    private Twin twin;

    private EdgeGridTest(int number) {
        this.number = number;
    }

    private static Map<String, int[][]> grid() {
        Map<String, int[][]> grid = new TreeMap<>();
        grid.put("statues", new int[][] {SHEET, LANE, CELL, RUN});
        grid.put("ofStatue", new int[][] {STATUE, WHAT});
        grid.put("look", new int[][] {STATUE, FOUR});
        grid.put("over", new int[][] {STATUE, FOUR});
        grid.put("fence", new int[][] {STATUE, {0, 1}});
        grid.put("rain", new int[][] {DAY, TEN, FOUR});
        grid.put("deer", new int[][] {TEN});
        grid.put("grains", new int[][] {STATUE, PART, DAWN});
        grid.put("lost", new int[][] {STATUE, DAWN, TWO});
        grid.put("gone", new int[][] {STATUE, PART});
        grid.put("liked", new int[][] {DAY});
        grid.put("lasts", new int[][] {WHAT});
        grid.put("umbrellas", new int[][] {FOUR, TWO});
        grid.put("turn", new int[][] {TWO});
        grid.put("roofs", new int[][] {DAWN, TWO});
        grid.put("takenFor", new int[][] {DAWN, SHEET, LANE, CELL, TWO});
        grid.put("whose", new int[][] {NUMBER, DAWN});
        grid.put("reading", new int[][] {STATUE, PART, DAWN, READ});
        grid.put("back", new int[][] {LITTLE});
        grid.put("rains", new int[][] {DAY});
        grid.put("cast", new int[][] {DAWN, SIZE});
        grid.put("sheet", new int[][] {SHEET, LANE, RUN});
        grid.put("lose", new int[][] {SHEET});
        grid.put("put", new int[][] {SHEET, CELL, NUMBER});
        grid.put("cell", new int[][] {SHEET, CELL, LANE});
        grid.put("copy", new int[][] {SHEET, FEW, SHEET, FEW, FEW});
        grid.put("tell", new int[][] {STATUE});
        grid.put("bow", new int[][] {STATUE});
        grid.put("as", new int[][] {STATUE, WHAT});
        grid.put("trace", new int[][] {});
        grid.put("fault", new int[][] {});
        grid.put("many", new int[][] {WHAT});
        return grid;
    }

    public static void main(String[] args) {
        boolean wrong = false;
        for (Method method : Calls.face(SaltSaints.class)) {
            if (!GRID.containsKey(method.getName())) {
                wrong = true;
                System.out.println("no numbers for " + method.getName());
            }
        }
        int calls = 0;
        for (int number = 0; number < 4 && !wrong; number++) {
            EdgeGridTest test = new EdgeGridTest(number);
            for (String name : GRID.keySet()) {
                test.callAll(name);
            }
            calls += test.calls;
            wrong = test.twin.isWrong();
        }
        System.out.println(wrong ? "not all calls were answered alike" : calls + " calls at their bounds answered alike");
        if (wrong) {
            System.exit(1);
        }
    }

    /** A new pair now and then, in the state that this test is of: what a call that is taken changes shall not stay. */
    private void renew() {
        twin = new Twin("state " + number);
        switch (number) {
            case 0 -> { }
            case 1 -> setRows();
            case 2 -> setStatues("s1230;b2121;m3212", 3);
            default -> setStatues("s1110;b2221;m3332;s4443;b5550;m6661;s9992", 8);
        }
    }

    private void setRows() {
        twin.call("sheet", 0, 0, 60);
        twin.call("sheet", 1, 1, 0);
        twin.call("sheet", 2, 2, 5);
        twin.call("put", 2, 0, 999);
        twin.call("put", 2, 1, MIN);
    }

    private void setStatues(String text, int readings) {
        twin.call("sheet", 0, 1, 41);
        for (int i = 0; i < text.length(); i++) {
            twin.call("put", 0, i, text.charAt(i));
        }
        twin.call("statues", 0, 1, 0, text.length());
        twin.call("sheet", 1, 1, 5);
        twin.call("put", 1, 1, 1000);
        twin.call("sheet", 2, 2, 60);
        twin.call("rain", 0, 5, 2);
        twin.call("rain", 59, 9, 0);
        twin.call("deer", 3);
        twin.call("over", 0, 1);
        twin.call("fence", 1, 1);
        for (int r = 0; r < readings; r++) {
            twin.call("reading", 0, 2, r, 10);
        }
    }

    /** All combinations, one after another in an order that is drawn with a fixed seed, so that unlike ones meet. */
    private void callAll(String name) {
        int[][] numbers = GRID.get(name);
        List<int[]> all = new ArrayList<>();
        all.add(new int[0]);
        for (int[] choices : numbers) {
            List<int[]> longer = new ArrayList<>();
            for (int[] ahead : all) {
                for (int choice : choices) {
                    int[] more = Arrays.copyOf(ahead, ahead.length + 1);
                    more[ahead.length] = choice;
                    longer.add(more);
                }
            }
            all = longer;
        }
        Collections.shuffle(all, new Random(number));
        renew();
        for (int[] of : all) {
            callOne(name, of);
            if (twin.isWrong()) {
                return;
            }
        }
        lookAtAll();
    }

    private void callOne(String name, int[] numbers) {
        twin.call(name, numbers);
        twin.call("fault");
        twin.call("trace");
        calls++;
        if (calls % 20 == 0) {
            lookAtAll();
            renew();
        }
    }

    private void lookAtAll() {
        for (int what = 0; what < 3; what++) {
            twin.call("many", what);
            twin.call("lasts", what);
        }
        twin.call("rains", 0);
        twin.call("rains", 59);
        for (int k = 0; k < 7; k++) {
            for (int what = 4; what < 7; what++) {
                twin.call("ofStatue", k, what);
            }
            twin.call("grains", k, 2, 60);
            twin.call("lost", k, 1, 0);
        }
        for (int k = 0; k < 4; k++) {
            for (int lane = 0; lane < 3; lane++) {
                for (int i : FEW) {
                    twin.call("cell", k, i, lane);
                }
            }
        }
        for (int day : DAY) {
            twin.call("rain", day, 0, 0);
        }
    }
}
