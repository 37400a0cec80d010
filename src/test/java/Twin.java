import java.util.ArrayList;
import java.util.List;

/** The class and Reference side by side: each call is made of both, and must be answered alike; 512 of them at most. */
final class Twin {
    static final int MOST_CALLS = 512;

    private final String name;
    private final SaltSaints made = new SaltSaints();
    private final Reference due = new Reference();
    private final List<String> calls = new ArrayList<>();
    private boolean wrong = false;

    Twin(String name) {
        this.name = name;
    }

    boolean isWrong() {
        return wrong;
    }

    int left() {
        return MOST_CALLS - calls.size();
    }

    /** Asked of Reference alone, to draw numbers by; no call of the run. */
    Reference asked() {
        return due;
    }

    void call(String call, int... numbers) {
        if (wrong) {
            return;
        }
        calls.add(Calls.told(call, numbers));
        Object got = Calls.answer(made, call, numbers);
        Object want = Calls.answer(due, call, numbers);
        if (!got.equals(want) || calls.size() > MOST_CALLS) {
            wrong = true;
            System.out.println(name + ", call " + calls.size() + ": " + calls + " answered " + got + ", due is " + want);
        }
    }
}
