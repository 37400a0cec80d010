import java.util.ArrayList;
import java.util.List;

/**
 * The document told once more, in another way than the class does it: rows are the machine's own arrays, faults its own
 * exceptions, kinds its own classes, plans are tried out one by one on the whole yard, and nothing is kept worked out.
 */
public final class Reference {
    public static final int UNKNOWN = -1, OUTSIDE = -2, STATE = -3, FULL = -4, NONE = -9;
    public static final long LOST = Long.MIN_VALUE;

    private static final class Refused extends RuntimeException {
        private static final long serialVersionUID = 1;
        private final int answer;

        private Refused(int answer) {
            super(null, null, false, false);
            this.answer = answer;
        }
    }

    private interface Bowed {
        default int greet(Reference at, int number) {
            at.leave(4);
            return number;
        }
    }

    private static class Saint implements Bowed {
        private final int[] first = new int[3];
        private int to;
        private int cover;
        private boolean fenced;

        int number() {
            return 0;
        }

        int story(Reference at) {
            at.leave(1);
            return first[0];
        }

        int rained(int amount) {
            return amount;
        }

        boolean tempts(int body) {
            return body >= 1;
        }
    }

    private static class Bishop extends Saint {
        @Override
        int number() {
            return 1;
        }

        @Override
        int story(Reference at) {
            at.leave(2);
            return super.story(at) + 100;
        }

        int saintly(Reference at) {
            return super.story(at);
        }

        @Override
        boolean tempts(int body) {
            return body > super.first[2] / 2;
        }
    }

    private static final class Martyr extends Bishop {
        @Override
        int number() {
            return 2;
        }

        @Override
        int story(Reference at) {
            at.leave(3);
            return super.story(at) + saintly(at);
        }

        @Override
        int rained(int amount) {
            return amount / 2;
        }

        @Override
        public int greet(Reference at, int number) {
            at.leave(5);
            return 70;
        }
    }

    private record Reading(int k, int part, int dawn, int v) { }

    /** All that comes of the days: by dawn and statue the three parts, the puddle, the tongues; by day whom the first deer took. */
    private static final class Story {
        private final int[][][] parts = new int[61][][];
        private final int[][] puddle = new int[61][];
        private final int[][] tongue = new int[61][];
        private final int[] liked = new int[60];
    }

    private List<Saint> yard = new ArrayList<>();
    private int[] rainOf = new int[60];
    private int[] windOf = new int[60];
    private int herd;
    private List<Reading> told = new ArrayList<>();
    private final Object[] rows = new Object[4];
    private int trace;
    private int fault;

    public Reference() { }

    // ---- refusals and faults

    private interface Body {
        int answer();
    }

    private static int answer(Body body) {
        try {
            return body.answer();
        } catch (Refused no) {
            return no.answer;
        }
    }

    /** For the calls that name FAULTS: the machine throws them. */
    private int faulting(Body body) {
        fault = 0;
        try {
            return answer(body);
        } catch (NullPointerException e) {
            fault = 1;
        } catch (ClassCastException | ArrayStoreException e) {
            fault = 2;
        } catch (IndexOutOfBoundsException e) {
            fault = 3;
        } catch (NegativeArraySizeException e) {
            fault = 4;
        }
        return -10 - fault;
    }

    private static void refuseIf(boolean bad, int answer) {
        if (bad) {
            throw new Refused(answer);
        }
    }

    private static void within(int number, int least, int most, int answer) {
        refuseIf(number < least || number > most, answer);
    }

    private Saint known(int k) {
        within(k, 0, yard.size() - 1, UNKNOWN);
        return yard.get(k);
    }

    private void settled() {
        refuseIf(yard.isEmpty(), STATE);
    }

    // ---- rows

    private static int[] widened(Object row, int lane) {
        switch (lane) {
            case 0: {
                byte[] cells = (byte[]) row;
                int[] wide = new int[cells.length];
                for (int i = 0; i < wide.length; i++) {
                    wide[i] = cells[i];
                }
                return wide;
            }
            case 1: {
                short[] cells = (short[]) row;
                int[] wide = new int[cells.length];
                for (int i = 0; i < wide.length; i++) {
                    wide[i] = cells[i];
                }
                return wide;
            }
            default:
                return ((int[]) row).clone();
        }
    }

    private static int[] run(int[] row, int i, int n) {
        // no more than there can be: the machine would run out of room ahead of its INDEX
        int[] made = new int[Math.min(n, 100)];
        System.arraycopy(row, i, made, 0, n);
        return made;
    }

    // ---- the days

    private Story story() {
        Story story = new Story();
        int n = yard.size();
        int[][] parts = new int[n][];
        int[] puddle = new int[n];
        int[] tongue = new int[n];
        for (int k = 0; k < n; k++) {
            parts[k] = yard.get(k).first.clone();
        }
        for (int dawn = 0; dawn <= 60; dawn++) {
            story.parts[dawn] = new int[n][];
            for (int k = 0; k < n; k++) {
                story.parts[dawn][k] = parts[k].clone();
            }
            story.puddle[dawn] = puddle.clone();
            story.tongue[dawn] = tongue.clone();
            if (dawn < 60) {
                rainOn(dawn, parts, puddle);
                story.liked[dawn] = deerCome(parts, tongue);
            }
        }
        return story;
    }

    private void rainOn(int day, int[][] parts, int[] puddle) {
        for (int k = 0; k < parts.length; k++) {
            Saint s = yard.get(k);
            int[] falls = {windOf[day] == s.to ? rainOf[day] * 3 : rainOf[day], rainOf[day] * 2, rainOf[day]};
            for (int p = 0; p < 3; p++) {
                int falling = s.rained(falls[p]);
                falling = s.cover == 2 ? 0 : s.cover == 1 ? falling / 2 : falling;
                for (int g = 0; g < falling && parts[k][p] > 0; g++) {
                    parts[k][p]--;
                    puddle[k]++;
                }
            }
        }
    }

    private int deerCome(int[][] parts, int[] tongue) {
        int firstOne = NONE;
        for (int d = 0; d < herd; d++) {
            int favourite = NONE;
            for (int k = parts.length - 1; k >= 0; k--) {
                Saint s = yard.get(k);
                if (!s.fenced && s.tempts(parts[k][2]) && (favourite == NONE || parts[k][2] >= parts[favourite][2])) {
                    favourite = k;
                }
            }
            if (d == 0) {
                firstOne = favourite;
            }
            if (favourite != NONE) {
                int licks = parts[favourite][2] == 1 ? 1 : 2;
                parts[favourite][2] -= licks;
                tongue[favourite] += licks;
            }
        }
        return firstOne;
    }

    private static int firstGone(Story story, int k, int part) {
        for (int dawn = 0; dawn <= 60; dawn++) {
            int[] at = story.parts[dawn][k];
            int left = part == 3 ? at[0] + at[1] + at[2] : at[part];
            if (left == 0) {
                return dawn;
            }
        }
        return 61;
    }

    private int noses(int dawn) {
        int standing = 0;
        for (int[] parts : story().parts[dawn]) {
            standing += parts[0] > 0 ? 1 : 0;
        }
        return standing;
    }

    private int[] covers() {
        int[] covers = new int[yard.size()];
        for (int k = 0; k < covers.length; k++) {
            covers[k] = yard.get(k).cover;
        }
        return covers;
    }

    private void coverAll(int[] covers) {
        for (int k = 0; k < covers.length; k++) {
            yard.get(k).cover = covers[k];
        }
    }

    private void leave(int number) {
        trace = trace * 31 + number;
    }

    // ---- 1 statues

    /** The least place with which no TEXT goes on, found with a pattern that says what a TEXT may start with. */
    private static int faultIn(String text) {
        String one = "[sbm][1-9][1-9][1-9][0-3]";
        String start = "([sbm]([1-9]([1-9]([1-9]([0-3])?)?)?)?)?";
        String begun = "(" + one + ";){0,6}" + start;
        for (int end = 1; end <= text.length(); end++) {
            if (!text.substring(0, end).matches(begun)) {
                return end - 1;
            }
        }
        return text.matches("(" + one + ";){0,6}" + one) ? -1 : text.length();
    }

    public int statues(int sheet, int lane, int i, int n) {
        return faulting(() -> {
            within(sheet, 0, 3, UNKNOWN);
            within(lane, 0, 2, OUTSIDE);
            int[] codes = run(widened(rows[sheet], lane), i, n);
            StringBuilder text = new StringBuilder();
            for (int code : codes) {
                text.append(code > 0 && code < 128 ? (char) code : '?');
            }
            int wrong = faultIn(text.toString());
            refuseIf(wrong >= 0, -100 - wrong);
            carve(text.toString().split(";"));
            return yard.size();
        });
    }

    private void carve(String[] texts) {
        yard = new ArrayList<>();
        for (String one : texts) {
            char letter = one.charAt(0);
            Saint s = letter == 's' ? new Saint() : letter == 'b' ? new Bishop() : new Martyr();
            for (int p = 0; p < 3; p++) {
                s.first[p] = Integer.parseInt(one.substring(1 + p, 2 + p) + "0");
            }
            s.to = Integer.parseInt(one.substring(4));
            yard.add(s);
        }
        rainOf = new int[60];
        windOf = new int[60];
        herd = 0;
        told = new ArrayList<>();
    }

    public int ofStatue(int k, int what) {
        return answer(() -> {
            Saint s = known(k);
            within(what, 0, 6, OUTSIDE);
            return new int[] {s.first[0], s.first[1], s.first[2], s.number(), s.to, s.cover, s.fenced ? 1 : 0}[what];
        });
    }

    public int look(int k, int to) {
        return answer(() -> {
            Saint s = known(k);
            within(to, 0, 3, OUTSIDE);
            int was = s.to;
            s.to = to;
            return was;
        });
    }

    public int over(int k, int what) {
        return answer(() -> {
            Saint s = known(k);
            within(what, 0, 2, OUTSIDE);
            int was = s.cover;
            s.cover = what;
            return was;
        });
    }

    public int fence(int k, boolean is) {
        return answer(() -> {
            Saint s = known(k);
            boolean was = s.fenced;
            s.fenced = is;
            return was != is ? 1 : 0;
        });
    }

    // ---- 2 days

    public int rain(int day, int rain, int wind) {
        return answer(() -> {
            within(day, 0, 59, OUTSIDE);
            within(rain, 0, 9, OUTSIDE);
            within(wind, 0, 3, OUTSIDE);
            settled();
            int was = rainOf[day] * 10 + windOf[day];
            rainOf[day] = rain;
            windOf[day] = wind;
            return was;
        });
    }

    public int deer(int n) {
        return answer(() -> {
            within(n, 0, 9, OUTSIDE);
            settled();
            int was = herd;
            herd = n;
            return was;
        });
    }

    public int grains(int k, int part, int dawn) {
        return answer(() -> {
            known(k);
            within(part, 0, 2, UNKNOWN);
            within(dawn, 0, 60, OUTSIDE);
            return story().parts[dawn][k][part];
        });
    }

    public int lost(int k, int dawn, int what) {
        return answer(() -> {
            known(k);
            within(dawn, 0, 60, OUTSIDE);
            within(what, 0, 1, OUTSIDE);
            return what == 0 ? story().puddle[dawn][k] : story().tongue[dawn][k];
        });
    }

    public int gone(int k, int part) {
        return answer(() -> {
            known(k);
            within(part, 0, 3, UNKNOWN);
            int dawn = firstGone(story(), k, part);
            return dawn == 61 ? NONE : dawn;
        });
    }

    public int liked(int day) {
        return answer(() -> {
            within(day, 0, 59, OUTSIDE);
            settled();
            return story().liked[day];
        });
    }

    public long lasts(int what) {
        if (what < 0 || what > 2 || yard.isEmpty()) {
            return LOST;
        }
        Story story = story();
        if (what == 0) {
            int longest = yard.size() - 1;
            for (int k = longest; k >= 0; k--) {
                longest = firstGone(story, k, 3) >= firstGone(story, longest, 3) ? k : longest;
            }
            return longest;
        }
        int left = 0;
        int all = 0;
        for (int k = 0; k < yard.size(); k++) {
            for (int p = 0; p < 3; p++) {
                left += story.parts[60][k][p];
                all += story.parts[0][k][p];
            }
        }
        for (int by = all; by > 1; by--) {
            if (left % by == 0 && all % by == 0) {
                left /= by;
                all /= by;
            }
        }
        return what == 1 ? left : all;
    }

    // ---- 3 plans

    public int umbrellas(int u, int what) {
        return answer(() -> {
            within(u, 0, 3, OUTSIDE);
            within(what, 0, 1, OUTSIDE);
            settled();
            int[] before = covers();
            int best = NONE;
            int most = NONE;
            for (int set = (1 << yard.size()) - 1; set >= 0; set--) {
                if (Integer.bitCount(set) == Math.min(u, yard.size())) {
                    int[] tried = new int[yard.size()];
                    for (int k = 0; k < tried.length; k++) {
                        tried[k] = set >> k & 1;
                    }
                    coverAll(tried);
                    int standing = noses(60);
                    if (standing >= most) {
                        best = set;
                        most = standing;
                    }
                }
            }
            coverAll(before);
            return what == 0 ? best : most;
        });
    }

    public int turn(int what) {
        return answer(() -> {
            within(what, 0, 1, OUTSIDE);
            settled();
            int best = NONE;
            int latest = NONE;
            for (int k = yard.size() - 1; k >= 0; k--) {
                int before = yard.get(k).to;
                for (int to = 3; to >= 0; to--) {
                    yard.get(k).to = to;
                    Story story = story();
                    int dawn = 61;
                    for (int j = 0; j < yard.size(); j++) {
                        dawn = Math.min(dawn, firstGone(story, j, 0));
                    }
                    if (dawn >= latest) {
                        best = 10 * k + to;
                        latest = dawn;
                    }
                }
                yard.get(k).to = before;
            }
            return what == 0 ? best : latest;
        });
    }

    public int roofs(int dawn, int what) {
        return answer(() -> {
            within(dawn, 0, 60, OUTSIDE);
            within(what, 0, 1, OUTSIDE);
            settled();
            int[] before = covers();
            int found = NONE;
            for (int many = 0; many <= yard.size() && found == NONE; many++) {
                for (int set = 0; set < 1 << yard.size() && found == NONE; set++) {
                    if (Integer.bitCount(set) == many) {
                        int[] tried = before.clone();
                        for (int k = 0; k < tried.length; k++) {
                            tried[k] = (set >> k & 1) == 1 ? 2 : tried[k];
                        }
                        coverAll(tried);
                        found = noses(dawn) == yard.size() ? set : NONE;
                    }
                }
            }
            coverAll(before);
            return found == NONE || what == 0 ? found : Integer.bitCount(found);
        });
    }

    // ---- 4 pilgrims, puddles

    public int takenFor(int dawn, int sheet, int lane, int i, int what) {
        return faulting(() -> {
            within(sheet, 0, 3, UNKNOWN);
            within(dawn, 0, 60, OUTSIDE);
            within(what, 0, 1, OUTSIDE);
            within(lane, 0, 2, OUTSIDE);
            int[] three = run(widened(rows[sheet], lane), i, 3);
            settled();
            for (int number : three) {
                within(number, 0, 999, OUTSIDE);
            }
            int[][] parts = story().parts[dawn];
            int best = NONE;
            int least = Integer.MAX_VALUE;
            for (int k = parts.length - 1; k >= 0; k--) {
                int apart = 0;
                for (int p = 0; p < 3; p++) {
                    apart += three[p] > parts[k][p] ? three[p] - parts[k][p] : parts[k][p] - three[p];
                }
                if (apart <= least) {
                    best = k;
                    least = apart;
                }
            }
            return what == 0 ? best : least;
        });
    }

    public int whose(int v, int dawn) {
        return answer(() -> {
            within(dawn, 0, 60, OUTSIDE);
            int[] puddle = story().puddle[dawn];
            int set = 0;
            for (int k = 0; k < puddle.length; k++) {
                set += puddle[k] == v ? (int) Math.pow(2, k) : 0;
            }
            return set;
        });
    }

    public int reading(int k, int part, int dawn, int v) {
        return answer(() -> {
            known(k);
            within(part, 0, 2, UNKNOWN);
            within(dawn, 0, 60, OUTSIDE);
            within(v, 0, 99, OUTSIDE);
            refuseIf(told.size() >= 8, FULL);
            told.add(new Reading(k, part, dawn, v));
            return told.size() - 1;
        });
    }

    public int back(int k) {
        return answer(() -> {
            within(k, 0, told.size(), OUTSIDE);
            told = new ArrayList<>(told.subList(0, told.size() - k));
            return told.size();
        });
    }

    public int rains(int day) {
        return answer(() -> {
            within(day, 0, 59, OUTSIDE);
            settled();
            int before = rainOf[day];
            int set = 0;
            for (int rain = 0; rain < 10; rain++) {
                rainOf[day] = rain;
                Story story = story();
                boolean so = told.stream().allMatch(r -> story.parts[r.dawn][r.k][r.part] == r.v);
                set += so ? 1 << rain : 0;
            }
            rainOf[day] = before;
            return set;
        });
    }

    public int cast(int dawn, int size) {
        return answer(() -> {
            within(dawn, 0, 60, OUTSIDE);
            within(size, 1, 999, OUTSIDE);
            int all = 0;
            for (int puddle : story().puddle[dawn]) {
                all += puddle;
            }
            int brine = (int) Math.floor(all * 9 / 10.0);
            int made = 0;
            while (brine >= size) {
                brine -= size;
                made++;
            }
            return made;
        });
    }

    // ---- 5 sheets, parts

    public int sheet(int k, int lane, int n) {
        return faulting(() -> {
            within(k, 0, 3, UNKNOWN);
            within(lane, 0, 2, OUTSIDE);
            refuseIf(n > 60, OUTSIDE);
            rows[k] = lane == 0 ? new byte[n] : lane == 1 ? (Object) new short[n] : new int[n];
            return 1;
        });
    }

    public int lose(int k) {
        return answer(() -> {
            within(k, 0, 3, UNKNOWN);
            int had = rows[k] != null ? 1 : 0;
            rows[k] = null;
            return had;
        });
    }

    public int put(int k, int i, int v) {
        return faulting(() -> {
            within(k, 0, 3, UNKNOWN);
            if (rows[k] instanceof byte[] bytes) {
                bytes[i] = (byte) v;
            } else if (rows[k] instanceof short[] shorts) {
                shorts[i] = (short) v;
            } else {
                ((int[]) rows[k])[i] = v;
            }
            return 1;
        });
    }

    public long cell(int k, int i, int lane) {
        int[] got = new int[1];
        int answer = faulting(() -> {
            within(k, 0, 3, UNKNOWN);
            within(lane, 0, 2, OUTSIDE);
            got[0] = widened(rows[k], lane)[i];
            return 1;
        });
        return answer == 1 ? got[0] : LOST;
    }

    public int copy(int k, int i, int other, int j, int n) {
        return faulting(() -> {
            within(k, 0, 3, UNKNOWN);
            within(other, 0, 3, UNKNOWN);
            System.arraycopy(rows[k], i, rows[other], j, n);
            return n;
        });
    }

    public int tell(int k) {
        return answer(() -> known(k).story(this));
    }

    public int bow(int k) {
        return answer(() -> known(k).greet(this, k));
    }

    public int as(int k, int kind) {
        return faulting(() -> {
            Saint s = known(k);
            within(kind, 0, 2, OUTSIDE);
            Saint taken = kind == 0 ? s : kind == 1 ? (Bishop) s : (Martyr) s;
            return taken == s ? 1 : 0;
        });
    }

    public int trace() {
        return trace;
    }

    public int fault() {
        return fault;
    }

    public int many(int what) {
        return answer(() -> {
            within(what, 0, 2, OUTSIDE);
            return new int[] {yard.size(), herd, told.size()}[what];
        });
    }
}
