/**
 * Salt saints: statues of rock salt out of doors, told in a text, and what rain, wind and deer leave of them.
 * README.md tells how it is used; each answer is a promise of DOC.md.
 */
public final class SaltSaints {
    public static final int UNKNOWN = -1, OUTSIDE = -2, STATE = -3, FULL = -4, NONE = -9;
    public static final long LOST = Long.MIN_VALUE;

    private static final int NULL = 1, CAST = 2, INDEX = 3, SIZE = 4;
    private static final int NOSE = 0, HEAD = 1, BODY = 2, PARTS = 3;
    private static final int SAINT = 0, BISHOP = 1, MARTYR = 2, KINDS = 3;
    private static final int UNCOVERED = 0, UMBRELLA = 1, ROOF = 2, COVERS = 3;
    private static final int LANES = 3, SHEETS = 4, LONGEST_ROW = 60;
    private static final int MOST_STATUES = 7, WINDS = 4, DAYS = 60, NEVER = 61;
    private static final int MOST_RAIN = 9, MOST_DEER = 9, MOST_UMBRELLAS = 3, MOST_READINGS = 8;

    private final Sheet[] sheets;
    private final Yard yard;
    private final Readings readings;
    private int trace;
    private int fault;

    public SaltSaints() {
        sheets = new Sheet[SHEETS];
        for (int k = 0; k < SHEETS; k++) {
            sheets[k] = new Sheet();
        }
        yard = new Yard();
        readings = new Readings();
        trace = 0;
        fault = 0;
    }

    // ---- 1 statues

    public int statues(int sheet, int lane, int i, int n) {
        fault = 0;
        if (!isSheet(sheet)) {
            return UNKNOWN;
        }
        if (!isLane(lane)) {
            return OUTSIDE;
        }
        Sheet row = sheets[sheet];
        int met = row.faultAs(lane);
        if (met == 0 && n < 0) {
            met = SIZE;
        }
        if (met == 0 && !row.hasRun(i, n)) {
            met = INDEX;
        }
        if (met != 0) {
            return faulty(met);
        }
        int wrong = Text.firstFault(row, i, n);
        if (wrong != Text.TAKEN) {
            return -100 - wrong;
        }
        yard.settle(row, i, n);
        readings.keep(0);
        return yard.many;
    }

    public int ofStatue(int k, int what) {
        if (!isStatue(k)) {
            return UNKNOWN;
        }
        Statue statue = yard.statues[k];
        switch (what) {
            case 0:
            case 1:
            case 2:
                return statue.first[what];
            case 3:
                return statue.kind;
            case 4:
                return statue.looks;
            case 5:
                return statue.cover;
            case 6:
                return statue.fenced ? 1 : 0;
            default:
                return OUTSIDE;
        }
    }

    public int look(int k, int to) {
        if (!isStatue(k)) {
            return UNKNOWN;
        }
        if (!isBelow(to, WINDS)) {
            return OUTSIDE;
        }
        Statue statue = yard.statues[k];
        int was = statue.looks;
        statue.looks = to;
        yard.forgetFrom(0);
        return was;
    }

    public int over(int k, int what) {
        if (!isStatue(k)) {
            return UNKNOWN;
        }
        if (!isBelow(what, COVERS)) {
            return OUTSIDE;
        }
        Statue statue = yard.statues[k];
        int was = statue.cover;
        statue.cover = what;
        yard.forgetFrom(0);
        return was;
    }

    public int fence(int k, boolean is) {
        if (!isStatue(k)) {
            return UNKNOWN;
        }
        Statue statue = yard.statues[k];
        if (statue.fenced == is) {
            return 0;
        }
        statue.fenced = is;
        yard.forgetFrom(0);
        return 1;
    }

    // ---- 2 days

    public int rain(int day, int rain, int wind) {
        if (!isBelow(day, DAYS) || !isBelow(rain, MOST_RAIN + 1) || !isBelow(wind, WINDS)) {
            return OUTSIDE;
        }
        if (yard.many == 0) {
            return STATE;
        }
        int was = 10 * yard.rains[day] + yard.winds[day];
        yard.letRain(day, rain);
        yard.winds[day] = wind;
        return was;
    }

    public int deer(int n) {
        if (!isBelow(n, MOST_DEER + 1)) {
            return OUTSIDE;
        }
        if (yard.many == 0) {
            return STATE;
        }
        int were = yard.herd;
        yard.herd = n;
        yard.forgetFrom(0);
        return were;
    }

    public int grains(int k, int part, int dawn) {
        if (!isStatue(k) || !isBelow(part, PARTS)) {
            return UNKNOWN;
        }
        if (!isDawn(dawn)) {
            return OUTSIDE;
        }
        return yard.leftOfPart(k, part, dawn);
    }

    public int lost(int k, int dawn, int what) {
        if (!isStatue(k)) {
            return UNKNOWN;
        }
        if (!isDawn(dawn) || !isBelow(what, 2)) {
            return OUTSIDE;
        }
        return what == 0 ? yard.inPuddle(k, dawn) : yard.lickedOff(k, dawn);
    }

    public int gone(int k, int part) {
        if (!isStatue(k) || !isBelow(part, PARTS + 1)) {
            return UNKNOWN;
        }
        int dawn = part < PARTS ? yard.dawnWithoutPart(k, part) : yard.dawnWithoutAny(k);
        return dawn == NEVER ? NONE : dawn;
    }

    public int liked(int day) {
        if (!isBelow(day, DAYS)) {
            return OUTSIDE;
        }
        if (yard.many == 0) {
            return STATE;
        }
        return yard.likedFirst(day);
    }

    public long lasts(int what) {
        if (!isBelow(what, 3) || yard.many == 0) {
            return LOST;
        }
        if (what == 0) {
            return yard.longestLasting();
        }
        int left = yard.leftOfAll(DAYS);
        int all = yard.leftOfAll(0);
        int common = commonDivisor(all, left);
        if (common < 1) {
            return LOST;
        }
        return what == 1 ? left / common : all / common;
    }

    // ---- 3 plans

    public int umbrellas(int u, int what) {
        if (!isBelow(u, MOST_UMBRELLAS + 1) || !isBelow(what, 2)) {
            return OUTSIDE;
        }
        if (yard.many == 0) {
            return STATE;
        }
        return Plans.giveUmbrellas(yard, u, what);
    }

    public int turn(int what) {
        if (!isBelow(what, 2)) {
            return OUTSIDE;
        }
        if (yard.many == 0) {
            return STATE;
        }
        return Plans.turnOne(yard, what);
    }

    public int roofs(int dawn, int what) {
        if (!isDawn(dawn) || !isBelow(what, 2)) {
            return OUTSIDE;
        }
        if (yard.many == 0) {
            return STATE;
        }
        int set = Plans.nosesGone(yard, dawn);
        return what == 0 ? set : Integer.bitCount(set);
    }

    // ---- 4 pilgrims, puddles

    public int takenFor(int dawn, int sheet, int lane, int i, int what) {
        fault = 0;
        if (!isSheet(sheet)) {
            return UNKNOWN;
        }
        if (!isDawn(dawn) || !isBelow(what, 2) || !isLane(lane)) {
            return OUTSIDE;
        }
        Sheet row = sheets[sheet];
        int met = row.faultAs(lane);
        if (met == 0 && !row.hasRun(i, PARTS)) {
            met = INDEX;
        }
        if (met != 0) {
            return faulty(met);
        }
        if (yard.many == 0) {
            return STATE;
        }
        for (int part = 0; part < PARTS; part++) {
            if (!isBelow(row.cells[i + part], 1000)) {
                return OUTSIDE;
            }
        }
        int statue = yard.nearest(row, i, dawn);
        return what == 0 ? statue : yard.apart(statue, row, i, dawn);
    }

    public int whose(int v, int dawn) {
        if (!isDawn(dawn)) {
            return OUTSIDE;
        }
        int set = 0;
        for (int k = 0; k < yard.many; k++) {
            if (yard.inPuddle(k, dawn) == v) {
                set |= 1 << k;
            }
        }
        return set;
    }

    public int reading(int k, int part, int dawn, int v) {
        if (!isStatue(k) || !isBelow(part, PARTS)) {
            return UNKNOWN;
        }
        if (!isDawn(dawn) || !isBelow(v, 100)) {
            return OUTSIDE;
        }
        if (readings.many >= MOST_READINGS) {
            return FULL;
        }
        return readings.note(k, part, dawn, v);
    }

    public int back(int k) {
        if (!isBelow(k, readings.many + 1)) {
            return OUTSIDE;
        }
        readings.keep(readings.many - k);
        return readings.many;
    }

    public int rains(int day) {
        if (!isBelow(day, DAYS)) {
            return OUTSIDE;
        }
        if (yard.many == 0) {
            return STATE;
        }
        int was = yard.rains[day];
        int set = 0;
        for (int rain = 0; rain <= MOST_RAIN; rain++) {
            yard.letRain(day, rain);
            if (readings.allHold(yard)) {
                set |= 1 << rain;
            }
        }
        yard.letRain(day, was);
        return set;
    }

    public int cast(int dawn, int size) {
        if (!isDawn(dawn) || size < 1 || size > 999) {
            return OUTSIDE;
        }
        int brine = 0;
        for (int k = 0; k < yard.many; k++) {
            brine += yard.inPuddle(k, dawn);
        }
        return brine * 9 / 10 / size;
    }

    // ---- 5 sheets, parts

    public int sheet(int k, int lane, int n) {
        fault = 0;
        if (!isSheet(k)) {
            return UNKNOWN;
        }
        if (!isLane(lane) || n > LONGEST_ROW) {
            return OUTSIDE;
        }
        if (n < 0) {
            return faulty(SIZE);
        }
        sheets[k].renew(lane, n);
        return 1;
    }

    public int lose(int k) {
        if (!isSheet(k)) {
            return UNKNOWN;
        }
        int had = sheets[k].has ? 1 : 0;
        sheets[k].has = false;
        return had;
    }

    public int put(int k, int i, int v) {
        fault = 0;
        if (!isSheet(k)) {
            return UNKNOWN;
        }
        Sheet row = sheets[k];
        if (!row.has) {
            return faulty(NULL);
        }
        if (!row.hasRun(i, 1)) {
            return faulty(INDEX);
        }
        row.cells[i] = row.cut(v);
        return 1;
    }

    public long cell(int k, int i, int lane) {
        fault = 0;
        if (!isSheet(k) || !isLane(lane)) {
            return LOST;
        }
        Sheet row = sheets[k];
        int met = row.faultAs(lane);
        if (met == 0 && !row.hasRun(i, 1)) {
            met = INDEX;
        }
        if (met != 0) {
            fault = met;
            return LOST;
        }
        return row.cells[i];
    }

    public int copy(int k, int i, int other, int j, int n) {
        fault = 0;
        if (!isSheet(k) || !isSheet(other)) {
            return UNKNOWN;
        }
        Sheet from = sheets[k];
        Sheet to = sheets[other];
        if (!from.has || !to.has) {
            return faulty(NULL);
        }
        if (from.lane != to.lane) {
            return faulty(CAST);
        }
        if (!from.hasRun(i, n) || !to.hasRun(j, n)) {
            return faulty(INDEX);
        }
        System.arraycopy(from.cells, i, to.cells, j, n);
        return n;
    }

    public int tell(int k) {
        if (!isStatue(k)) {
            return UNKNOWN;
        }
        Statue statue = yard.statues[k];
        switch (statue.kind) {
            case MARTYR:
                return martyrTells(statue);
            case BISHOP:
                return bishopTells(statue);
            default:
                return saintTells(statue);
        }
    }

    public int bow(int k) {
        if (!isStatue(k)) {
            return UNKNOWN;
        }
        if (yard.statues[k].kind == MARTYR) {
            leave(5);
            return 70;
        }
        leave(4);
        return k;
    }

    public int as(int k, int kind) {
        fault = 0;
        if (!isStatue(k)) {
            return UNKNOWN;
        }
        if (!isBelow(kind, KINDS)) {
            return OUTSIDE;
        }
        // a MARTYR is a BISHOP, a BISHOP a SAINT: who is of a kind is of every lower one
        if (yard.statues[k].kind < kind) {
            return faulty(CAST);
        }
        return 1;
    }

    public int trace() {
        return trace;
    }

    public int fault() {
        return fault;
    }

    public int many(int what) {
        switch (what) {
            case 0:
                return yard.many;
            case 1:
                return yard.herd;
            case 2:
                return readings.many;
            default:
                return OUTSIDE;
        }
    }

    // ---- what the calls share

    private static boolean isBelow(int number, int bound) {
        return number >= 0 && number < bound;
    }

    private static boolean isSheet(int k) {
        return isBelow(k, SHEETS);
    }

    private static boolean isLane(int lane) {
        return isBelow(lane, LANES);
    }

    private static boolean isDawn(int dawn) {
        return isBelow(dawn, DAYS + 1);
    }

    private boolean isStatue(int k) {
        return isBelow(k, yard.many);
    }

    private int faulty(int met) {
        fault = met;
        return -10 - met;
    }

    private void leave(int body) {
        trace = 31 * trace + body;
    }

    private int saintTells(Statue statue) {
        leave(1);
        return statue.first[NOSE];
    }

    private int bishopTells(Statue statue) {
        leave(2);
        return saintTells(statue) + 100;
    }

    private int martyrTells(Statue statue) {
        leave(3);
        int asBishop = bishopTells(statue);
        return asBishop + saintTells(statue);
    }

    private static int commonDivisor(int one, int other) {
        int a = one;
        int b = other;
        // Euclid's rest halves every two steps: an int takes fewer than a hundred
        for (int step = 0; step < 100 && b != 0; step++) {
            int rest = a % b;
            a = b;
            b = rest;
        }
        return a;
    }

    /** A row of numbers of a LANE, or nothing; one array serves for all rows, so that a call makes none. */
    private static final class Sheet {
        private final int[] cells;
        private boolean has;
        private int lane;
        private int many;

        private Sheet() {
            cells = new int[LONGEST_ROW];
            has = false;
            lane = 0;
            many = 0;
        }

        private void renew(int newLane, int length) {
            has = true;
            lane = newLane;
            many = length;
            for (int i = 0; i < LONGEST_ROW; i++) {
                cells[i] = 0;
            }
        }

        /** The FAULT of taking this as a row of a LANE: nothing is NULL, not CAST. */
        private int faultAs(int wanted) {
            if (!has) {
                return NULL;
            }
            return lane == wanted ? 0 : CAST;
        }

        private boolean hasRun(int i, int n) {
            // n against many - i: the sum of i and n might wrap
            return i >= 0 && i <= many && n >= 0 && n <= many - i;
        }

        private int cut(int v) {
            if (lane == 0) {
                return (byte) v;
            }
            return lane == 1 ? (short) v : v;
        }
    }

    /** The TEXT that tells STATUES: five codes each, with ; between. */
    private static final class Text {
        private static final int TAKEN = -1, STEP = 6, LONGEST = STEP * MOST_STATUES - 1;

        private static int firstFault(Sheet row, int i, int n) {
            for (int place = 0; place < n; place++) {
                if (!goesOn(place, row.cells[i + place])) {
                    return place;
                }
            }
            return isWhole(n) ? TAKEN : n;
        }

        private static boolean goesOn(int place, int code) {
            switch (place % STEP) {
                case 0:
                    return kindOf(code) != NONE;
                case 1:
                case 2:
                case 3:
                    return code >= '1' && code <= '9';
                case 4:
                    return code >= '0' && code <= '3';
                default:
                    return code == ';' && place < LONGEST;
            }
        }

        private static boolean isWhole(int n) {
            return n % STEP == STEP - 1;
        }

        private static int kindOf(int code) {
            switch (code) {
                case 's':
                    return SAINT;
                case 'b':
                    return BISHOP;
                case 'm':
                    return MARTYR;
                default:
                    return NONE;
            }
        }
    }

    /** One STATUE as it was at first, and how it stands. */
    private static final class Statue {
        private final int[] first;
        private int kind;
        private int looks;
        private int cover;
        private boolean fenced;

        private Statue() {
            first = new int[PARTS];
            kind = SAINT;
            looks = 0;
            cover = UNCOVERED;
            fenced = false;
        }

        private void carve(Sheet row, int at) {
            kind = Text.kindOf(row.cells[at]);
            for (int part = 0; part < PARTS; part++) {
                first[part] = 10 * (row.cells[at + 1 + part] - '0');
            }
            looks = row.cells[at + 1 + PARTS] - '0';
            cover = UNCOVERED;
            fenced = false;
        }

        private int allAtFirst() {
            return first[NOSE] + first[HEAD] + first[BODY];
        }

        /** What RAIN takes of a PART, if it has that much, did the STATUE LOOK there under that cover. */
        private int washedOff(int part, int rain, int wind, int looking, int covered) {
            int amount = rain;
            if (part == NOSE && wind == looking) {
                amount = 3 * rain;
            }
            if (part == HEAD) {
                amount = 2 * rain;
            }
            if (kind == MARTYR) {
                amount /= 2;
            }
            if (covered == UMBRELLA) {
                amount /= 2;
            }
            return covered == ROOF ? 0 : amount;
        }

        private boolean lickable(int body) {
            if (fenced) {
                return false;
            }
            if (kind == SAINT) {
                return body > 0;
            }
            return 2 * body > first[BODY];
        }
    }

    /** The STATUES out of doors, and what is left of them DAWN by DAWN as far as it has been worked out. */
    private static final class Yard {
        private static final int ROW = MOST_STATUES * PARTS;

        private final Statue[] statues;
        private final int[] rains;
        private final int[] winds;
        private final int[] left;
        private final int[] licked;
        private final int[] liked;
        private int many;
        private int herd;
        private int known;

        private Yard() {
            statues = new Statue[MOST_STATUES];
            for (int k = 0; k < MOST_STATUES; k++) {
                statues[k] = new Statue();
            }
            rains = new int[DAYS];
            winds = new int[DAYS];
            left = new int[(DAYS + 1) * ROW];
            licked = new int[(DAYS + 1) * MOST_STATUES];
            liked = new int[DAYS];
            many = 0;
            herd = 0;
            known = 0;
        }

        private void settle(Sheet row, int i, int n) {
            many = (n + 1) / Text.STEP;
            for (int k = 0; k < many; k++) {
                statues[k].carve(row, i + Text.STEP * k);
                System.arraycopy(statues[k].first, 0, left, PARTS * k, PARTS);
            }
            for (int day = 0; day < DAYS; day++) {
                rains[day] = 0;
                winds[day] = 0;
            }
            herd = 0;
            known = 0;
        }

        /** What comes of a DAY and the later ones is to be worked out again; DAWN 0 always stands. */
        private void forgetFrom(int day) {
            known = Math.min(known, day);
        }

        private void letRain(int day, int rain) {
            rains[day] = rain;
            forgetFrom(day);
        }

        private void workOut(int dawn) {
            for (int day = known; day < dawn; day++) {
                System.arraycopy(left, day * ROW, left, (day + 1) * ROW, ROW);
                System.arraycopy(licked, day * MOST_STATUES, licked, (day + 1) * MOST_STATUES, MOST_STATUES);
                pour(day);
                graze(day);
            }
            known = Math.max(known, dawn);
        }

        private void pour(int day) {
            if (rains[day] == 0) {
                return;
            }
            for (int k = 0; k < many; k++) {
                Statue statue = statues[k];
                for (int part = 0; part < PARTS; part++) {
                    int at = placeOf(k, part, day + 1);
                    int amount = statue.washedOff(part, rains[day], winds[day], statue.looks, statue.cover);
                    left[at] -= Math.min(amount, left[at]);
                }
            }
        }

        private void graze(int day) {
            liked[day] = NONE;
            for (int comer = 0; comer < herd; comer++) {
                int k = likedBest(day + 1);
                if (comer == 0) {
                    liked[day] = k;
                }
                if (k == NONE) {
                    return;
                }
                int at = placeOf(k, BODY, day + 1);
                int tongueful = Math.min(2, left[at]);
                left[at] -= tongueful;
                licked[(day + 1) * MOST_STATUES + k] += tongueful;
            }
        }

        private int likedBest(int dawn) {
            int best = NONE;
            int most = 0;
            for (int k = 0; k < many; k++) {
                int body = left[placeOf(k, BODY, dawn)];
                if (body > most && statues[k].lickable(body)) {
                    best = k;
                    most = body;
                }
            }
            return best;
        }

        private static int placeOf(int k, int part, int dawn) {
            return dawn * ROW + k * PARTS + part;
        }

        private int leftOfPart(int k, int part, int dawn) {
            workOut(dawn);
            return left[placeOf(k, part, dawn)];
        }

        private int leftOf(int k, int dawn) {
            workOut(dawn);
            return sumOf(k, dawn);
        }

        private int sumOf(int k, int dawn) {
            return left[placeOf(k, NOSE, dawn)] + left[placeOf(k, HEAD, dawn)] + left[placeOf(k, BODY, dawn)];
        }

        private int leftOfAll(int dawn) {
            int sum = 0;
            for (int k = 0; k < many; k++) {
                sum += leftOf(k, dawn);
            }
            return sum;
        }

        private int lickedOff(int k, int dawn) {
            workOut(dawn);
            return licked[dawn * MOST_STATUES + k];
        }

        /** Each grain that is neither left nor licked has flowed into the PUDDLE. */
        private int inPuddle(int k, int dawn) {
            return statues[k].allAtFirst() - leftOf(k, dawn) - lickedOff(k, dawn);
        }

        private int dawnWithoutPart(int k, int part) {
            workOut(DAYS);
            for (int dawn = 0; dawn <= DAYS; dawn++) {
                if (left[placeOf(k, part, dawn)] == 0) {
                    return dawn;
                }
            }
            return NEVER;
        }

        private int dawnWithoutAny(int k) {
            workOut(DAYS);
            for (int dawn = 0; dawn <= DAYS; dawn++) {
                if (sumOf(k, dawn) == 0) {
                    return dawn;
                }
            }
            return NEVER;
        }

        private int likedFirst(int day) {
            workOut(day + 1);
            return liked[day];
        }

        private int longestLasting() {
            int last = 0;
            int latest = 0;
            for (int k = 0; k < many; k++) {
                int dawn = dawnWithoutAny(k);
                if (dawn > latest) {
                    last = k;
                    latest = dawn;
                }
            }
            return last;
        }

        private int apart(int k, Sheet row, int i, int dawn) {
            workOut(dawn);
            int sum = 0;
            for (int part = 0; part < PARTS; part++) {
                sum += Math.abs(left[placeOf(k, part, dawn)] - row.cells[i + part]);
            }
            return sum;
        }

        private int nearest(Sheet row, int i, int dawn) {
            int best = 0;
            for (int k = 1; k < many; k++) {
                if (apart(k, row, i, dawn) < apart(best, row, i, dawn)) {
                    best = k;
                }
            }
            return best;
        }
    }

    /** What might be done for the NOSES; no deer licks one, so rain alone tells how long it lasts. */
    private static final class Plans {
        private static int giveUmbrellas(Yard yard, int u, int what) {
            int bare = lastingUnder(yard, UNCOVERED);
            int sheltered = lastingUnder(yard, UMBRELLA);
            int given = Math.min(u, yard.many);
            int best = 0;
            int most = -1;
            for (int set = 0; set < 1 << yard.many; set++) {
                int noses = Integer.bitCount(set & sheltered | bare & ~set);
                if (Integer.bitCount(set) == given && noses > most) {
                    best = set;
                    most = noses;
                }
            }
            return what == 0 ? best : most;
        }

        private static int lastingUnder(Yard yard, int cover) {
            int set = 0;
            for (int k = 0; k < yard.many; k++) {
                if (dawnWithoutNose(yard, k, yard.statues[k].looks, cover) == NEVER) {
                    set |= 1 << k;
                }
            }
            return set;
        }

        private static int turnOne(Yard yard, int what) {
            int best = 0;
            int latest = 0;
            for (int k = 0; k < yard.many; k++) {
                int others = firstDawnOfOthers(yard, k);
                for (int to = 0; to < WINDS; to++) {
                    int dawn = Math.min(others, dawnWithoutNose(yard, k, to, yard.statues[k].cover));
                    if (dawn > latest) {
                        best = 10 * k + to;
                        latest = dawn;
                    }
                }
            }
            return what == 0 ? best : latest;
        }

        private static int firstDawnOfOthers(Yard yard, int turned) {
            int first = NEVER;
            for (int k = 0; k < yard.many; k++) {
                if (k != turned) {
                    Statue other = yard.statues[k];
                    first = Math.min(first, dawnWithoutNose(yard, k, other.looks, other.cover));
                }
            }
            return first;
        }

        private static int dawnWithoutNose(Yard yard, int k, int looking, int cover) {
            Statue statue = yard.statues[k];
            int nose = statue.first[NOSE];
            for (int day = 0; day < DAYS; day++) {
                nose -= statue.washedOff(NOSE, yard.rains[day], yard.winds[day], looking, cover);
                if (nose <= 0) {
                    return day + 1;
                }
            }
            return NEVER;
        }

        /** Just these need ROOFS: under one nothing is lost, and the other NOSES last as it is; so there is always a set. */
        private static int nosesGone(Yard yard, int dawn) {
            int set = 0;
            for (int k = 0; k < yard.many; k++) {
                if (yard.leftOfPart(k, NOSE, dawn) == 0) {
                    set |= 1 << k;
                }
            }
            return set;
        }
    }

    /** What pilgrims have counted, in the order in which they told it. */
    private static final class Readings {
        private final int[] statue;
        private final int[] part;
        private final int[] dawn;
        private final int[] counted;
        private int many;

        private Readings() {
            statue = new int[MOST_READINGS];
            part = new int[MOST_READINGS];
            dawn = new int[MOST_READINGS];
            counted = new int[MOST_READINGS];
            many = 0;
        }

        private int note(int ofStatue, int ofPart, int atDawn, int v) {
            int number = many;
            statue[number] = ofStatue;
            part[number] = ofPart;
            dawn[number] = atDawn;
            counted[number] = v;
            many = number + 1;
            return number;
        }

        private void keep(int howMany) {
            many = howMany;
        }

        private boolean allHold(Yard yard) {
            for (int r = 0; r < many; r++) {
                if (yard.leftOfPart(statue[r], part[r], dawn[r]) != counted[r]) {
                    return false;
                }
            }
            return true;
        }
    }
}
