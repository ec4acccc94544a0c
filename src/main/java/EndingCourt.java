import java.util.Arrays;

/**
 * A court that decides whether small loops and calls come to an end.
 *
 * Every row that a call needs is made with the object and used again, so that
 * no call makes anything.
 */
public final class EndingCourt {
    public static final int NONE = -1, FULL = -2, OPEN = -3, OUT = -4;

    private static final int MOST_NUMBERS = 3;
    private static final int MOST_BODIES = 5;
    private static final int MOST_GUARDS = 6;
    private static final int MOST_CALLS = 40;
    private static final int MOST_MADE = 1000;
    private static final int MOST_TURNS = 10000;
    private static final int MOST_SIZE = 5;
    private static final int MOST_SUM_WEIGHT = 100;
    private static final int MOST_WIDENING = 20;
    private static final int FUNCTIONS = 8;
    private static final int PARTS = 4;

    private static final int WEIGHT_BASE = 41;
    private static final int WEIGHT_CODES = 68921;
    private static final int MOST_CONSTANT = 1000;
    private static final int TELL_CODES = 43046721;
    private static final int MOST_GIVEN = 1000000;
    private static final int GIVEN_OPEN = -2000000;

    private static final long VALUE_LIMIT = 1000000000000L;
    private static final long END_LIMIT = 1000000000L;
    // No end that is not open comes near this one, so it can stand for open.
    private static final long OPEN_END = -3000000000000L;
    private static final long NO_FLOOR = -9000000000000000L;
    private static final int NO_WEIGHT = -1000;

    private static final int MOVED = 0;
    private static final int ENDED = 1;
    private static final int BEYOND = 2;

    private final Program program = new Program();
    private final long[] x = new long[MOST_NUMBERS];
    private final Course course = new Course();
    private final Box theBox = new Box();
    private final Box beginning = new Box();
    private final Rounds rounds = new Rounds();
    private final Shaper shaper = new Shaper();
    private final Findings findings = new Findings();
    private final int[] asked = new int[MOST_NUMBERS];
    private final Calls calls = new Calls();

    public EndingCourt() {
        theBox.openAll(program.numbers);
    }

    public int loop(int n) {
        if (n < 1 || n > MOST_NUMBERS) {
            return NONE;
        }
        int before = program.numbers;
        program.startAnew(n);
        Arrays.fill(x, 0L);
        beginning.zeroAll();
        course.forgetRing();
        findings.forgetAll();
        openTheBox();
        return before;
    }

    public int body() {
        if (program.count >= MOST_BODIES) {
            return FULL;
        }
        int number = program.addBody();
        openTheBox();
        return number;
    }

    public int guard(int body, int weights, int c) {
        if (!program.has(body) || !isCode(weights) || !isConstant(c)) {
            return NONE;
        }
        Body its = program.bodies[body];
        if (its.guardCount >= MOST_GUARDS) {
            return FULL;
        }
        its.addGuard(weights, program.numbers, c);
        openTheBox();
        return its.guardCount;
    }

    public int rule(int body, int number, int weights, int d) {
        if (!program.has(body) || !program.hasNumber(number) || !isCode(weights) || !isConstant(d)) {
            return NONE;
        }
        program.bodies[body].rules[number].put(weights, program.numbers, d);
        openTheBox();
        return 0;
    }

    public int many(int body) {
        if (body == -1) {
            return program.count;
        }
        return program.has(body) ? program.bodies[body].guardCount : NONE;
    }

    public int set(int i, int v) {
        if (!program.hasNumber(i) || !isGiven(v)) {
            return NONE;
        }
        x[i] = v;
        return 0;
    }

    public long at(int i) {
        return program.hasNumber(i) ? x[i] : 0L;
    }

    public int run(int n) {
        if (!isTurns(n)) {
            return NONE;
        }
        for (int done = 0; done < n; done++) {
            int how = program.step(x);
            if (how != MOVED) {
                return how == BEYOND ? OUT : done;
            }
        }
        return n;
    }

    public int turn() {
        return program.chosen(x);
    }

    public int ring(int n) {
        return isTurns(n) ? course.findRing(program, x, n) : NONE;
    }

    public int ahead() {
        return course.lead;
    }

    public int ranks(int r0, int r1, int r2) {
        if (!ask(r0, r1, r2)) {
            return NONE;
        }
        learnPlaces();
        return program.isRankedBy(asked) ? 1 : 0;
    }

    public int tells(int body, int r0, int r1, int r2) {
        if (!program.has(body) || !ask(r0, r1, r2)) {
            return NONE;
        }
        learnPlaces();
        Body its = program.bodies[body];
        int answer = its.place.isBoundBelow(asked) ? 4 : 0;
        if (its.changesAtMost(asked, -1)) {
            answer += 2;
        }
        if (its.changesAtMost(asked, 0)) {
            answer += 1;
        }
        return answer;
    }

    public long floor(int r0, int r1, int r2) {
        if (!ask(r0, r1, r2)) {
            return NO_FLOOR;
        }
        learnPlaces();
        return program.isRankedBy(asked) ? program.floorOf(asked) : NO_FLOOR;
    }

    public int rank(int size) {
        if (!isSize(size)) {
            return NONE;
        }
        learnPlaces();
        return findings.seekRank(program, size) ? 1 : 0;
    }

    public int rows(int size) {
        if (!isSize(size)) {
            return NONE;
        }
        learnPlaces();
        return findings.seekRows(program, size);
    }

    public int found(int k, int i) {
        return findings.weightOf(k, i);
    }

    public int by(int body) {
        return program.has(body) ? findings.rowOf[body] : NONE;
    }

    public long bound() {
        if (!findings.ranked) {
            return NONE;
        }
        if (!theBox.encloses(x)) {
            return OPEN;
        }
        return Math.max(0L, findings.rankingAt(x) - findings.rankingFloor + 1L);
    }

    public int begin(int i, int side, int v) {
        if (!program.hasNumber(i) || !isSide(side) || (!isGiven(v) && v != GIVEN_OPEN)) {
            return NONE;
        }
        beginning.put(i, side, v == GIVEN_OPEN ? OPEN_END : v);
        return 0;
    }

    public int round(int w) {
        if (w < 1 || w > MOST_WIDENING || beginning.isCrossed()) {
            return NONE;
        }
        int answer = rounds.goRound(program, beginning, w);
        if (answer > 0) {
            theBox.copyFrom(rounds.now);
            forgetPlaces();
        }
        return answer;
    }

    public long box(int i, int side) {
        return program.hasNumber(i) && isSide(side) ? theBox.end(i, side) : OPEN_END;
    }

    public int open() {
        openTheBox();
        return 0;
    }

    public int call(int f, int g, int tells) {
        if (!isFunction(f) || !isFunction(g) || tells < 0 || tells >= TELL_CODES) {
            return NONE;
        }
        return calls.count >= MOST_CALLS ? FULL : calls.add(f, g, tells);
    }

    public int clear() {
        return calls.removeAll();
    }

    public int ending() {
        return calls.judge();
    }

    public int made() {
        return calls.latestMade;
    }

    public int witness(int what) {
        if (what == 0) {
            return calls.witnessFunction;
        }
        return what == 1 ? calls.witnessTells : NONE;
    }

    private void openTheBox() {
        theBox.openAll(program.numbers);
        forgetPlaces();
    }

    // Whatever changes the LOOP or THE BOX comes through here: what was found
    // of the PLACES before does not bind any more.
    private void forgetPlaces() {
        findings.ranked = false;
        for (int b = 0; b < MOST_BODIES; b++) {
            program.bodies[b].place.known = false;
        }
    }

    private void learnPlaces() {
        for (int b = 0; b < program.count; b++) {
            Body its = program.bodies[b];
            if (!its.place.known) {
                shaper.shape(its, theBox);
            }
        }
    }

    private boolean ask(int r0, int r1, int r2) {
        asked[0] = r0;
        asked[1] = r1;
        asked[2] = r2;
        for (int i = 0; i < MOST_NUMBERS; i++) {
            if (asked[i] < -MOST_SUM_WEIGHT || asked[i] > MOST_SUM_WEIGHT) {
                return false;
            }
            if (i >= program.numbers && asked[i] != 0) {
                return false;
            }
        }
        return true;
    }

    private static boolean isCode(int weights) {
        return weights >= 0 && weights < WEIGHT_CODES;
    }

    private static boolean isConstant(int c) {
        return c >= -MOST_CONSTANT && c <= MOST_CONSTANT;
    }

    private static boolean isGiven(int v) {
        return v >= -MOST_GIVEN && v <= MOST_GIVEN;
    }

    private static boolean isTurns(int n) {
        return n >= 1 && n <= MOST_TURNS;
    }

    private static boolean isSize(int size) {
        return size >= 1 && size <= MOST_SIZE;
    }

    private static boolean isSide(int side) {
        return side == 0 || side == 1;
    }

    private static boolean isFunction(int f) {
        return f >= 0 && f < FUNCTIONS;
    }

    private static boolean isBeyond(long v, long limit) {
        return v < -limit || v > limit;
    }

    /** Weights and a constant: a GUARD, or the RULE of a NUMBER. */
    private static final class Affine {
        final int[] weights = new int[MOST_NUMBERS];
        int constant;

        void put(int code, int numbers, int c) {
            int rest = code;
            for (int i = MOST_NUMBERS - 1; i >= 0; i--) {
                weights[i] = i < numbers ? rest % WEIGHT_BASE - 20 : 0;
                rest /= WEIGHT_BASE;
            }
            constant = c;
        }

        void putSame(int number) {
            for (int i = 0; i < MOST_NUMBERS; i++) {
                weights[i] = i == number ? 1 : 0;
            }
            constant = 0;
        }

        long valueAt(long[] point) {
            return weights[0] * point[0] + weights[1] * point[1] + weights[2] * point[2] + constant;
        }

        // The least (side 0) or greatest (side 1) value over a box.
        long farthest(Box over, int side) {
            long sum = constant;
            for (int i = 0; i < MOST_NUMBERS; i++) {
                if (weights[i] != 0) {
                    long end = over.end(i, weights[i] > 0 ? side : 1 - side);
                    if (end == OPEN_END) {
                        return OPEN_END;
                    }
                    sum += weights[i] * end;
                }
            }
            return sum;
        }
    }

    /** A least and a greatest value, or OPEN_END, for each NUMBER. */
    private static final class Box {
        final long[] ends = new long[2 * MOST_NUMBERS];

        long end(int i, int side) {
            return ends[2 * i + side];
        }

        void put(int i, int side, long v) {
            ends[2 * i + side] = v;
        }

        void zeroAll() {
            Arrays.fill(ends, 0L);
        }

        // NUMBERS that there are not are 0: so all PLACES can be looked at as
        // if there were three.
        void openAll(int numbers) {
            for (int e = 0; e < 2 * MOST_NUMBERS; e++) {
                ends[e] = e < 2 * numbers ? OPEN_END : 0L;
            }
        }

        void copyFrom(Box other) {
            System.arraycopy(other.ends, 0, ends, 0, 2 * MOST_NUMBERS);
        }

        boolean isCrossed() {
            for (int i = 0; i < MOST_NUMBERS; i++) {
                long least = end(i, 0);
                long greatest = end(i, 1);
                if (least != OPEN_END && greatest != OPEN_END && least > greatest) {
                    return true;
                }
            }
            return false;
        }

        boolean encloses(long[] point) {
            for (int i = 0; i < MOST_NUMBERS; i++) {
                long least = end(i, 0);
                long greatest = end(i, 1);
                if (least != OPEN_END && point[i] < least) {
                    return false;
                }
                if (greatest != OPEN_END && point[i] > greatest) {
                    return false;
                }
            }
            return true;
        }

        boolean isOut() {
            for (int e = 0; e < 2 * MOST_NUMBERS; e++) {
                if (ends[e] != OPEN_END && isBeyond(ends[e], END_LIMIT)) {
                    return true;
                }
            }
            return false;
        }

        void widen(int i, int side, long v) {
            long before = end(i, side);
            if (before == OPEN_END || v == OPEN_END) {
                put(i, side, OPEN_END);
            } else {
                put(i, side, side == 0 ? Math.min(before, v) : Math.max(before, v));
            }
        }
    }

    /** GUARDS, RULES and PLACE of a BODY. */
    private static final class Body {
        final Affine[] guards = new Affine[MOST_GUARDS];
        final Affine[] rules = new Affine[MOST_NUMBERS];
        final Place place = new Place();
        private final long[] change = new long[MOST_NUMBERS];
        int guardCount;

        Body() {
            for (int g = 0; g < MOST_GUARDS; g++) {
                guards[g] = new Affine();
            }
            for (int i = 0; i < MOST_NUMBERS; i++) {
                rules[i] = new Affine();
            }
        }

        void startAnew() {
            guardCount = 0;
            for (int i = 0; i < MOST_NUMBERS; i++) {
                rules[i].putSame(i);
            }
        }

        void addGuard(int code, int numbers, int c) {
            if (guardCount < MOST_GUARDS) {
                guards[guardCount].put(code, numbers, c);
                guardCount++;
            }
        }

        boolean holdsAt(long[] point) {
            for (int g = 0; g < guardCount; g++) {
                if (guards[g].valueAt(point) < 0L) {
                    return false;
                }
            }
            return true;
        }

        boolean isPassedOver(Box over) {
            for (int g = 0; g < guardCount; g++) {
                long greatest = guards[g].farthest(over, 1);
                if (greatest != OPEN_END && greatest < 0L) {
                    return true;
                }
            }
            return false;
        }

        // False, and the point stays, if a NUMBER would be OUT.
        boolean move(long[] point) {
            long v0 = rules[0].valueAt(point);
            long v1 = rules[1].valueAt(point);
            long v2 = rules[2].valueAt(point);
            if (isBeyond(v0, VALUE_LIMIT) || isBeyond(v1, VALUE_LIMIT) || isBeyond(v2, VALUE_LIMIT)) {
                return false;
            }
            point[0] = v0;
            point[1] = v1;
            point[2] = v2;
            return true;
        }

        boolean changesAtMost(int[] sum, int most) {
            long constant = -most;
            for (int j = 0; j < MOST_NUMBERS; j++) {
                change[j] = -sum[j];
            }
            for (int i = 0; i < MOST_NUMBERS; i++) {
                int[] weights = rules[i].weights;
                for (int j = 0; j < MOST_NUMBERS; j++) {
                    change[j] += sum[i] * weights[j];
                }
                constant += sum[i] * rules[i].constant;
            }
            return place.isNowherePositive(change, constant);
        }

        boolean ranksBy(int[] sum) {
            return place.isBoundBelow(sum) && changesAtMost(sum, -1);
        }
    }

    /** The LOOP. */
    private static final class Program {
        final Body[] bodies = new Body[MOST_BODIES];
        int numbers = 2;
        int count;

        Program() {
            for (int b = 0; b < MOST_BODIES; b++) {
                bodies[b] = new Body();
            }
        }

        void startAnew(int n) {
            numbers = n;
            count = 0;
        }

        int addBody() {
            if (count >= MOST_BODIES) {
                return FULL;
            }
            bodies[count].startAnew();
            count++;
            return count - 1;
        }

        boolean has(int body) {
            return body >= 0 && body < count;
        }

        boolean hasNumber(int i) {
            return i >= 0 && i < numbers;
        }

        int chosen(long[] point) {
            for (int b = 0; b < count; b++) {
                if (bodies[b].holdsAt(point)) {
                    return b;
                }
            }
            return NONE;
        }

        int step(long[] point) {
            int b = chosen(point);
            if (b < 0) {
                return ENDED;
            }
            return bodies[b].move(point) ? MOVED : BEYOND;
        }

        boolean isRankedBy(int[] sum) {
            for (int b = 0; b < count; b++) {
                if (!bodies[b].ranksBy(sum)) {
                    return false;
                }
            }
            return true;
        }

        long floorOf(int[] sum) {
            boolean any = false;
            long least = 0L;
            for (int b = 0; b < count; b++) {
                Place place = bodies[b].place;
                if (!place.isEmpty()) {
                    long its = place.floorOf(sum);
                    least = any ? Math.min(least, its) : its;
                    any = true;
                }
            }
            return least;
        }
    }

    /**
     * A PLACE, as points that it is spanned by: rows p0, p1, p2, p3, of which
     * the first ones (p3 above 0) are the corners (p0 / p3, p1 / p3, p2 / p3)
     * and the others (p3 = 0) directions in which it has no end. What no
     * corner and no direction breaks, no point of the PLACE breaks.
     */
    private static final class Place {
        // At most 51 corners and 72 directions that differ: see Shaper.
        static final int MOST_POINTS = 128;

        private final long[] points = new long[4 * MOST_POINTS];
        private int count;
        private int corners;
        boolean known;

        void empty() {
            count = 0;
            corners = 0;
        }

        boolean isEmpty() {
            return corners == 0;
        }

        void add(long[] point) {
            if (count >= MOST_POINTS || hasPoint(point)) {
                return;
            }
            System.arraycopy(point, 0, points, 4 * count, 4);
            count++;
            if (point[3] > 0L) {
                corners = count;
            }
        }

        private boolean hasPoint(long[] point) {
            for (int at = 0; at < 4 * count; at += 4) {
                if (points[at] == point[0] && points[at + 1] == point[1]
                        && points[at + 2] == point[2] && points[at + 3] == point[3]) {
                    return true;
                }
            }
            return false;
        }

        private long valueAt(int[] sum, int at) {
            return sum[0] * points[at] + sum[1] * points[at + 1] + sum[2] * points[at + 2];
        }

        boolean isBoundBelow(int[] sum) {
            for (int at = 4 * corners; at < 4 * count; at += 4) {
                if (valueAt(sum, at) < 0L) {
                    return false;
                }
            }
            return true;
        }

        boolean isNowherePositive(long[] weights, long constant) {
            for (int at = 0; at < 4 * count; at += 4) {
                if (weights[0] * points[at] + weights[1] * points[at + 1]
                        + weights[2] * points[at + 2] + constant * points[at + 3] > 0L) {
                    return false;
                }
            }
            return true;
        }

        // Of a SUM that is BOUND: then its least VALUE is at a corner.
        long floorOf(int[] sum) {
            long least = 0L;
            for (int at = 0; at < 4 * corners; at += 4) {
                long under = points[at + 3];
                if (under > 0L) {
                    long its = Math.floorDiv(valueAt(sum, at), under);
                    least = at == 0 ? its : Math.min(least, its);
                }
            }
            return least;
        }
    }

    /**
     * Finds the corners and directions of a PLACE.
     *
     * The planes are those of the GUARDS and of the ends of THE BOX that are
     * not open; and of a NUMBER that is open on both sides the plane on which
     * it is 0, which parts the PLACE. In each part then every NUMBER has an
     * end on one side at least, so each part that has anything in it has a
     * corner, where three planes meet, and its directions lie on two planes.
     * Points on such planes that lie in the PLACE, but are no corners of a
     * part, do no harm.
     *
     * Planes are at most 12. With k NUMBERS open on both sides m = 12 - 2 k of
     * them bound the PLACE, which has at most 2 m - 4 corners and 3 m - 6
     * edges: with what the k other planes cut, at most 51 points.
     */
    private static final class Shaper {
        static final int MOST_PLANES = MOST_GUARDS + 2 * MOST_NUMBERS;

        private final long[] planes = new long[4 * MOST_PLANES];
        private int count;
        private int bounding;
        private final long[] point = new long[4];

        void shape(Body body, Box box) {
            gather(body, box);
            Place place = body.place;
            place.empty();
            findCorners(place);
            if (!place.isEmpty()) {
                findDirections(place);
            }
            place.known = true;
        }

        private void gather(Body body, Box box) {
            count = 0;
            for (int g = 0; g < body.guardCount; g++) {
                int[] weights = body.guards[g].weights;
                addPlane(weights[0], weights[1], weights[2], body.guards[g].constant);
            }
            for (int i = 0; i < MOST_NUMBERS; i++) {
                if (box.end(i, 0) != OPEN_END) {
                    addAxisPlane(i, 1L, -box.end(i, 0));
                }
                if (box.end(i, 1) != OPEN_END) {
                    addAxisPlane(i, -1L, box.end(i, 1));
                }
            }
            bounding = count;
            for (int i = 0; i < MOST_NUMBERS; i++) {
                if (box.end(i, 0) == OPEN_END && box.end(i, 1) == OPEN_END) {
                    addAxisPlane(i, 1L, 0L);
                }
            }
        }

        private void addAxisPlane(int i, long weight, long constant) {
            addPlane(i == 0 ? weight : 0L, i == 1 ? weight : 0L, i == 2 ? weight : 0L, constant);
        }

        private void addPlane(long a0, long a1, long a2, long constant) {
            if (count >= MOST_PLANES) {
                return;
            }
            planes[4 * count] = a0;
            planes[4 * count + 1] = a1;
            planes[4 * count + 2] = a2;
            planes[4 * count + 3] = constant;
            count++;
        }

        private void findCorners(Place place) {
            for (int i = 0; i < count; i++) {
                for (int j = i + 1; j < count; j++) {
                    for (int k = j + 1; k < count; k++) {
                        if (meet(4 * i, 4 * j, 4 * k) && isInside()) {
                            shrink();
                            place.add(point);
                        }
                    }
                }
            }
        }

        private void findDirections(Place place) {
            for (int i = 0; i < count; i++) {
                for (int j = i + 1; j < count; j++) {
                    for (int sign = -1; sign <= 1; sign += 2) {
                        if (follow(4 * i, 4 * j, sign) && isInside()) {
                            shrink();
                            place.add(point);
                        }
                    }
                }
            }
        }

        // Part t of the direction that lies on both of two planes.
        private long cross(int a, int b, int t) {
            int u = t == 2 ? 0 : t + 1;
            int v = t == 0 ? 2 : t - 1;
            return planes[a + u] * planes[b + v] - planes[a + v] * planes[b + u];
        }

        private boolean meet(int a, int b, int c) {
            long bc0 = cross(b, c, 0);
            long bc1 = cross(b, c, 1);
            long bc2 = cross(b, c, 2);
            long under = planes[a] * bc0 + planes[a + 1] * bc1 + planes[a + 2] * bc2;
            if (under == 0L) {
                return false;
            }
            long sign = under > 0L ? -1L : 1L;
            long ca = planes[b + 3];
            long ab = planes[c + 3];
            point[0] = sign * (planes[a + 3] * bc0 + ca * cross(c, a, 0) + ab * cross(a, b, 0));
            point[1] = sign * (planes[a + 3] * bc1 + ca * cross(c, a, 1) + ab * cross(a, b, 1));
            point[2] = sign * (planes[a + 3] * bc2 + ca * cross(c, a, 2) + ab * cross(a, b, 2));
            point[3] = Math.abs(under);
            return true;
        }

        private boolean follow(int a, int b, int sign) {
            point[0] = sign * cross(a, b, 0);
            point[1] = sign * cross(a, b, 1);
            point[2] = sign * cross(a, b, 2);
            point[3] = 0L;
            return point[0] != 0L || point[1] != 0L || point[2] != 0L;
        }

        private boolean isInside() {
            for (int at = 0; at < 4 * bounding; at += 4) {
                if (planes[at] * point[0] + planes[at + 1] * point[1]
                        + planes[at + 2] * point[2] + planes[at + 3] * point[3] < 0L) {
                    return false;
                }
            }
            return true;
        }

        // Two rows for the same point, or direction, become the same row.
        private void shrink() {
            long common = 0L;
            for (int t = 0; t < 4; t++) {
                common = commonPart(common, Math.abs(point[t]));
            }
            if (common > 1L) {
                for (int t = 0; t < 4; t++) {
                    point[t] /= common;
                }
            }
        }

        private static long commonPart(long a, long b) {
            long big = a;
            long small = b;
            // A long has less than 100 steps to go.
            for (int step = 0; step < 100 && small != 0L; step++) {
                long rest = big % small;
                big = small;
                small = rest;
            }
            return big;
        }
    }

    /** The SUMS of a SIZE, one behind the other in their order. */
    private static final class SumOrder {
        // Above 15 totals times 121 pairs, and all SUMS of SIZE 5.
        static final int MOST_STEPS = 4000;

        final int[] weights = new int[MOST_NUMBERS];
        private int size;
        private int reach1;
        private int reach2;
        private int total;
        private int lastTotal;

        void start(int ofSize, int numbers) {
            size = ofSize;
            reach1 = numbers > 1 ? size : 0;
            reach2 = numbers > 2 ? size : 0;
            total = 1;
            lastTotal = size + reach1 + reach2;
            weights[0] = -size;
            weights[1] = -reach1 - 1;
            weights[2] = 0;
        }

        boolean next() {
            if (weights[2] < 0) {
                weights[2] = -weights[2];
                return true;
            }
            for (int step = 0; step < MOST_STEPS && nextPair(); step++) {
                int rest = total - Math.abs(weights[0]) - Math.abs(weights[1]);
                if (rest >= 0 && rest <= reach2) {
                    weights[2] = -rest;
                    return true;
                }
            }
            return false;
        }

        private boolean nextPair() {
            weights[1]++;
            if (weights[1] > reach1) {
                weights[1] = -reach1;
                weights[0]++;
            }
            if (weights[0] > size) {
                weights[0] = -size;
                total++;
            }
            return total <= lastTotal;
        }
    }

    /** What rank() and rows() found. */
    private static final class Findings {
        private final SumOrder order = new SumOrder();
        private final int[] sums = new int[MOST_NUMBERS * MOST_BODIES];
        private int count;
        final int[] rowOf = new int[MOST_BODIES];
        final int[] ranking = new int[MOST_NUMBERS];
        long rankingFloor;
        boolean ranked;

        Findings() {
            Arrays.fill(rowOf, NONE);
        }

        void forgetAll() {
            count = 0;
            ranked = false;
            Arrays.fill(rowOf, NONE);
        }

        int weightOf(int k, int i) {
            if (k < 0 || k >= count || i < 0 || i >= MOST_NUMBERS) {
                return NO_WEIGHT;
            }
            return sums[MOST_NUMBERS * k + i];
        }

        long rankingAt(long[] point) {
            return ranking[0] * point[0] + ranking[1] * point[1] + ranking[2] * point[2];
        }

        boolean seekRank(Program program, int size) {
            ranked = false;
            order.start(size, program.numbers);
            for (int step = 0; step < SumOrder.MOST_STEPS && order.next(); step++) {
                if (program.isRankedBy(order.weights)) {
                    System.arraycopy(order.weights, 0, ranking, 0, MOST_NUMBERS);
                    rankingFloor = program.floorOf(ranking);
                    ranked = true;
                    keep(0);
                    count = 1;
                    return true;
                }
            }
            return false;
        }

        int seekRows(Program program, int size) {
            Arrays.fill(rowOf, NONE);
            int left = program.count;
            int taken = 0;
            while (left > 0 && taken < MOST_BODIES && seekRow(program, size)) {
                keep(taken);
                left -= release(program, taken);
                taken++;
            }
            if (taken > 0) {
                count = taken;
            }
            return left == 0 ? taken : OPEN;
        }

        private boolean seekRow(Program program, int size) {
            order.start(size, program.numbers);
            for (int step = 0; step < SumOrder.MOST_STEPS && order.next(); step++) {
                if (isRow(program, order.weights)) {
                    return true;
                }
            }
            return false;
        }

        private boolean isRow(Program program, int[] sum) {
            boolean releases = false;
            for (int b = 0; b < program.count; b++) {
                if (rowOf[b] == NONE) {
                    Body its = program.bodies[b];
                    if (!its.changesAtMost(sum, 0)) {
                        return false;
                    }
                    releases = releases || its.ranksBy(sum);
                }
            }
            return releases;
        }

        private int release(Program program, int k) {
            int released = 0;
            for (int b = 0; b < program.count; b++) {
                if (rowOf[b] == NONE && program.bodies[b].ranksBy(order.weights)) {
                    rowOf[b] = k;
                    released++;
                }
            }
            return released;
        }

        private void keep(int k) {
            System.arraycopy(order.weights, 0, sums, MOST_NUMBERS * k, MOST_NUMBERS);
        }
    }

    /** GOING ROUND. */
    private static final class Rounds {
        // From round w on each round but the last one opens one of six ends.
        static final int MOST_ROUNDS = MOST_WIDENING + 2 * MOST_NUMBERS + 1;

        final Box now = new Box();
        private final Box next = new Box();

        // How many rounds it took until the box now HOLDS, or OUT.
        int goRound(Program program, Box from, int w) {
            now.copyFrom(from);
            for (int done = 1; done <= MOST_ROUNDS; done++) {
                lookAtBodies(program);
                boolean changed = settle(done >= w);
                if (!changed) {
                    return done;
                }
                if (next.isOut()) {
                    return OUT;
                }
                now.copyFrom(next);
            }
            return OUT;
        }

        private void lookAtBodies(Program program) {
            next.copyFrom(now);
            for (int b = 0; b < program.count; b++) {
                Body its = program.bodies[b];
                if (!its.isPassedOver(now)) {
                    for (int i = 0; i < program.numbers; i++) {
                        next.widen(i, 0, its.rules[i].farthest(now, 0));
                        next.widen(i, 1, its.rules[i].farthest(now, 1));
                    }
                }
            }
        }

        private boolean settle(boolean opening) {
            boolean changed = false;
            for (int e = 0; e < 2 * MOST_NUMBERS; e++) {
                if (next.ends[e] != now.ends[e]) {
                    changed = true;
                    if (opening) {
                        next.ends[e] = OPEN_END;
                    }
                }
            }
            return changed;
        }
    }

    /** Runs that come back to where they were. */
    private static final class Course {
        private final long[] far = new long[MOST_NUMBERS];
        private final long[] near = new long[MOST_NUMBERS];
        int lead = NONE;

        void forgetRing() {
            lead = NONE;
        }

        int findRing(Program program, long[] start, int n) {
            int length = lengthWithin(program, start, n);
            if (length <= 0) {
                return length;
            }
            int before = leadOf(program, start, length, n - length);
            if (before < 0) {
                return 0;
            }
            lead = before;
            return length;
        }

        // Looks whether the run comes again to one of some of its places. The
        // last one is that behind n TURNS: it lies on every ring that closes
        // within n, so n TURNS more come to it again.
        private int lengthWithin(Program program, long[] start, int n) {
            copy(start, far);
            copy(start, near);
            int marked = 0;
            for (int t = 1; t <= 2 * n; t++) {
                int how = program.step(far);
                if (how != MOVED) {
                    return how == BEYOND && t <= n ? OUT : 0;
                }
                if (isSame()) {
                    return t - marked;
                }
                if (t == n || (t < n && (t & (t - 1)) == 0)) {
                    copy(far, near);
                    marked = t;
                }
            }
            return 0;
        }

        private int leadOf(Program program, long[] start, int length, int most) {
            copy(start, far);
            copy(start, near);
            for (int t = 0; t < length; t++) {
                program.step(far);
            }
            for (int t = 0; t <= most; t++) {
                if (isSame()) {
                    return t;
                }
                program.step(far);
                program.step(near);
            }
            return NONE;
        }

        private boolean isSame() {
            return far[0] == near[0] && far[1] == near[1] && far[2] == near[2];
        }

        private static void copy(long[] from, long[] to) {
            System.arraycopy(from, 0, to, 0, MOST_NUMBERS);
        }
    }

    /**
     * CALLS, and what is MADE of them. Each is held as one number: from bit 0
     * on, which parts are told 1 or 2 of (i and j at 4 i + j), from bit 16 on
     * which 2; from bit 32 on the function from which, from 35 on that to
     * which.
     */
    private static final class Calls {
        private static final int TABLE = 2048;
        private static final int PAIRS = PARTS * PARTS;
        private static final int ROW = 15;

        private final long[] given = new long[MOST_CALLS];
        int count;
        private final long[] all = new long[MOST_MADE];
        private int allCount;
        // Where in all, and 1; 0 is free. It never gets more than half full.
        private final int[] table = new int[TABLE];
        int latestMade = NONE;
        int witnessFunction = NONE;
        int witnessTells = NONE;

        int add(int f, int g, int tells) {
            if (count >= MOST_CALLS) {
                return FULL;
            }
            given[count] = packed(f, g, masksOf(tells));
            count++;
            return count - 1;
        }

        int removeAll() {
            int before = count;
            count = 0;
            return before;
        }

        int judge() {
            if (!makeAll()) {
                latestMade = MOST_MADE;
                return OPEN;
            }
            latestMade = allCount;
            int worst = firstFault();
            if (worst < 0) {
                return 1;
            }
            witnessFunction = fromOf(all[worst]);
            witnessTells = numberOf(all[worst]);
            return 0;
        }

        // Each MADE one is a row of CALLS put together, so it is enough to put
        // CALLS behind what is MADE. False: there would be too many.
        private boolean makeAll() {
            Arrays.fill(table, 0);
            allCount = 0;
            for (int c = 0; c < count; c++) {
                keep(given[c]);
            }
            int seeds = allCount;
            for (int a = 0; a < MOST_MADE && a < allCount; a++) {
                for (int b = 0; b < seeds; b++) {
                    if (toOf(all[a]) == fromOf(all[b]) && !keep(together(all[a], all[b]))) {
                        return false;
                    }
                }
            }
            return true;
        }

        // False: it is a new one, and there is no room.
        private boolean keep(long one) {
            int slot = (int) ((one * 0x9E3779B97F4A7C15L) >>> 53);
            for (int step = 0; step < TABLE && table[slot] != 0; step++) {
                if (all[table[slot] - 1] == one) {
                    return true;
                }
                slot = (slot + 1) & (TABLE - 1);
            }
            if (allCount >= MOST_MADE) {
                return false;
            }
            all[allCount] = one;
            allCount++;
            table[slot] = allCount;
            return true;
        }

        private int firstFault() {
            int first = NONE;
            for (int a = 0; a < allCount; a++) {
                if (isFault(all[a]) && (first < 0 || isAhead(all[a], all[first]))) {
                    first = a;
                }
            }
            return first;
        }

        private static boolean isAhead(long one, long other) {
            if (fromOf(one) != fromOf(other)) {
                return fromOf(one) < fromOf(other);
            }
            return numberOf(one) < numberOf(other);
        }

        private static boolean isFault(long one) {
            if (fromOf(one) != toOf(one)) {
                return false;
            }
            for (int i = 0; i < PARTS; i++) {
                if ((lessOf(one) >> (PARTS * i + i) & 1) != 0) {
                    return false;
                }
            }
            return together(one, one) == one;
        }

        private static long together(long one, long other) {
            int masks = 0;
            for (int i = 0; i < PARTS; i++) {
                int told = 0;
                int less = 0;
                for (int m = 0; m < PARTS; m++) {
                    int pair = PARTS * i + m;
                    if ((toldOf(one) >> pair & 1) != 0) {
                        int toldBehind = toldOf(other) >> (PARTS * m) & ROW;
                        told |= toldBehind;
                        less |= (lessOf(one) >> pair & 1) != 0 ? toldBehind : lessOf(other) >> (PARTS * m) & ROW;
                    }
                }
                masks |= told << (PARTS * i) | less << (PARTS * i + PAIRS);
            }
            return packed(fromOf(one), toOf(other), masks);
        }

        private static long packed(int f, int g, int masks) {
            return (masks & 0xFFFFFFFFL) | (long) f << 32 | (long) g << 35;
        }

        private static int fromOf(long one) {
            return (int) (one >>> 32) & 7;
        }

        private static int toOf(long one) {
            return (int) (one >>> 35) & 7;
        }

        private static int toldOf(long one) {
            return (int) one & 0xFFFF;
        }

        private static int lessOf(long one) {
            return (int) (one >>> PAIRS) & 0xFFFF;
        }

        private static int masksOf(int tells) {
            int masks = 0;
            int rest = tells;
            for (int pair = PAIRS - 1; pair >= 0; pair--) {
                int digit = rest % 3;
                rest /= 3;
                if (digit > 0) {
                    masks |= 1 << pair;
                }
                if (digit > 1) {
                    masks |= 1 << (pair + PAIRS);
                }
            }
            return masks;
        }

        private static int numberOf(long one) {
            int number = 0;
            for (int pair = 0; pair < PAIRS; pair++) {
                number = 3 * number + (toldOf(one) >> pair & 1) + (lessOf(one) >> pair & 1);
            }
            return number;
        }
    }
}
