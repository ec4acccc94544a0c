import java.util.ArrayList;
import java.util.Arrays;
import java.util.Comparator;
import java.util.HashMap;
import java.util.HashSet;
import java.util.List;
import java.util.Map;
import java.util.Random;
import java.util.Set;
import java.util.TreeMap;
import java.util.function.LongSupplier;

/**
 * Runs of 512 calls, drawn from fixed seeds, of all kinds and with right and
 * wrong arguments: a second court, written slowly and straight from the
 * document, is given the same calls, and each answer must be the same. So what
 * one call leaves behind for all others is looked at.
 *
 * The second court knows the PLACE of a BODY by its rows alone, and says what
 * holds of a SUM by adding up rows (Farkas): it seeks no corner.
 */
public final class ModelTest {
    private static final int RUNS = 600;
    private static final int CALLS = 512;
    private static final Map<String, Integer> SEEN = new TreeMap<>();

    /** What must have come at least this often, lest the runs look at too little. */
    private static final String[] OFTEN = {
        "loop 0 up", "loop NONE", "body 0 up", "body FULL", "guard 0 up", "guard NONE", "guard FULL", "rule 0 up",
        "rule NONE", "many 0 up", "many NONE", "set 0 up", "set NONE", "at 0 up", "at below", "run 0 up", "run OUT",
        "run NONE", "turn 0 up", "turn NONE", "ring 0", "ring 1 up", "ring OUT", "ring NONE", "ahead 0 up",
        "ahead NONE", "ranks 0", "ranks 1", "ranks NONE", "tells 0", "tells 1", "tells 3", "tells 4", "tells 5",
        "tells 7", "tells NONE", "floor told", "floor none", "rank 0", "rank 1", "rank NONE", "rows 0", "rows 1",
        "rows 2", "rows 3", "rows OPEN", "rows NONE", "found told", "found none", "by 0", "by 1", "by 2", "by NONE",
        "bound 0", "bound 1 up", "bound NONE", "bound OPEN", "begin 0 up", "begin NONE", "round 1 up", "round NONE",
        "round OUT", "box told", "box none", "open 0 up", "call 0 up", "call NONE", "call FULL", "clear 0 up",
        "ending 0", "ending 1", "ending OPEN", "made 0 up", "made NONE", "witness 0 up", "witness NONE"
    };

    /**
     * GUARDS (weights and c) of the PLACES for which the class keeps the most
     * points, of three million that were drawn: 24 corners and 14 directions,
     * 33 corners, and 14 directions from one corner.
     */
    private static final int[][] CROWDED = {
        {46278, 973, 44918, 906, 60017, 999, 53087, 971, 60180, 944, 56936, 921},
        {39626, 925, 32822, 947, 37779, 927, 39501, 997, 31014, 970, 36267, 930},
        {39842, 0, 41443, 0, 51690, 0, 41484, 0, 46397, 0, 41360, 0}
    };

    public static void main(String[] args) {
        int wrong = 0;
        for (int seed = 0; seed < RUNS && wrong < 3; seed++) {
            Run run = new Run(seed);
            if (seed < CROWDED.length) {
                run.drawCrowdedRun(CROWDED[seed]);
            }
            if (!run.agrees()) {
                wrong++;
                System.out.println("run " + seed + ": " + run.text);
            }
        }
        System.out.println(SEEN);
        for (String what : OFTEN) {
            if (wrong == 0 && SEEN.getOrDefault(what, 0) < 20) {
                wrong++;
                System.out.println("too seldom: " + what);
            }
        }
        System.out.println(RUNS + " runs of " + CALLS + " calls, " + wrong + " not as due");
        if (wrong != 0) {
            System.exit(1);
        }
    }

    /** One run: the court, the second court, and what is drawn. */
    private static final class Run {
        final EndingCourt court = new EndingCourt();
        final Model model = new Model();
        final StringBuilder text = new StringBuilder();
        private final Random random;
        private final int kind;
        private int done = 0;
        private boolean same = true;

        Run(int seed) {
            random = new Random(seed);
            kind = seed % 6;
        }

        boolean agrees() {
            while (same && done < CALLS) {
                drawStep();
            }
            return same;
        }

        private void check(String name, LongSupplier court, LongSupplier model, int... args) {
            if (!same || done >= CALLS) {
                return;
            }
            done++;
            text.append(name).append(Arrays.toString(args).replace('[', '(').replace(']', ')')).append(' ');
            long due = model.getAsLong();
            long got = court.getAsLong();
            SEEN.merge(name + " " + sortOf(name, due), 1, Integer::sum);
            if (got != due) {
                same = false;
                text.append("answered ").append(got).append(", due is ").append(due);
            }
        }

        private static String sortOf(String name, long due) {
            switch (name) {
                case "at":
                    return due < 0 ? "below" : "0 up";
                case "floor":
                    return due == Model.NO_FLOOR ? "none" : "told";
                case "found":
                    return due == -1000 ? "none" : "told";
                case "box":
                    return due == Model.OPEN_END ? "none" : "told";
                case "ranks": case "tells": case "rank": case "rows": case "by": case "ending":
                    return due < 0 ? codeName(due) : String.valueOf(due);
                case "bound": case "ring": case "round":
                    return due < 0 ? codeName(due) : due == 0 ? "0" : "1 up";
                default:
                    return due < 0 ? codeName(due) : "0 up";
            }
        }

        private static String codeName(long due) {
            return due >= -4 ? new String[] {"OUT", "OPEN", "FULL", "NONE"}[(int) due + 4] : "strange";
        }

        // Kinds of runs: a call of each group comes by chance, one group more often.
        private void drawStep() {
            int group = random.nextInt(3) > 0 ? kind : random.nextInt(6);
            switch (group) {
                case 0:
                    drawLoopCall();
                    break;
                case 1:
                    drawRunCall();
                    break;
                case 2:
                    drawSumCall();
                    break;
                case 3:
                    drawBoxCall();
                    break;
                case 4:
                    drawCallsCall();
                    break;
                default:
                    drawScene();
                    break;
            }
        }

        private boolean seldom(int one) {
            return random.nextInt(one) == 0;
        }

        private int wrongOr(int right, int... wrong) {
            return seldom(18) ? wrong[random.nextInt(wrong.length)] : right;
        }

        private int number() {
            return wrongOr(random.nextInt(model.n), -1, model.n, 3, Integer.MIN_VALUE, Integer.MAX_VALUE);
        }

        private int bodyNumber() {
            int many = model.bodies.size();
            return wrongOr(many == 0 ? 0 : random.nextInt(many), -1, many, 4, 5, Integer.MIN_VALUE, Integer.MAX_VALUE);
        }

        private int side() {
            return wrongOr(random.nextInt(2), -1, 2, Integer.MIN_VALUE, Integer.MAX_VALUE);
        }

        private int between(int least, int greatest) {
            return least + random.nextInt(greatest - least + 1);
        }

        private int constant() {
            int right = seldom(12) ? 1000 - 2000 * random.nextInt(2) : between(-9, 9);
            return wrongOr(right, -1001, 1001, Integer.MIN_VALUE, Integer.MAX_VALUE);
        }

        private int weights() {
            int code = 0;
            boolean wide = seldom(15);
            for (int i = 0; i < 3; i++) {
                code = 41 * code + 20 + (wide ? between(-20, 20) : seldom(2) ? 0 : between(-1, 1) * (seldom(4) ? 2 : 1));
            }
            return wrongOr(code, -1, 68921, Integer.MIN_VALUE, Integer.MAX_VALUE);
        }

        /** Mostly weight on the number itself. */
        private int ruleWeights(int i) {
            if (!seldom(3)) {
                int[] w = {20, 20, 20};
                w[Math.max(0, Math.min(2, i))] += seldom(5) ? between(-1, 1) : 1;
                return (w[0] * 41 + w[1]) * 41 + w[2];
            }
            return weights();
        }

        private int given() {
            int right = seldom(8) ? 1000000 - 2000000 * random.nextInt(2) : seldom(3) ? between(-300, 300) : between(-9, 9);
            return wrongOr(right, -1000001, 1000001, -2000000, Integer.MIN_VALUE, Integer.MAX_VALUE);
        }

        private void loop(int n) {
            check("loop", () -> court.loop(n), () -> model.loop(n), n);
        }

        private void body() {
            check("body", court::body, model::body);
        }

        private void guard(int b, int w, int c) {
            check("guard", () -> court.guard(b, w, c), () -> model.guard(b, w, c), b, w, c);
        }

        private void rule(int b, int i, int w, int d) {
            check("rule", () -> court.rule(b, i, w, d), () -> model.rule(b, i, w, d), b, i, w, d);
        }

        private void many(int b) {
            check("many", () -> court.many(b), () -> model.many(b), b);
        }

        private void set(int i, int v) {
            check("set", () -> court.set(i, v), () -> model.set(i, v), i, v);
        }

        private void at(int i) {
            check("at", () -> court.at(i), () -> model.at(i), i);
        }

        private void run(int n) {
            check("run", () -> court.run(n), () -> model.run(n), n);
        }

        private void ring(int n) {
            check("ring", () -> court.ring(n), () -> model.ring(n), n);
        }

        private void rank(int size) {
            check("rank", () -> court.rank(size), () -> model.rank(size), size);
        }

        private void rows(int size) {
            check("rows", () -> court.rows(size), () -> model.rows(size), size);
        }

        private void found(int k, int i) {
            check("found", () -> court.found(k, i), () -> model.found(k, i), k, i);
        }

        private void by(int b) {
            check("by", () -> court.by(b), () -> model.by(b), b);
        }

        private void bound() {
            check("bound", court::bound, model::bound);
        }

        private void begin(int i, int side, int v) {
            check("begin", () -> court.begin(i, side, v), () -> model.begin(i, side, v), i, side, v);
        }

        private void round(int w) {
            check("round", () -> court.round(w), () -> model.round(w), w);
        }

        private void box(int i, int side) {
            check("box", () -> court.box(i, side), () -> model.box(i, side), i, side);
        }

        private void call(int f, int g, int tells) {
            check("call", () -> court.call(f, g, tells), () -> model.call(f, g, tells), f, g, tells);
        }

        private void drawLoopCall() {
            int b = bodyNumber();
            switch (random.nextInt(10)) {
                case 0:
                    if (seldom(4)) {
                        loop(wrongOr(between(1, 3), 0, 4, -1, Integer.MIN_VALUE, Integer.MAX_VALUE));
                    } else {
                        guard(0, weights(), constant());
                    }
                    break;
                case 1: case 2:
                    body();
                    break;
                case 3: case 4: case 5:
                    guard(b, weights(), constant());
                    break;
                case 6: case 7: case 8:
                    int i = number();
                    rule(b, i, ruleWeights(i), constant());
                    break;
                default:
                    many(wrongOr(seldom(2) ? -1 : b, -2, Integer.MIN_VALUE, Integer.MAX_VALUE));
                    break;
            }
        }

        private int turns() {
            int right = seldom(10) ? 10000 : between(1, 40);
            return wrongOr(right, 0, 10001, -1, Integer.MIN_VALUE, Integer.MAX_VALUE);
        }

        private void drawRunCall() {
            switch (random.nextInt(9)) {
                case 0: case 1: case 2:
                    set(number(), given());
                    break;
                case 3:
                    at(number());
                    break;
                case 4:
                    run(turns());
                    break;
                case 5:
                    check("turn", court::turn, model::turn);
                    break;
                case 6: case 7:
                    ring(turns());
                    break;
                default:
                    check("ahead", court::ahead, model::ahead);
                    break;
            }
        }

        private int size() {
            return wrongOr(seldom(6) ? between(3, 5) : between(1, 2), 0, 6, -1, Integer.MIN_VALUE, Integer.MAX_VALUE);
        }

        private int sumWeight(int i) {
            int right = i >= model.n ? 0 : seldom(8) ? between(-100, 100) : between(-2, 2);
            return wrongOr(right, 1, 101, -101, Integer.MIN_VALUE, Integer.MAX_VALUE);
        }

        private void drawSumCall() {
            int r0 = sumWeight(0);
            int r1 = sumWeight(1);
            int r2 = sumWeight(2);
            int b = bodyNumber();
            switch (random.nextInt(12)) {
                case 0:
                    check("ranks", () -> court.ranks(r0, r1, r2), () -> model.ranks(r0, r1, r2), r0, r1, r2);
                    break;
                case 1: case 2: case 3:
                    drawTells(b);
                    break;
                case 4:
                    check("floor", () -> court.floor(r0, r1, r2), () -> model.floor(r0, r1, r2), r0, r1, r2);
                    break;
                case 5:
                    rank(size());
                    break;
                case 6:
                    rows(size());
                    break;
                case 7: case 8:
                    found(wrongOr(random.nextInt(3), -1, 5, Integer.MIN_VALUE, Integer.MAX_VALUE),
                            wrongOr(random.nextInt(3), -1, 3, Integer.MIN_VALUE, Integer.MAX_VALUE));
                    break;
                case 9:
                    by(b);
                    break;
                default:
                    bound();
                    break;
            }
        }

        private void drawBoxCall() {
            switch (random.nextInt(12)) {
                case 0: case 1: case 2: case 3:
                    int side = side();
                    int v = seldom(8) ? -2000000 : seldom(3) ? given() : side == 0 ? between(-9, 1) : between(0, 9);
                    begin(number(), side, v);
                    break;
                case 4: case 5: case 6: case 7:
                    round(wrongOr(between(1, seldom(3) ? 20 : 3), 0, 21, -1, Integer.MIN_VALUE, Integer.MAX_VALUE));
                    break;
                case 8: case 9: case 10:
                    box(number(), side());
                    break;
                default:
                    check("open", court::open, model::open);
                    break;
            }
        }

        private int function() {
            return wrongOr(random.nextInt(seldom(4) ? 8 : 2), -1, 8, Integer.MIN_VALUE, Integer.MAX_VALUE);
        }

        private int telling() {
            int number = 0;
            int thin = between(2, 8);
            for (int p = 0; p < 16; p++) {
                number = 3 * number + (seldom(thin) ? between(1, 2) : 0);
            }
            return wrongOr(number, -1, 43046721, 43046720, Integer.MIN_VALUE, Integer.MAX_VALUE);
        }

        private void drawCallsCall() {
            switch (random.nextInt(16)) {
                case 0:
                    if (kind != 4 || seldom(4)) {
                        check("clear", court::clear, model::clear);
                    }
                    break;
                case 1:
                    check("ending", court::ending, model::ending);
                    break;
                case 2: case 3:
                    check("made", court::made, model::made);
                    break;
                case 4: case 5: case 6:
                    int what = wrongOr(random.nextInt(2), -1, 2, Integer.MIN_VALUE, Integer.MAX_VALUE);
                    check("witness", () -> court.witness(what), () -> model.witness(what), what);
                    break;
                default:
                    call(function(), function(), telling());
                    break;
            }
        }

        /** A loop that may well come to an end, and then what it changes and what it does not. */
        private void drawScene() {
            int n = between(1, 3);
            loop(n);
            if (seldom(10)) {
                drawGrowingScene(n);
                return;
            }
            if (seldom(10)) {
                drawCrowdedScene(n);
                return;
            }
            int many = between(0, 4);
            for (int b = 0; b < many; b++) {
                drawFallingBody(b, n);
            }
            for (int part = between(1, 6); part > 0; part--) {
                drawScenePart(n);
            }
        }

        /** Values go far out, at times back and forth. */
        private void drawGrowingScene(int n) {
            body();
            for (int i = 0; i < n; i++) {
                int[] w = {20, 20, 20};
                w[random.nextInt(n)] += between(2, 20) * (seldom(3) ? -1 : 1);
                rule(0, i, (w[0] * 41 + w[1]) * 41 + w[2], between(-9, 9));
                set(i, given());
                begin(i, random.nextInt(2), given());
            }
            round(between(1, 20));
            box(random.nextInt(n), random.nextInt(2));
            ring(between(1, 20));
            run(between(1, 20));
            at(random.nextInt(n));
            check("turn", court::turn, model::turn);
        }

        /** Many planes, at times all through one corner, with a box or without. */
        private void drawCrowdedScene(int n) {
            boolean oneCorner = seldom(2);
            int reach = between(1, 20);
            body();
            for (int g = 0; g < 6; g++) {
                int[] w = {20 + between(-reach, reach), 20 + between(-reach, reach), 20 + between(-reach, reach)};
                w[n - 1] = seldom(3) ? w[n - 1] : 20 + reach;
                guard(0, (w[0] * 41 + w[1]) * 41 + w[2], oneCorner ? 0 : between(800, 1000));
            }
            int turned = random.nextInt(n);
            int[] back = {20, 20, 20};
            back[turned]--;
            rule(0, turned, (back[0] * 41 + back[1]) * 41 + back[2], between(0, 5));
            for (int i = 0; i < n; i++) {
                begin(i, 0, seldom(3) ? -2000000 : between(-1, 0));
                begin(i, 1, seldom(3) ? -2000000 : between(0, 5));
            }
            for (int k = 0; k < 12; k++) {
                if (k == 6) {
                    round(between(1, 3));
                }
                drawTells(0);
            }
        }

        /** One crowded PLACE, many sums; now and then another rule. */
        void drawCrowdedRun(int[] guards) {
            loop(3);
            body();
            for (int g = 0; g + 1 < guards.length; g += 2) {
                guard(0, guards[g], guards[g + 1]);
            }
            for (int k = 0; k < 490; k++) {
                if (k % 10 == 9) {
                    rule(0, random.nextInt(3), weights(), constant());
                } else {
                    drawTells(0);
                }
            }
        }

        private void drawTells(int b) {
            int r0 = sumWeight(0);
            int r1 = sumWeight(1);
            int r2 = sumWeight(2);
            check("tells", () -> court.tells(b, r0, r1, r2), () -> model.tells(b, r0, r1, r2), b, r0, r1, r2);
        }

        /** Number k falls, those ahead of it stay, those behind it become anything. */
        private void drawFallingBody(int b, int n) {
            int k = random.nextInt(n);
            int sign = seldom(4) ? -1 : 1;
            int[] unit = {20, 20, 20};
            unit[k] += sign;
            body();
            if (!seldom(6)) {
                guard(b, (unit[0] * 41 + unit[1]) * 41 + unit[2], between(-3, 9));
            }
            int[] itself = {20, 20, 20};
            itself[k]++;
            rule(b, k, (itself[0] * 41 + itself[1]) * 41 + itself[2], -sign * between(seldom(9) ? -1 : 1, 3));
            for (int i = k + 1; i < n; i++) {
                if (seldom(2)) {
                    rule(b, i, seldom(2) ? weights() : 34460, between(-9, 9));
                }
            }
            if (seldom(3)) {
                guard(b, weights(), between(-9, 9));
            }
        }

        private void drawScenePart(int n) {
            switch (random.nextInt(5)) {
                case 0:
                    rank(between(1, 2));
                    bound();
                    set(random.nextInt(n), given());
                    bound();
                    break;
                case 1:
                    rows(between(1, 2));
                    by(bodyNumber());
                    found(random.nextInt(3), random.nextInt(3));
                    break;
                case 2:
                    begin(random.nextInt(n), random.nextInt(2), seldom(4) ? -2000000 : between(-9, 9));
                    round(between(1, 6));
                    box(random.nextInt(n), random.nextInt(2));
                    break;
                case 3:
                    drawLoopCall();
                    bound();
                    by(bodyNumber());
                    break;
                default:
                    drawSumCall();
                    drawRunCall();
                    break;
            }
        }
    }

    /** A BODY as the document tells of it: rows of weights and a constant. */
    private static final class ModelBody {
        final List<long[]> guards = new ArrayList<>();
        final long[][] rules = {{1, 0, 0, 0}, {0, 1, 0, 0}, {0, 0, 1, 0}};
    }

    /** The second court. */
    private static final class Model {
        static final int NONE = -1;
        static final int FULL = -2;
        static final int OPEN = -3;
        static final int OUT = -4;
        static final long NO_FLOOR = -9000000000000000L;
        static final long OPEN_END = -3000000000000L;

        int n = 2;
        List<ModelBody> bodies = new ArrayList<>();
        private long[] x = new long[3];
        private Long[][] theBox = new Long[3][2];
        private Long[][] start = allZero();
        private Integer ahead = null;
        private List<int[]> found = new ArrayList<>();
        private List<Integer> by = new ArrayList<>();
        private int[] ranking = null;
        private boolean changed = false;
        private final List<int[]> calls = new ArrayList<>();
        private Integer made = null;
        private int[] witness = null;
        private final Map<String, Integer> known = new HashMap<>();

        private static Long[][] allZero() {
            return new Long[][] {{0L, 0L}, {0L, 0L}, {0L, 0L}};
        }

        private static boolean within(long v, long most) {
            return v >= -most && v <= most;
        }

        private boolean isNumber(int i) {
            return i >= 0 && i < n;
        }

        private boolean isBody(int b) {
            return b >= 0 && b < bodies.size();
        }

        private void changeLoop() {
            theBox = new Long[3][2];
            changed = true;
            known.clear();
        }

        long loop(int many) {
            if (many < 1 || many > 3) {
                return NONE;
            }
            int before = n;
            n = many;
            bodies = new ArrayList<>();
            x = new long[3];
            start = allZero();
            ahead = null;
            found = new ArrayList<>();
            by = new ArrayList<>();
            ranking = null;
            changeLoop();
            return before;
        }

        long body() {
            if (bodies.size() == 5) {
                return FULL;
            }
            bodies.add(new ModelBody());
            changeLoop();
            return bodies.size() - 1;
        }

        private static boolean isRow(int weights, int constant) {
            return weights >= 0 && weights <= 41 * 41 * 41 - 1 && within(constant, 1000);
        }

        private long[] rowOf(int weights, int constant) {
            long[] row = {weights / 1681 - 20, weights / 41 % 41 - 20, weights % 41 - 20, constant};
            for (int i = n; i < 3; i++) {
                row[i] = 0;
            }
            return row;
        }

        long guard(int b, int weights, int c) {
            if (!isBody(b) || !isRow(weights, c)) {
                return NONE;
            }
            if (bodies.get(b).guards.size() == 6) {
                return FULL;
            }
            bodies.get(b).guards.add(rowOf(weights, c));
            changeLoop();
            return bodies.get(b).guards.size();
        }

        long rule(int b, int i, int weights, int d) {
            if (!isBody(b) || !isNumber(i) || !isRow(weights, d)) {
                return NONE;
            }
            bodies.get(b).rules[i] = rowOf(weights, d);
            changeLoop();
            return 0;
        }

        long many(int b) {
            return b == -1 ? bodies.size() : isBody(b) ? bodies.get(b).guards.size() : NONE;
        }

        // ---- runs

        long set(int i, int v) {
            if (!isNumber(i) || !within(v, 1000000)) {
                return NONE;
            }
            x[i] = v;
            return 0;
        }

        long at(int i) {
            return isNumber(i) ? x[i] : 0;
        }

        private static long valueOf(long[] row, long[] at) {
            return row[0] * at[0] + row[1] * at[1] + row[2] * at[2] + row[3];
        }

        private int turnAt(long[] at) {
            for (int b = 0; b < bodies.size(); b++) {
                if (bodies.get(b).guards.stream().allMatch(row -> valueOf(row, at) >= 0)) {
                    return b;
                }
            }
            return NONE;
        }

        private long[] behind(long[] at) {
            long[][] rules = bodies.get(turnAt(at)).rules;
            long[] next = new long[3];
            for (int i = 0; i < n; i++) {
                next[i] = valueOf(rules[i], at);
            }
            return next;
        }

        private static boolean isOut(long[] at) {
            return Arrays.stream(at).anyMatch(v -> !within(v, 1000000000000L));
        }

        long run(int turns) {
            if (turns < 1 || turns > 10000) {
                return NONE;
            }
            for (int t = 0; t < turns; t++) {
                if (turnAt(x) == NONE) {
                    return t;
                }
                long[] next = behind(x);
                if (isOut(next)) {
                    return OUT;
                }
                x = next;
            }
            return turns;
        }

        long turn() {
            return turnAt(x);
        }

        long ring(int turns) {
            if (turns < 1 || turns > 10000) {
                return NONE;
            }
            Map<List<Long>, Integer> times = new HashMap<>();
            long[] now = x;
            for (int t = 0; t <= turns; t++) {
                Integer first = times.put(List.of(now[0], now[1], now[2]), t);
                if (first != null) {
                    ahead = first;
                    return t - first;
                }
                if (t == turns || turnAt(now) == NONE) {
                    return 0;
                }
                now = behind(now);
                if (isOut(now)) {
                    return OUT;
                }
            }
            return 0;
        }

        long ahead() {
            return ahead == null ? NONE : ahead;
        }

        // ---- sums

        private boolean isSum(int... r) {
            for (int i = 0; i < 3; i++) {
                if (!within(r[i], 100) || (i >= n && r[i] != 0)) {
                    return false;
                }
            }
            return true;
        }

        private List<long[]> placeOf(int b) {
            List<long[]> rows = new ArrayList<>(bodies.get(b).guards);
            for (int i = 0; i < 3; i++) {
                long[] up = {0, 0, 0, 0};
                long[] down = {0, 0, 0, 0};
                up[i] = 1;
                down[i] = -1;
                if (i >= n || theBox[i][0] != null) {
                    up[3] = i >= n ? 0 : -theBox[i][0];
                    rows.add(up);
                }
                if (i >= n || theBox[i][1] != null) {
                    down[3] = i >= n ? 0 : theBox[i][1];
                    rows.add(down);
                }
            }
            return rows;
        }

        private boolean isEmpty(int b) {
            Integer before = known.get("empty " + b);
            if (before == null) {
                before = Rows.areAtOdds(placeOf(b)) ? 1 : 0;
                known.put("empty " + b, before);
            }
            return before == 1;
        }

        private static long[] asRow(int[] r) {
            return new long[] {r[0], r[1], r[2], 0};
        }

        /** By how much the VALUE is less behind the TURN than at x. */
        private long[] fallOf(int b, int[] r) {
            long[] row = asRow(r);
            for (int i = 0; i < n; i++) {
                for (int j = 0; j < 4; j++) {
                    row[j] -= r[i] * bodies.get(b).rules[i][j];
                }
            }
            return row;
        }

        private int tellsOf(int b, int[] r) {
            Integer before = known.get(b + Arrays.toString(r));
            if (before == null) {
                before = findTells(b, r);
                known.put(b + Arrays.toString(r), before);
            }
            return before;
        }

        private int findTells(int b, int[] r) {
            if (isEmpty(b)) {
                return 7;
            }
            List<long[]> rows = placeOf(b);
            int answer = Rows.floorOf(rows, asRow(r)) == null ? 0 : 4;
            // The fall is at least 1 just if the greatest whole number below it is.
            Long fall = Rows.floorOf(rows, fallOf(b, r));
            if (fall != null && fall >= 1) {
                answer += 2;
            }
            if (fall != null && fall >= 0) {
                answer += 1;
            }
            return answer;
        }

        private boolean isRankedBy(int[] r) {
            for (int b = 0; b < bodies.size(); b++) {
                if (tellsOf(b, r) < 6) {
                    return false;
                }
            }
            return true;
        }

        long ranks(int r0, int r1, int r2) {
            return !isSum(r0, r1, r2) ? NONE : isRankedBy(new int[] {r0, r1, r2}) ? 1 : 0;
        }

        long tells(int b, int r0, int r1, int r2) {
            return !isBody(b) || !isSum(r0, r1, r2) ? NONE : tellsOf(b, new int[] {r0, r1, r2});
        }

        private long floorOf(int[] r) {
            Long least = null;
            for (int b = 0; b < bodies.size(); b++) {
                if (!isEmpty(b)) {
                    long its = Rows.floorOf(placeOf(b), asRow(r));
                    least = least == null ? its : Long.valueOf(Math.min(least, its));
                }
            }
            return least == null ? 0 : least;
        }

        long floor(int r0, int r1, int r2) {
            int[] r = {r0, r1, r2};
            return isSum(r) && isRankedBy(r) ? floorOf(r) : NO_FLOOR;
        }

        private List<int[]> sumsOf(int size) {
            List<int[]> sums = new ArrayList<>();
            for (int r0 = -size; r0 <= size; r0++) {
                for (int r1 = -size; r1 <= size; r1++) {
                    for (int r2 = -size; r2 <= size; r2++) {
                        if (isSum(r0, r1, r2) && (r0 != 0 || r1 != 0 || r2 != 0)) {
                            sums.add(new int[] {r0, r1, r2});
                        }
                    }
                }
            }
            sums.sort(Comparator.<int[]>comparingInt(r -> Math.abs(r[0]) + Math.abs(r[1]) + Math.abs(r[2]))
                    .thenComparingInt(r -> r[0]).thenComparingInt(r -> r[1]).thenComparingInt(r -> r[2]));
            return sums;
        }

        long rank(int size) {
            if (size < 1 || size > 5) {
                return NONE;
            }
            ranking = sumsOf(size).stream().filter(this::isRankedBy).findFirst().orElse(null);
            changed = false;
            if (ranking == null) {
                return 0;
            }
            found = List.of(ranking);
            return 1;
        }

        long rows(int size) {
            if (size < 1 || size > 5) {
                return NONE;
            }
            Set<Integer> left = new HashSet<>();
            by = new ArrayList<>();
            for (int b = 0; b < bodies.size(); b++) {
                left.add(b);
                by.add(NONE);
            }
            List<int[]> taken = new ArrayList<>();
            while (!left.isEmpty()) {
                int[] next = sumsOf(size).stream().filter(r -> left.stream().allMatch(b -> tellsOf(b, r) % 2 == 1)
                        && left.stream().anyMatch(b -> tellsOf(b, r) >= 6)).findFirst().orElse(null);
                if (next == null) {
                    break;
                }
                for (int b = 0; b < bodies.size(); b++) {
                    if (left.contains(b) && tellsOf(b, next) >= 6) {
                        left.remove(b);
                        by.set(b, taken.size());
                    }
                }
                taken.add(next);
            }
            found = taken.isEmpty() ? found : taken;
            return left.isEmpty() ? taken.size() : OPEN;
        }

        long found(int k, int i) {
            return k < 0 || k >= found.size() || i < 0 || i > 2 ? -1000 : found.get(k)[i];
        }

        long by(int b) {
            return isBody(b) && b < by.size() ? by.get(b) : NONE;
        }

        long bound() {
            if (ranking == null || changed) {
                return NONE;
            }
            for (int i = 0; i < n; i++) {
                if ((theBox[i][0] != null && x[i] < theBox[i][0]) || (theBox[i][1] != null && x[i] > theBox[i][1])) {
                    return OPEN;
                }
            }
            return Math.max(0, valueOf(asRow(ranking), x) - floorOf(ranking) + 1);
        }

        // ---- the box

        long begin(int i, int side, int v) {
            if (!isNumber(i) || side < 0 || side > 1 || (!within(v, 1000000) && v != -2000000)) {
                return NONE;
            }
            start[i][side] = v == -2000000 ? null : Long.valueOf(v);
            return 0;
        }

        /** Null: open. */
        private static Long endOf(long[] row, Long[][] box, int side) {
            long sum = row[3];
            for (int i = 0; i < 3; i++) {
                Long end = row[i] == 0 ? Long.valueOf(0) : box[i][row[i] > 0 ? side : 1 - side];
                if (end == null) {
                    return null;
                }
                sum += row[i] * end;
            }
            return sum;
        }

        private static Long wider(Long was, Long end, int side) {
            return was == null || end == null ? null
                    : Long.valueOf(side == 0 ? Math.min(was, end) : Math.max(was, end));
        }

        private Long[][] roundFrom(Long[][] box) {
            Long[][] next = {box[0].clone(), box[1].clone(), box[2].clone()};
            for (ModelBody body : bodies) {
                boolean passed = false;
                for (long[] row : body.guards) {
                    Long greatest = endOf(row, box, 1);
                    passed |= greatest != null && greatest < 0;
                }
                for (int i = 0; i < n && !passed; i++) {
                    for (int side = 0; side < 2; side++) {
                        next[i][side] = wider(next[i][side], endOf(body.rules[i], box, side), side);
                    }
                }
            }
            return next;
        }

        long round(int w) {
            if (w < 1 || w > 20) {
                return NONE;
            }
            for (Long[] ends : start) {
                if (ends[0] != null && ends[1] != null && ends[0] > ends[1]) {
                    return NONE;
                }
            }
            Long[][] box = start;
            for (int round = 1; ; round++) {
                Long[][] next = roundFrom(box);
                if (Arrays.deepEquals(box, next)) {
                    theBox = next;
                    changed = true;
                    known.clear();
                    return round;
                }
                for (int i = 0; i < 3; i++) {
                    for (int side = 0; side < 2; side++) {
                        boolean same = box[i][side] == null || box[i][side].equals(next[i][side]);
                        next[i][side] = same || round < w ? next[i][side] : null;
                        if (next[i][side] != null && !within(next[i][side], 1000000000L)) {
                            return OUT;
                        }
                    }
                }
                box = next;
            }
        }

        long box(int i, int side) {
            boolean none = !isNumber(i) || side < 0 || side > 1 || theBox[i][side] == null;
            return none ? OPEN_END : theBox[i][side];
        }

        long open() {
            changeLoop();
            return 0;
        }

        // ---- calls

        long call(int f, int g, int tells) {
            if (f < 0 || f > 7 || g < 0 || g > 7 || tells < 0 || tells >= 43046721) {
                return NONE;
            }
            if (calls.size() == 40) {
                return FULL;
            }
            int[] call = new int[18];
            call[0] = f;
            call[1] = g;
            for (int p = 17, rest = tells; p >= 2; p--, rest /= 3) {
                call[p] = rest % 3;
            }
            calls.add(call);
            return calls.size() - 1;
        }

        long clear() {
            int before = calls.size();
            calls.clear();
            return before;
        }

        private static int[] together(int[] one, int[] other) {
            int[] both = new int[18];
            both[0] = one[0];
            both[1] = other[1];
            for (int i = 0; i < 4; i++) {
                for (int j = 0; j < 4; j++) {
                    int most = 0;
                    for (int m = 0; m < 4; m++) {
                        int a = one[2 + 4 * i + m];
                        int b = other[2 + 4 * m + j];
                        most = Math.max(most, a == 0 || b == 0 ? 0 : Math.max(a, b));
                    }
                    both[2 + 4 * i + j] = most;
                }
            }
            return both;
        }

        private static long numberOf(int[] one) {
            long number = 0;
            for (int p = 0; p < 18; p++) {
                number = (p < 2 ? 8 : 3) * number + one[p];
            }
            return number;
        }

        /** Null: more than 1000. */
        private List<int[]> makeAll() {
            Set<Long> there = new HashSet<>();
            List<int[]> all = new ArrayList<>();
            for (int[] call : calls) {
                if (there.add(numberOf(call))) {
                    all.add(call);
                }
            }
            for (int a = 0; a < all.size(); a++) {
                for (int b = 0; b <= a; b++) {
                    for (int[][] two : new int[][][] {{all.get(a), all.get(b)}, {all.get(b), all.get(a)}}) {
                        if (two[0][1] == two[1][0]) {
                            int[] both = together(two[0], two[1]);
                            if (there.add(numberOf(both))) {
                                all.add(both);
                            }
                            if (all.size() > 1000) {
                                return null;
                            }
                        }
                    }
                }
            }
            return all;
        }

        private static boolean isAsAsked(int[] one) {
            boolean again = one[0] == one[1] && Arrays.equals(together(one, one), one);
            return !again || one[2] == 2 || one[7] == 2 || one[12] == 2 || one[17] == 2;
        }

        long ending() {
            List<int[]> all = makeAll();
            if (all == null) {
                made = 1000;
                return OPEN;
            }
            made = all.size();
            int[] first = all.stream().filter(one -> !isAsAsked(one))
                    .min(Comparator.comparingLong(Model::numberOf)).orElse(null);
            if (first == null) {
                return 1;
            }
            witness = new int[] {first[0], (int) (numberOf(first) % 43046721)};
            return 0;
        }

        long made() {
            return made == null ? NONE : made;
        }

        long witness(int what) {
            return witness == null || what < 0 || what > 1 ? NONE : witness[what];
        }
    }

    /**
     * Rows g0, g1, g2, c that say g x + c is 0 or more. Whatever follows from
     * them is said by adding up a few of them, each times 0 or more: at most
     * three, none of which follows from the others, for a bound, four for a contradiction.
     */
    private static final class Rows {
        private static long dot(long[] a, long[] b) {
            return a[0] * b[0] + a[1] * b[1] + a[2] * b[2];
        }

        private static long[] cross(long[] a, long[] b) {
            return new long[] {
                a[1] * b[2] - a[2] * b[1], a[2] * b[0] - a[0] * b[2], a[0] * b[1] - a[1] * b[0]
            };
        }

        private static boolean isZero(long[] a) {
            return a[0] == 0 && a[1] == 0 && a[2] == 0;
        }

        /** Whether the rows, so many times each, add up to "below 0 is 0 or more". */
        private static boolean isContradiction(long[][] rows, long... times) {
            long sum = 0;
            for (int k = 0; k < rows.length; k++) {
                if (times[k] < 0) {
                    return false;
                }
                sum += times[k] * rows[k][3];
            }
            return sum < 0;
        }

        static boolean areAtOdds(List<long[]> rows) {
            for (long[] a : rows) {
                if (isZero(a) && isContradiction(new long[][] {a}, 1)) {
                    return true;
                }
                for (long[] b : rows) {
                    if (isZero(cross(a, b)) && !isZero(a) && !isZero(b)
                            && isContradiction(new long[][] {a, b}, dot(b, b), -dot(a, b))) {
                        return true;
                    }
                    for (long[] c : rows) {
                        if (areThreeAtOdds(a, b, c)) {
                            return true;
                        }
                        for (long[] d : rows) {
                            if (isContradiction(new long[][] {a, b, c, d}, dot(b, cross(c, d)),
                                    -dot(a, cross(c, d)), dot(a, cross(b, d)), -dot(a, cross(b, c)))) {
                                return true;
                            }
                        }
                    }
                }
            }
            return false;
        }

        /** Three in one plane. */
        private static boolean areThreeAtOdds(long[] a, long[] b, long[] c) {
            long[] up = cross(a, b);
            return !isZero(up) && dot(up, c) == 0 && isContradiction(new long[][] {a, b, c},
                    dot(cross(b, c), up), dot(cross(c, a), up), dot(up, up));
        }

        /** The greatest whole number that is nowhere above the row's value; null: there is none. */
        static Long floorOf(List<long[]> rows, long[] row) {
            Long best = isZero(row) ? Long.valueOf(row[3]) : null;
            int many = rows.size();
            for (int i = 0; i < many; i++) {
                long[] a = rows.get(i);
                if (!isZero(a) && isZero(cross(row, a))) {
                    best = better(best, row[3], dot(a, a), new long[][] {a}, dot(row, a));
                }
                for (int j = 0; j < i; j++) {
                    long[] b = rows.get(j);
                    long[] up = cross(a, b);
                    if (!isZero(up) && dot(up, row) == 0) {
                        best = better(best, row[3], dot(up, up), new long[][] {a, b},
                                dot(cross(row, b), up), dot(cross(a, row), up));
                    }
                    for (int k = 0; k < j; k++) {
                        long[] c = rows.get(k);
                        long whole = dot(up, c);
                        if (whole != 0) {
                            long sign = Long.signum(whole);
                            best = better(best, row[3], Math.abs(whole), new long[][] {a, b, c},
                                    sign * dot(row, cross(b, c)), sign * dot(a, cross(row, c)),
                                    sign * dot(a, cross(b, row)));
                        }
                    }
                }
            }
            return best;
        }

        /** whole * (row - c) = the rows, so many times each: then row is c - (their constants) / whole or more. */
        private static Long better(Long best, long c, long whole, long[][] rows, long... times) {
            long sum = 0;
            for (int k = 0; k < rows.length; k++) {
                if (times[k] < 0) {
                    return best;
                }
                sum += times[k] * rows[k][3];
            }
            long its = c + Math.floorDiv(-sum, whole);
            return best == null ? Long.valueOf(its) : Long.valueOf(Math.max(best, its));
        }
    }
}
