import java.math.BigInteger;
import java.util.ArrayList;
import java.util.Arrays;
import java.util.Comparator;
import java.util.HashMap;
import java.util.HashSet;
import java.util.LinkedHashSet;
import java.util.List;
import java.util.Map;
import java.util.Random;
import java.util.Set;
import java.util.TreeMap;

/**
 * Many small loops and calls, drawn from a fixed seed, answered by slow and
 * other means: the ends of a sum by doing away with one number after the
 * other (Fourier and Motzkin), rings by keeping all places, what is MADE by
 * putting together each two.
 */
public final class OracleTest {
    private static final long OPEN_END = -3000000000000L;
    private static final long NO_FLOOR = -9000000000000000L;
    private static final Map<String, Integer> SEEN = new TreeMap<>();
    private static int wrong = 0;
    private static int checked = 0;
    private static String told = "";

    private static void due(String what, long got, long want) {
        checked++;
        if (got != want) {
            wrong++;
            if (wrong < 20) {
                System.out.println(told + what + " answered " + got + ", due is " + want);
            }
        }
    }

    private static void seen(String what) {
        SEEN.merge(what, 1, Integer::sum);
    }

    public static void main(String[] args) {
        Random random = new Random(20261118L);
        for (int round = 0; round < 1500; round++) {
            Draw draw = new Draw(random, 1 + round % 3, round % 7 == 6);
            draw.askSums(random);
            draw.askBox(random);
            draw.askSums(random);
            draw.askRuns(random);
        }
        for (int round = 0; round < 400; round++) {
            Draw draw = new Draw(random);
            draw.askFarBox(random);
            draw.askFarSums(random);
            draw.askRuns(random);
        }
        for (int round = 0; round < 400; round++) {
            askCalls(random, round);
        }
        askMostMade();
        System.out.println(SEEN);
        System.out.println(checked + " answers looked at, " + wrong + " not as due");
        if (wrong != 0) {
            System.exit(1);
        }
    }

    /** The least and the greatest value of a sum: null is none. */
    private static final class Range {
        boolean empty;
        BigInteger[] least;
        BigInteger[] greatest;

        boolean atMost(long v) {
            return empty || (greatest != null
                    && greatest[0].compareTo(greatest[1].multiply(BigInteger.valueOf(v))) <= 0);
        }

        long floor() {
            BigInteger[] parts = least[0].divideAndRemainder(least[1]);
            long whole = parts[0].longValueExact();
            return parts[1].signum() < 0 ? whole - 1 : whole;
        }
    }

    private static int compare(BigInteger[] a, BigInteger[] b) {
        return a[0].multiply(b[1]).compareTo(b[0].multiply(a[1]));
    }

    /** rows: weights of three numbers and a constant; each is to be 0 or more. */
    private static Range rangeOf(List<long[]> rows, long[] sum) {
        int pivot = sum[0] != 0 ? 0 : sum[1] != 0 ? 1 : sum[2] != 0 ? 2 : -1;
        Set<List<BigInteger>> now = new HashSet<>();
        for (long[] row : rows) {
            BigInteger[] big = new BigInteger[5];
            long scale = pivot < 0 ? 1 : Math.abs(sum[pivot]);
            long part = pivot < 0 ? 0 : row[pivot] * Long.signum(sum[pivot]);
            for (int j = 0; j < 3; j++) {
                big[j] = j == pivot ? BigInteger.ZERO : BigInteger.valueOf(row[j] * scale - part * sum[j]);
            }
            big[3] = BigInteger.valueOf(part);
            big[4] = BigInteger.valueOf(row[3]).multiply(BigInteger.valueOf(scale))
                    .subtract(BigInteger.valueOf(part).multiply(BigInteger.valueOf(sum[3])));
            now.add(lowest(big));
        }
        for (int j = 0; j < 3; j++) {
            now = without(now, j);
        }
        return rangeOfLast(now, pivot < 0 ? BigInteger.valueOf(sum[3]) : null);
    }

    private static List<BigInteger> lowest(BigInteger[] row) {
        BigInteger common = BigInteger.ZERO;
        for (BigInteger part : row) {
            common = common.gcd(part);
        }
        List<BigInteger> answer = new ArrayList<>();
        for (BigInteger part : row) {
            answer.add(common.signum() == 0 ? part : part.divide(common));
        }
        return answer;
    }

    private static Set<List<BigInteger>> without(Set<List<BigInteger>> rows, int j) {
        Set<List<BigInteger>> answer = new HashSet<>();
        for (List<BigInteger> a : rows) {
            if (a.get(j).signum() == 0) {
                answer.add(a);
            }
            if (a.get(j).signum() > 0) {
                for (List<BigInteger> b : rows) {
                    if (b.get(j).signum() < 0) {
                        BigInteger[] both = new BigInteger[5];
                        for (int t = 0; t < 5; t++) {
                            both[t] = b.get(t).multiply(a.get(j)).subtract(a.get(t).multiply(b.get(j)));
                        }
                        answer.add(lowest(both));
                    }
                }
            }
        }
        return answer;
    }

    private static Range rangeOfLast(Set<List<BigInteger>> rows, BigInteger fixed) {
        Range range = new Range();
        if (fixed != null) {
            range.least = new BigInteger[] {fixed, BigInteger.ONE};
            range.greatest = range.least;
        }
        for (List<BigInteger> row : rows) {
            BigInteger a = row.get(3);
            BigInteger c = row.get(4);
            if (a.signum() == 0) {
                range.empty |= c.signum() < 0;
            } else if (a.signum() > 0) {
                BigInteger[] end = {c.negate(), a};
                range.least = range.least == null || compare(range.least, end) < 0 ? end : range.least;
            } else {
                BigInteger[] end = {c, a.negate()};
                range.greatest = range.greatest == null || compare(range.greatest, end) > 0 ? end : range.greatest;
            }
        }
        if (range.least != null && range.greatest != null && compare(range.least, range.greatest) > 0) {
            range.empty = true;
        }
        return range;
    }

    private static int code(long[] weights) {
        return (int) (((weights[0] + 20) * 41 + weights[1] + 20) * 41 + weights[2] + 20);
    }

    /** A loop that was drawn, and the court that was told of it. */
    private static final class Draw {
        final EndingCourt court = new EndingCourt();
        final int n;
        final boolean wild;
        final List<List<long[]>> guards = new ArrayList<>();
        final List<long[][]> rules = new ArrayList<>();
        final Long[][] box = new Long[3][2];
        final Map<String, Integer> known = new HashMap<>();
        final StringBuilder text = new StringBuilder();

        Draw(Random random, int n, boolean wild) {
            this.n = n;
            this.wild = wild;
            court.loop(n);
            text.append("loop(").append(n).append(") ");
            int bodies = random.nextInt(8) == 0 ? 5 : 1 + random.nextInt(3);
            for (int b = 0; b < bodies; b++) {
                addBody(random, b);
            }
            told = text.toString();
        }

        /**
         * All weights, constants and ends as far out as they may be. Body 0
         * makes the box wide, but never has its turn; the others lead from x2
         * to x1 to x0 alone, so that the box holds.
         */
        Draw(Random random) {
            n = 3;
            wild = true;
            court.loop(n);
            text.append("loop(3) ");
            int bodies = 2 + random.nextInt(4);
            for (int b = 0; b < bodies; b++) {
                court.body();
                text.append("body() ");
                guards.add(new ArrayList<>());
                rules.add(new long[3][]);
                int many = b == 0 ? 2 : random.nextInt(7);
                for (int g = 0; g < many; g++) {
                    long[] never = {0, 0, g == 0 ? 1 : -1, g == 0 ? -1 : 0};
                    tellGuard(b, b == 0 ? never : drawFar(random, 3));
                }
                for (int i = 0; i < 3; i++) {
                    boolean same = b > 0 && random.nextInt(3) == 0;
                    long[] itself = {i == 0 ? 1 : 0, i == 1 ? 1 : 0, i == 2 ? 1 : 0, 0};
                    tellRule(b, i, same || i == 2 && b == 0 ? itself : drawFarRule(random, i));
                }
            }
            told = text.toString();
        }

        private void tellGuard(int b, long[] row) {
            due("guard", court.guard(b, code(row), (int) row[3]), guards.get(b).size() + 1);
            text.append("guard(" + b + ", " + code(row) + ", " + row[3] + ") ");
            guards.get(b).add(row);
        }

        private void tellRule(int b, int i, long[] row) {
            due("rule", court.rule(b, i, code(row), (int) row[3]), 0);
            text.append("rule(" + b + ", " + i + ", " + code(row) + ", " + row[3] + ") ");
            rules.get(b)[i] = row;
        }

        private static int far(Random random, int most) {
            int v = random.nextInt(6) == 0 ? random.nextInt(most + 1) : most - random.nextInt(2);
            return random.nextBoolean() ? v : -v;
        }

        private static long[] drawFar(Random random, int parts) {
            long[] row = new long[4];
            for (int j = 3 - parts; j < 3; j++) {
                row[j] = random.nextInt(4) == 0 ? 0 : far(random, 20);
            }
            row[3] = far(random, 1000);
            return row;
        }

        private static long[] drawFarRule(Random random, int i) {
            return drawFar(random, 2 - i);
        }

        void askFarBox(Random random) {
            Long[][] from = new Long[3][2];
            for (int i = 0; i < n; i++) {
                int a = far(random, 1000000);
                int b = far(random, 1000000);
                from[i][0] = i < 2 && random.nextInt(9) == 0 ? null : Long.valueOf(Math.min(a, b));
                from[i][1] = i < 2 && random.nextInt(9) == 0 ? null : Long.valueOf(Math.max(a, b));
            }
            askRound(from, 20);
            if (box[0][0] != null && box[0][1] != null) {
                seen("far box of " + String.valueOf(box[0][1] - box[0][0]).length() + " digits");
            }
        }

        void askFarSums(Random random) {
            known.clear();
            for (int k = 0; k < 40; k++) {
                int[] sum = new int[3];
                for (int i = 0; i < n; i++) {
                    sum[i] = random.nextInt(3) == 0 ? 0 : far(random, 100);
                }
                askSum(sum);
            }
            askRank(1);
            askRows(1);
        }

        private void addBody(Random random, int b) {
            court.body();
            text.append("body() ");
            guards.add(new ArrayList<>());
            long[][] own = new long[3][4];
            for (int i = 0; i < 3; i++) {
                own[i][i] = 1;
            }
            rules.add(own);
            int many = random.nextInt(wild ? 7 : 5);
            for (int g = 0; g < many; g++) {
                long[] row = drawGuard(random);
                due("guard", court.guard(b, code(row), (int) row[3]), g + 1);
                text.append("guard(" + b + ", " + code(row) + ", " + row[3] + ") ");
                cut(row);
                guards.get(b).add(row);
            }
            for (int i = 0; i < n; i++) {
                if (random.nextInt(3) > 0) {
                    long[] row = drawRule(random, i);
                    due("rule", court.rule(b, i, code(row), (int) row[3]), 0);
                    text.append("rule(" + b + ", " + i + ", " + code(row) + ", " + row[3] + ") ");
                    cut(row);
                    own[i] = row;
                }
            }
        }

        private void cut(long[] row) {
            for (int i = n; i < 3; i++) {
                row[i] = 0;
            }
        }

        private long[] drawGuard(Random random) {
            long[] row = new long[4];
            if (wild) {
                for (int i = 0; i < 3; i++) {
                    row[i] = random.nextInt(41) - 20;
                }
                row[3] = random.nextInt(2001) - 1000;
            } else {
                row[random.nextInt(3)] += random.nextInt(5) - 1;
                row[random.nextInt(3)] += random.nextInt(3) - 1;
                row[3] = random.nextInt(12) - 5;
            }
            return row;
        }

        private long[] drawRule(Random random, int i) {
            long[] row = new long[4];
            if (wild && random.nextBoolean()) {
                for (int j = 0; j < 3; j++) {
                    row[j] = random.nextInt(41) - 20;
                }
                row[3] = random.nextInt(2001) - 1000;
                return row;
            }
            int kind = random.nextInt(6);
            row[i] = kind == 0 ? 0 : 1;
            if (kind == 1) {
                row[random.nextInt(3)] += random.nextInt(3) - 1;
            }
            if (kind == 2) {
                row[i] = -1;
            }
            row[3] = random.nextInt(kind == 0 ? 20 : 5) - 3;
            return row;
        }

        List<long[]> placeOf(int b) {
            List<long[]> rows = new ArrayList<>(guards.get(b));
            for (int i = 0; i < 3; i++) {
                for (int side = 0; side < 2; side++) {
                    Long end = i < n ? box[i][side] : Long.valueOf(0);
                    if (end != null) {
                        long[] row = new long[4];
                        row[i] = side == 0 ? 1 : -1;
                        row[3] = side == 0 ? -end : end;
                        rows.add(row);
                    }
                }
            }
            return rows;
        }

        Range valueRange(int b, int[] sum) {
            return rangeOf(placeOf(b), new long[] {sum[0], sum[1], sum[2], 0});
        }

        int tells(int b, int[] sum) {
            return known.computeIfAbsent(b + ":" + Arrays.toString(sum), key -> {
                long[] change = {-sum[0], -sum[1], -sum[2], 0};
                for (int i = 0; i < 3; i++) {
                    for (int t = 0; t < 4; t++) {
                        change[t] += sum[i] * rules.get(b)[i][t];
                    }
                }
                Range value = valueRange(b, sum);
                Range changed = rangeOf(placeOf(b), change);
                return (value.empty || value.least != null ? 4 : 0)
                        + (changed.atMost(-1) ? 2 : 0) + (changed.atMost(0) ? 1 : 0);
            });
        }

        boolean ranks(int[] sum) {
            for (int b = 0; b < guards.size(); b++) {
                if (tells(b, sum) < 6) {
                    return false;
                }
            }
            return true;
        }

        long floor(int[] sum) {
            long least = Long.MAX_VALUE;
            for (int b = 0; b < guards.size(); b++) {
                Range value = valueRange(b, sum);
                if (!value.empty) {
                    least = Math.min(least, value.floor());
                }
            }
            return least == Long.MAX_VALUE ? 0 : least;
        }

        List<int[]> sums(int size) {
            List<int[]> all = new ArrayList<>();
            for (int a = -size; a <= size; a++) {
                for (int b = -size; b <= size; b++) {
                    for (int c = -size; c <= size; c++) {
                        boolean there = (n > 1 || b == 0) && (n > 2 || c == 0);
                        if (there && (a != 0 || b != 0 || c != 0)) {
                            all.add(new int[] {a, b, c});
                        }
                    }
                }
            }
            all.sort(Comparator.<int[]>comparingInt(s -> Math.abs(s[0]) + Math.abs(s[1]) + Math.abs(s[2]))
                    .thenComparingInt(s -> s[0]).thenComparingInt(s -> s[1]).thenComparingInt(s -> s[2]));
            return all;
        }

        void askSums(Random random) {
            known.clear();
            for (int k = 0; k < 12; k++) {
                int[] sum = new int[3];
                int reach = k < 6 ? 2 : k < 10 ? 12 : 100;
                for (int i = 0; i < n; i++) {
                    sum[i] = random.nextInt(2 * reach + 1) - reach;
                }
                askSum(sum);
            }
            int most = n == 1 ? 5 : n == 2 ? 3 : 2;
            int size = 1 + random.nextInt(most);
            askRank(size);
            askRows(size);
        }

        private void askSum(int[] sum) {
            String text = Arrays.toString(sum);
            for (int b = 0; b < guards.size(); b++) {
                int want = tells(b, sum);
                seen("tells " + want);
                due("tells " + b + text, court.tells(b, sum[0], sum[1], sum[2]), want);
            }
            due("ranks " + text, court.ranks(sum[0], sum[1], sum[2]), ranks(sum) ? 1 : 0);
            due("floor " + text, court.floor(sum[0], sum[1], sum[2]), ranks(sum) ? floor(sum) : NO_FLOOR);
        }

        private void askRank(int size) {
            int[] first = null;
            for (int[] sum : sums(size)) {
                if (first == null && ranks(sum)) {
                    first = sum;
                }
            }
            seen("rank " + (first != null));
            due("rank " + size, court.rank(size), first == null ? 0 : 1);
            if (first == null) {
                due("bound", court.bound(), -1);
                return;
            }
            for (int i = 0; i < 3; i++) {
                due("found 0 " + i, court.found(0, i), first[i]);
            }
            due("found 1", court.found(1, 0), -1000);
            long want = 1 - floor(first);
            boolean inside = true;
            for (int i = 0; i < n; i++) {
                long at = court.at(i);
                want += first[i] * at;
                inside &= box[i][0] == null || box[i][0] <= at;
                inside &= box[i][1] == null || box[i][1] >= at;
            }
            seen("bound inside " + inside);
            due("bound", court.bound(), inside ? Math.max(0, want) : -3);
        }

        private void askRows(int size) {
            int[] by = new int[guards.size()];
            Arrays.fill(by, -1);
            List<int[]> taken = new ArrayList<>();
            boolean going = true;
            while (going) {
                going = false;
                for (int[] sum : sums(size)) {
                    boolean stays = true;
                    boolean helps = false;
                    for (int b = 0; b < by.length; b++) {
                        stays &= by[b] >= 0 || (tells(b, sum) & 1) != 0;
                        helps |= by[b] < 0 && tells(b, sum) >= 6;
                    }
                    if (stays && helps) {
                        for (int b = 0; b < by.length; b++) {
                            by[b] = by[b] < 0 && tells(b, sum) >= 6 ? taken.size() : by[b];
                        }
                        taken.add(sum);
                        going = true;
                        break;
                    }
                }
            }
            boolean all = Arrays.stream(by).allMatch(k -> k >= 0);
            seen("rows " + (all ? "" : "open ") + taken.size());
            due("rows " + size, court.rows(size), all ? taken.size() : -3);
            for (int b = 0; b < by.length; b++) {
                due("by " + b, court.by(b), by[b]);
            }
            for (int k = 0; k < taken.size(); k++) {
                for (int i = 0; i < 3; i++) {
                    due("found " + k + " " + i, court.found(k, i), taken.get(k)[i]);
                }
            }
        }

        void askBox(Random random) {
            Long[][] from = new Long[3][2];
            for (int i = 0; i < n; i++) {
                int least = random.nextInt(wild ? 1000 : 12) - 6;
                int greatest = least + random.nextInt(wild ? 900000 : 12) - (random.nextInt(20) == 0 ? 3 : 0);
                from[i][0] = random.nextInt(7) == 0 ? null : Long.valueOf(least);
                from[i][1] = random.nextInt(7) == 0 ? null : Long.valueOf(greatest);
            }
            askRound(from, 1 + random.nextInt(random.nextBoolean() ? 4 : 20));
        }

        private void askRound(Long[][] from, int w) {
            for (int i = 0; i < n; i++) {
                for (int side = 0; side < 2; side++) {
                    int v = from[i][side] == null ? -2000000 : from[i][side].intValue();
                    court.begin(i, side, v);
                    text.append("begin(" + i + ", " + side + ", " + v + ") ");
                }
            }
            text.append("round(" + w + ") ");
            told = text.toString();
            int want = goRound(from, w);
            seen("round " + (want > 0 ? "holds" : String.valueOf(want)));
            due("round", court.round(w), want);
            for (int i = 0; i < n; i++) {
                for (int side = 0; side < 2; side++) {
                    due("box " + i + side, court.box(i, side), box[i][side] == null ? OPEN_END : box[i][side]);
                }
            }
        }

        private Long end(long[] row, Long[][] over, int side) {
            long sum = row[3];
            for (int i = 0; i < n; i++) {
                if (row[i] != 0) {
                    Long end = over[i][row[i] > 0 ? side : 1 - side];
                    if (end == null) {
                        return null;
                    }
                    sum += row[i] * end;
                }
            }
            return sum;
        }

        private int goRound(Long[][] from, int w) {
            for (int i = 0; i < n; i++) {
                if (from[i][0] != null && from[i][1] != null && from[i][0] > from[i][1]) {
                    return -1;
                }
            }
            Long[][] now = from;
            for (int round = 1; ; round++) {
                Long[][] next = new Long[3][];
                boolean changed = false;
                for (int i = 0; i < n; i++) {
                    next[i] = now[i].clone();
                    for (int side = 0; side < 2 ; side++) {
                        for (int b = 0; b < guards.size(); b++) {
                            if (!passedOver(b, now) && next[i][side] != null) {
                                Long v = end(rules.get(b)[i], now, side);
                                next[i][side] = v == null ? null
                                        : side == 0 ? Long.valueOf(Math.min(v, next[i][side]))
                                        : Long.valueOf(Math.max(v, next[i][side]));
                            }
                        }
                        if (now[i][side] != null && !now[i][side].equals(next[i][side])) {
                            changed = true;
                            next[i][side] = round >= w ? null : next[i][side];
                        }
                    }
                }
                for (int i = 0; i < n; i++) {
                    for (Long end : next[i]) {
                        if (end != null && Math.abs(end) > 1000000000L) {
                            return -4;
                        }
                    }
                }
                if (!changed) {
                    for (int i = 0; i < n; i++) {
                        box[i] = next[i];
                    }
                    return round;
                }
                now = next;
            }
        }

        private boolean passedOver(int b, Long[][] now) {
            for (long[] guard : guards.get(b)) {
                Long greatest = end(guard, now, 1);
                if (greatest != null && greatest < 0) {
                    return true;
                }
            }
            return false;
        }

        void askRuns(Random random) {
            for (int k = 0; k < 8; k++) {
                long[] x = new long[3];
                for (int i = 0; i < n; i++) {
                    x[i] = random.nextInt(k < 6 ? 21 : 2000001) - (k < 6 ? 10 : 1000000);
                    court.set(i, (int) x[i]);
                }
                told = text + Arrays.toString(x);
                askRing(x, 1 + random.nextInt(k % 2 == 0 ? 20 : 300));
                askRun(x, 1 + random.nextInt(30));
            }
        }

        private int chosen(long[] x) {
            for (int b = 0; b < guards.size(); b++) {
                boolean holds = true;
                for (long[] g : guards.get(b)) {
                    holds &= g[0] * x[0] + g[1] * x[1] + g[2] * x[2] + g[3] >= 0;
                }
                if (holds) {
                    return b;
                }
            }
            return -1;
        }

        private long[] behind(long[] x, int b) {
            long[] y = new long[3];
            for (int i = 0; i < n; i++) {
                long[] u = rules.get(b)[i];
                y[i] = u[0] * x[0] + u[1] * x[1] + u[2] * x[2] + u[3];
            }
            return y;
        }

        private boolean isOut(long[] x) {
            return Arrays.stream(x).anyMatch(v -> Math.abs(v) > 1000000000000L);
        }

        private void askRing(long[] start, int turns) {
            Map<String, Integer> at = new HashMap<>();
            long[] x = start;
            int want = 0;
            int lead = court.ahead();
            at.put(Arrays.toString(x), 0);
            for (int t = 1; t <= turns; t++) {
                int b = chosen(x);
                if (b < 0) {
                    break;
                }
                x = behind(x, b);
                if (isOut(x)) {
                    want = -4;
                    break;
                }
                Integer first = at.put(Arrays.toString(x), t);
                if (first != null) {
                    want = t - first;
                    lead = first;
                    break;
                }
            }
            seen("ring " + (want > 0 ? lead > 0 ? "with a lead" : "at once" : String.valueOf(want)));
            due("ring " + turns, court.ring(turns), want);
            due("ahead", court.ahead(), lead);
            for (int i = 0; i < n; i++) {
                due("at behind ring", court.at(i), start[i]);
            }
        }

        private void askRun(long[] start, int turns) {
            long[] x = start;
            int want = 0;
            due("turn", court.turn(), chosen(x));
            while (want >= 0 && want < turns && chosen(x) >= 0) {
                long[] y = behind(x, chosen(x));
                want = isOut(y) ? -4 : want + 1;
                x = isOut(y) ? x : y;
            }
            due("run " + turns, court.run(turns), want);
            for (int i = 0; i < n; i++) {
                due("at behind run", court.at(i), x[i]);
            }
        }
    }

    private static void askCalls(Random random, int round) {
        List<int[]> calls = new ArrayList<>();
        int functions = 1 + random.nextInt(round % 10 == 9 ? 8 : 3);
        int many = random.nextInt(round % 10 == 9 ? 30 : 5);
        int dense = 1 + random.nextInt(5);
        for (int c = 0; c < many; c++) {
            int f = random.nextInt(functions);
            int g = random.nextInt(functions);
            int number = 0;
            for (int p = 0; p < 16; p++) {
                number = 3 * number + (random.nextInt(8) < dense ? 1 + random.nextInt(2) : 0);
            }
            calls.add(new int[] {f, g, number});
        }
        askEnding(new EndingCourt(), calls);
    }

    /** 997 are MADE of the first four; each further call, which leads nowhere, is one more. */
    private static void askMostMade() {
        List<int[]> calls = new ArrayList<>();
        for (int number : new int[] {275582, 3306924, 6023513, 4645}) {
            calls.add(new int[] {0, 0, number});
        }
        for (int more = 0; more < 6; more++) {
            EndingCourt court = new EndingCourt();
            askEnding(court, calls);
            due("made with " + more + " more", court.made(), Math.min(1000, 997 + more));
            due("ending with " + more + " more", court.ending(), more <= 3 ? 0 : -3);
            calls.add(new int[] {6, 7, more});
        }
    }

    private static void askEnding(EndingCourt court, List<int[]> calls) {
        Set<List<Integer>> seeds = new LinkedHashSet<>();
        StringBuilder text = new StringBuilder();
        for (int c = 0; c < calls.size(); c++) {
            int[] call = calls.get(c);
            text.append("call(" + call[0] + ", " + call[1] + ", " + call[2] + ") ");
            due("call", court.call(call[0], call[1], call[2]), c);
            List<Integer> seed = new ArrayList<>(List.of(call[0], call[1]));
            int high = 14348907;
            for (int p = 0; p < 16; p++) {
                seed.add(call[2] / high % 3);
                high /= 3;
            }
            seeds.add(seed);
        }
        told = text.toString();
        List<List<Integer>> all = closure(seeds);
        if (all == null) {
            seen("ending open");
            due("ending", court.ending(), -3);
            due("made", court.made(), 1000);
            due("witness", court.witness(0), -1);
            return;
        }
        int[] fault = null;
        for (List<Integer> one : all) {
            if (isFault(one)) {
                int[] its = {one.get(0), number(one)};
                if (fault == null || its[0] < fault[0] || (its[0] == fault[0] && its[1] < fault[1])) {
                    fault = its;
                }
            }
        }
        seen("ending " + (fault == null));
        due("ending", court.ending(), fault == null ? 1 : 0);
        due("made", court.made(), all.size());
        due("witness 0", court.witness(0), fault == null ? -1 : fault[0]);
        due("witness 1", court.witness(1), fault == null ? -1 : fault[1]);
    }

    /** Null: more than 1000. */
    private static List<List<Integer>> closure(Set<List<Integer>> seeds) {
        List<List<Integer>> all = new ArrayList<>(seeds);
        Set<List<Integer>> there = new HashSet<>(seeds);
        for (int a = 0; a < all.size(); a++) {
            for (int b = 0; b <= a; b++) {
                for (int way = 0; way < 2; way++) {
                    List<Integer> one = all.get(way == 0 ? a : b);
                    List<Integer> other = all.get(way == 0 ? b : a);
                    if (one.get(1).equals(other.get(0))) {
                        List<Integer> both = together(one, other);
                        if (there.add(both)) {
                            all.add(both);
                        }
                        if (all.size() > 1000) {
                            return null;
                        }
                    }
                }
            }
        }
        return all;
    }

    private static List<Integer> together(List<Integer> one, List<Integer> other) {
        List<Integer> both = new ArrayList<>();
        both.add(one.get(0));
        both.add(other.get(1));
        for (int i = 0; i < 4; i++) {
            for (int j = 0; j < 4; j++) {
                boolean two = false;
                boolean ones = false;
                for (int m = 0; m < 4; m++) {
                    int a = one.get(2 + 4 * i + m);
                    int b = other.get(2 + 4 * m + j);
                    two |= (a == 2 && b >= 1) || (b == 2 && a >= 1);
                    ones |= a == 1 && b == 1;
                }
                both.add(two ? 2 : ones ? 1 : 0);
            }
        }
        return both;
    }

    private static boolean isFault(List<Integer> one) {
        if (!one.get(0).equals(one.get(1)) || !together(one, one).equals(one)) {
            return false;
        }
        return one.get(2) != 2 && one.get(7) != 2 && one.get(12) != 2 && one.get(17) != 2;
    }

    private static int number(List<Integer> one) {
        int number = 0;
        for (int p = 2; p < 18; p++) {
            number = 3 * number + one.get(p);
        }
        return number;
    }
}
