import java.util.ArrayList;
import java.util.List;
import java.util.function.ToLongFunction;

/**
 * The boundary cases that the document names, sentence by sentence: the last
 * input that is still allowed, the first that is not, and, where a call is
 * refused, that nothing has changed.
 *
 * That nothing has changed is looked at with a twin: two objects are made by
 * the same calls, one of them gets the refused call, and then both must give
 * the same answers to a long row of calls that looks at all that is kept.
 */
public final class BoundaryTest {
    private static final long OPEN_END = -3000000000000L;
    private static final long NO_FLOOR = -9000000000000000L;
    private static final int OPEN_GIVEN = -2000000;
    private static final int[] FAR = {Integer.MIN_VALUE, Integer.MIN_VALUE + 1, Integer.MAX_VALUE};
    private static int wrong = 0;
    private static int checked = 0;
    private static int sentences = 0;
    private static String sentence = "";

    private static void says(String words) {
        sentence = words;
        sentences++;
    }

    private static void due(String what, long got, long want) {
        checked++;
        if (got != want) {
            wrong++;
            System.out.println("[" + sentence + "] " + what + " answered " + got + ", due is " + want);
        }
    }

    /** Weights as one number. */
    private static int w(int a0, int a1, int a2) {
        return ((a0 + 20) * 41 + a1 + 20) * 41 + a2 + 20;
    }

    /** The weight of one NUMBER, as one number. */
    private static int wOf(int i, int a) {
        return w(i == 0 ? a : 0, i == 1 ? a : 0, i == 2 ? a : 0);
    }

    /** What a CALL tells as one number, from 16 digits. */
    private static int t(String digits) {
        return Integer.parseInt(digits.replace(" ", ""), 3);
    }

    private static EndingCourt withLoop(int n) {
        EndingCourt x = new EndingCourt();
        x.loop(n);
        return x;
    }

    /** One BODY without GUARDS, all of whose RULES are as at first. */
    private static EndingCourt withBody(int n) {
        EndingCourt x = withLoop(n);
        x.body();
        return x;
    }

    // ---- objects in which all is kept that can be kept

    private enum State { FRESH, ONE, TWO, THREE, CROWDED }

    private static EndingCourt make(State state) {
        switch (state) {
            case FRESH:
                return new EndingCourt();
            case CROWDED:
                return crowded();
            default:
                return rich(state.ordinal());
        }
    }

    private static EndingCourt rich(int n) {
        EndingCourt x = withBody(n);
        x.rule(0, 0, w(0, 0, 0), 4);
        x.set(0, 7);
        x.ring(10);
        x.rule(0, 0, w(1, 0, 0), -1);
        x.guard(0, w(1, 0, 0), -1);
        x.body();
        x.guard(1, w(1, 0, 0), -1);
        x.guard(1, w(-1, 0, 0), 900);
        // Body 1 is LEFT here, but no more at rank(): rows() and rank() tell something else.
        x.rows(2);
        x.rule(1, 0, w(1, 0, 0), -2);
        for (int i = 0; i < n; i++) {
            x.begin(i, 0, -3 - i);
            x.begin(i, 1, 20 + i);
            x.set(i, 11 - 3 * i);
        }
        x.round(2);
        x.rank(3);
        x.begin(0, 0, -9);
        x.call(3, 3, t("1000 0000 0000 0000"));
        x.call(2, 2, t("2000 0000 0000 0000"));
        x.ending();
        x.call(1, 1, 0);
        return x;
    }

    /** Five BODIES of six GUARDS each, each LEFT no more by another SUM, and forty CALLS. */
    private static EndingCourt crowded() {
        EndingCourt x = fiveRows();
        for (int b = 0; b < 5; b++) {
            for (int g = 2; g <= 6; g++) {
                x.guard(b, w(0, 0, 0), g);
            }
        }
        x.rows(1);
        for (int i = 0; i < 3; i++) {
            x.begin(i, 0, -5 - i);
            x.begin(i, 1, 5 + i);
            x.set(i, 3 - i);
        }
        x.round(1);
        x.rank(1);
        x.call(0, 0, t("1000 0000 0000 0000"));
        for (int c = 1; c < 40; c++) {
            x.call(6, 7, c);
        }
        x.ending();
        return x;
    }

    /** In each BODY x2 falls by 1, but another SUM is BOUND in each. */
    private static EndingCourt fiveRows() {
        EndingCourt x = withLoop(3);
        int[] guards = {w(-1, 0, 1), w(1, 1, 1), w(0, 0, 1), w(0, 1, 1), w(1, 0, 1)};
        for (int b = 0; b < 5; b++) {
            x.body();
            x.guard(b, guards[b], 0);
            x.rule(b, 2, w(0, 0, 1), -1);
        }
        return x;
    }

    // ---- a view of all that an object keeps

    private static final class View {
        private final EndingCourt x;
        final List<String> lines = new ArrayList<>();

        View(EndingCourt x) {
            this.x = x;
            kept();
            sums();
            runs();
            box("round(2)", x.round(2));
            box("round(20)", x.round(20));
            box("open()", x.open());
            findings("rank(1)", x.rank(1));
            findings("rows(2)", x.rows(2));
            add("ending()", x.ending());
            calls();
            room();
        }

        private void add(String what, long answer) {
            lines.add(what + " = " + answer);
        }

        private void kept() {
            for (int b = -1; b < 6; b++) {
                add("many " + b, x.many(b));
            }
            for (int i = 0; i < 3; i++) {
                add("at " + i, x.at(i));
            }
            add("turn()", x.turn());
            add("ahead()", x.ahead());
            findings("as it is", 0);
            box("as it is", 0);
            calls();
        }

        private void findings(String what, long answer) {
            add(what, answer);
            for (int k = 0; k < 6; k++) {
                add("by " + k, x.by(k));
                for (int i = 0; i < 3; i++) {
                    add("found " + k + " " + i, x.found(k, i));
                }
            }
            add("bound()", x.bound());
        }

        private void box(String what, long answer) {
            add(what, answer);
            for (int i = 0; i < 3; i++) {
                add("box " + i + " least", x.box(i, 0));
                add("box " + i + " greatest", x.box(i, 1));
            }
        }

        private void sums() {
            for (int b = 0; b < 5; b++) {
                add("tells " + b, x.tells(b, 1, 0, 0));
                add("tells " + b, x.tells(b, -1, 2, 0));
                add("tells " + b, x.tells(b, 0, 1, 1));
            }
            add("floor", x.floor(1, 0, 0));
            add("floor", x.floor(3, 1, 0));
            add("floor", x.floor(1, 1, 1));
        }

        private void runs() {
            for (int k = 0; k < 4; k++) {
                for (int i = 0; i < 3; i++) {
                    add("set", x.set(i, k * k * 5 - 7 * i));
                }
                add("turn()", x.turn());
                add("ring(30)", x.ring(30));
                add("run", x.run(1 + k));
                for (int i = 0; i < 3; i++) {
                    add("at " + i, x.at(i));
                }
            }
            add("ahead()", x.ahead());
        }

        private void calls() {
            add("made()", x.made());
            add("witness 0", x.witness(0));
            add("witness 1", x.witness(1));
        }

        /** How much more goes in; then CALLS and NUMBERS that there were. */
        private void room() {
            for (int b = 0; b < 5; b++) {
                int more = 0;
                while (more < 7 && x.guard(b, w(0, 0, 0), 0) > 0) {
                    more++;
                }
                add("guards more", more);
            }
            int more = 0;
            while (more < 6 && x.body() >= 0) {
                more++;
            }
            add("bodies more", more);
            add("clear()", x.clear());
            add("loop(2)", x.loop(2));
        }
    }

    private static void same(String what, EndingCourt x, EndingCourt twin) {
        List<String> got = new View(x).lines;
        List<String> want = new View(twin).lines;
        checked++;
        for (int k = 0; k < want.size(); k++) {
            if (!got.get(k).equals(want.get(k))) {
                wrong++;
                System.out.println("[" + sentence + "] behind " + what + ": " + got.get(k) + ", due is " + want.get(k));
                return;
            }
        }
    }

    private static void refused(State state, String what, ToLongFunction<EndingCourt> call, long want) {
        EndingCourt x = make(state);
        due(state + " " + what, call.applyAsLong(x), want);
        same(state + " " + what, x, make(state));
    }

    private static void refused(String what, ToLongFunction<EndingCourt> call, long want) {
        for (State state : State.values()) {
            refused(state, what, call, want);
        }
    }

    /** The view sees what a call that is not refused changes: else it would prove nothing. */
    private static void seen(String what, ToLongFunction<EndingCourt> before, ToLongFunction<EndingCourt> call) {
        EndingCourt x = rich(2);
        EndingCourt twin = rich(2);
        before.applyAsLong(x);
        before.applyAsLong(twin);
        call.applyAsLong(x);
        checked++;
        if (new View(x).lines.equals(new View(twin).lines)) {
            wrong++;
            System.out.println("[" + sentence + "] " + what + " is not seen");
        }
    }

    private static void seen(String what, ToLongFunction<EndingCourt> call) {
        seen(what, x -> 0, call);
    }

    public static void main(String[] args) {
        theView();
        numbersAndBodies();
        weights();
        turns();
        places();
        allPlanes();
        sums();
        sizes();
        goingRound();
        callTerms();
        answers();
        newObject();
        loop();
        body();
        guard();
        rule();
        many();
        setAndAt();
        run();
        runOut();
        turn();
        ring();
        ringOut();
        ahead();
        ranksAndTells();
        floor();
        rank();
        rows();
        found();
        by();
        bound();
        boundChanged();
        begin();
        round();
        roundOut();
        box();
        open();
        call();
        clear();
        ending();
        made();
        witness();
        System.out.println(sentences + " sentences, " + checked + " answers looked at, " + wrong + " not as due");
        if (wrong != 0) {
            System.exit(1);
        }
    }

    private static void theView() {
        says("the view of this test");
        seen("loop", x -> x.loop(2));
        seen("body", x -> x.body());
        seen("guard", x -> x.guard(0, w(0, 0, 0), 0));
        seen("rule", x -> x.rule(0, 1, w(0, 1, 0), 1));
        seen("rule d", x -> x.rule(0, 0, w(1, 0, 0), -2));
        seen("set", x -> x.set(1, 1));
        seen("run", x -> x.run(1));
        seen("ring", x -> x.body() + x.set(0, 0), x -> x.ring(1));
        seen("rank", x -> x.open(), x -> x.rank(1));
        seen("rows", x -> x.rows(1));
        seen("begin", x -> x.begin(1, 1, 22));
        seen("round", x -> x.round(1));
        seen("open", x -> x.open());
        seen("call", x -> x.call(0, 0, 0));
        seen("clear", x -> x.clear());
        seen("ending", x -> x.ending());
    }

    // ---- Terms

    private static void numbersAndBodies() {
        says("Terms 1: n 1 .. 3; 2 at first");
        due("at first", new EndingCourt().loop(1), 2);
        for (int n = 1; n <= 3; n++) {
            EndingCourt x = withLoop(n);
            due("last number", x.set(n - 1, 1), 0);
            due("none behind it", x.set(n, 1), -1);
            due("n", x.loop(2), n);
        }

        says("Terms 1: BODIES, at most 5, numbered from 0 on");
        EndingCourt five = withLoop(1);
        for (int b = 0; b < 5; b++) {
            due("body()", five.body(), b);
        }
        due("a sixth", five.body(), -2);
        // The fifth one is looked at: only it holds at -3.
        for (int b = 0; b < 4; b++) {
            five.guard(b, w(1, 0, 0), 0);
        }
        five.set(0, -3);
        due("the fifth", five.turn(), 4);

        says("Terms 1: GUARDS, at most 6");
        EndingCourt six = withBody(1);
        for (int g = 1; g <= 5; g++) {
            due("guard", six.guard(0, w(1, 0, 0), 10), g);
        }
        due("x is 0", six.turn(), 0);
        due("the sixth", six.guard(0, w(1, 0, 0), -1), 6);
        due("the sixth counts", six.turn(), -1);
        due("a seventh", six.guard(0, w(0, 0, 0), 0), -2);
    }

    private static void weights() {
        says("Terms 1: weights of NUMBERS that there are not don't count");
        for (int a = -20; a <= 20; a += 40) {
            for (int n = 1; n <= 2; n++) {
                EndingCourt x = withBody(n);
                int code = n == 1 ? w(1, a, a) : w(1, 0, a);
                x.guard(0, code, 0);
                x.rule(0, 0, code, -1);
                x.set(0, 5);
                due("guard", x.turn(), 0);
                due("bound by x0 alone", x.tells(0, 1, 0, 0), 7);
                due("run", x.run(100), 6);
                due("rule", x.at(0), -1);
                x.begin(0, 1, 4);
                due("going round", x.round(1), 2);
                due("box", x.box(0, 1), 4);
            }
        }

        says("Terms 1: weights are -20 .. 20, c and d -1000 .. 1000");
        int[] ends = {-20, 20};
        for (int a0 : ends) {
            for (int a1 : ends) {
                for (int a2 : ends) {
                    EndingCourt x = withBody(3);
                    due("rule", x.rule(0, 0, w(a0, a1, a2), 1000), 0);
                    due("rule", x.rule(0, 1, w(a0, a1, a2), -1000), 0);
                    x.set(0, 1000);
                    x.set(1, 70);
                    x.set(2, 3);
                    x.run(1);
                    int value = 1000 * a0 + 70 * a1 + 3 * a2;
                    due("d 1000", x.at(0), value + 1000);
                    due("d -1000", x.at(1), value - 1000);
                }
            }
        }

        says("Terms 1: a GUARD HOLDS if its value is 0 or more");
        for (int i = 0; i < 3; i++) {
            for (int c = -1000; c <= 1000; c += 2000) {
                for (int a = -20; a <= 20; a += 40) {
                    EndingCourt x = withBody(3);
                    due("guard", x.guard(0, wOf(i, a), c), 1);
                    int zero = -c / a;
                    x.set(i, zero);
                    due("0", x.turn(), 0);
                    x.set(i, zero + (a > 0 ? -1 : 1));
                    due("below", x.turn(), -1);
                    x.set(i, zero + (a > 0 ? 1 : -1));
                    due("above", x.turn(), 0);
                }
            }
        }
        EndingCourt y = withBody(1);
        y.guard(0, w(0, 0, 0), 0);
        due("0 without weights", y.turn(), 0);
        y.guard(0, w(0, 0, 0), -1);
        due("-1 without weights", y.turn(), -1);

        says("Terms 1: a RULE at first: what it was");
        EndingCourt z = withBody(3);
        for (int i = 0; i < 3; i++) {
            z.set(i, 1000000 - 2000000 * (i % 2));
        }
        due("run", z.run(10000), 10000);
        due("x0", z.at(0), 1000000);
        due("x1", z.at(1), -1000000);
        due("x2", z.at(2), 1000000);
        for (int i = 0; i < 3; i++) {
            z.rule(0, i, w(20, -20, 20), -1000);
        }
        z.loop(3);
        z.body();
        z.set(0, 1);
        due("behind loop(), run", z.run(1), 1);
        due("x0", z.at(0), 1);
        due("x1", z.at(1), 0);
        due("x2", z.at(2), 0);
    }

    private static void turns() {
        says("Terms 1: a TURN is by the first BODY all of whose GUARDS HOLD; if there is none, the loop ENDS");
        EndingCourt x = withLoop(1);
        due("no BODY at all", x.turn(), -1);
        due("no BODY at all", x.run(5), 0);
        x.body();
        due("a BODY without GUARDS", x.turn(), 0);
        x.body();
        due("the first of two", x.turn(), 0);
        x.guard(0, w(1, 0, 0), 0);
        x.guard(0, w(1, 0, 0), -1);
        due("one of two GUARDS does not", x.turn(), 1);
        x.guard(1, w(0, 0, 0), -1);
        due("none", x.turn(), -1);
        x.set(0, 1);
        due("both", x.turn(), 0);
    }

    private static void places() {
        says("Terms 1: THE BOX: all open at first");
        for (int n = 1; n <= 3; n++) {
            EndingCourt x = withBody(n);
            for (int i = 0; i < n; i++) {
                due("least", x.box(i, 0), OPEN_END);
                due("greatest", x.box(i, 1), OPEN_END);
                due("not bound below", x.tells(0, i == 0 ? 1 : 0, i == 1 ? 1 : 0, i == 2 ? 1 : 0), 1);
                due("not bound above", x.tells(0, i == 0 ? -1 : 0, i == 1 ? -1 : 0, i == 2 ? -1 : 0), 1);
            }
        }

        says("Terms 1: the PLACE has ratios, too");
        EndingCourt y = withBody(1);
        y.guard(0, w(20, 0, 0), -1);
        y.guard(0, w(-20, 0, 0), 1);
        due("1 / 20 alone", y.tells(0, 1, 0, 0), 5);
        y.guard(0, w(19, 0, 0), -1);
        due("nothing", y.tells(0, 1, 0, 0), 7);

        says("Terms 1: the PLACE lies in THE BOX, its ends too");
        EndingCourt z = withBody(1);
        z.guard(0, w(1, 0, 0), -9);
        z.begin(0, 1, 9);
        z.round(1);
        due("9 alone", z.tells(0, 1, 0, 0), 5);
        z.begin(0, 1, 8);
        z.round(1);
        due("nothing", z.tells(0, 1, 0, 0), 7);
        z.guard(0, w(-1, 0, 0), 9);
        z.begin(0, 1, 20);
        z.begin(0, 0, 9);
        z.round(1);
        due("9 alone", z.tells(0, 1, 0, 0), 5);
        z.begin(0, 0, 10);
        z.round(1);
        due("nothing", z.tells(0, 1, 0, 0), 7);
    }

    private static void allPlanes() {
        says("Terms 1: the PLACE lies in THE BOX: one end open, the other one not");
        for (int i = 0; i < 3; i++) {
            for (int side = 0; side < 2; side++) {
                EndingCourt x = withBody(3);
                for (int j = 0; j < 3; j++) {
                    x.begin(j, 0, OPEN_GIVEN);
                    x.begin(j, 1, OPEN_GIVEN);
                }
                x.begin(i, side, 9);
                due("holds", x.round(1), 1);
                for (int j = 0; j < 3; j++) {
                    due("upwards", x.tells(0, at(j, 0, 1), at(j, 1, 1), at(j, 2, 1)), j == i && side == 0 ? 5 : 1);
                    due("downwards", x.tells(0, at(j, 0, -1), at(j, 1, -1), at(j, 2, -1)), j == i && side == 1 ? 5 : 1);
                }
            }
        }

        says("Terms 1: all six GUARDS and all six ends of THE BOX are the PLACE's");
        EndingCourt y = withBody(3);
        for (int g = 0; g < 6; g++) {
            y.guard(0, wOf(g / 2, g % 2 == 0 ? 1 : -1), 100);
        }
        for (int i = 0; i < 3; i++) {
            due("by GUARDS, upwards", y.tells(0, at(i, 0, 1), at(i, 1, 1), at(i, 2, 1)), 5);
            due("by GUARDS, downwards", y.tells(0, at(i, 0, -1), at(i, 1, -1), at(i, 2, -1)), 5);
        }
        EndingCourt z = withBody(3);
        for (int g = 0; g < 6; g++) {
            z.guard(0, w(0, 0, 0), 0);
        }
        for (int i = 0; i < 3; i++) {
            z.begin(i, 0, -50);
            z.begin(i, 1, 50);
        }
        z.round(1);
        for (int i = 0; i < 3; i++) {
            due("by THE BOX, upwards", z.tells(0, at(i, 0, 1), at(i, 1, 1), at(i, 2, 1)), 5);
            due("by THE BOX, downwards", z.tells(0, at(i, 0, -1), at(i, 1, -1), at(i, 2, -1)), 5);
        }
        for (int g = 0; g < 6; g++) {
            EndingCourt one = withBody(3);
            for (int k = 0; k < 6; k++) {
                one.guard(0, w(0, 0, 0), k == g ? -1 : 0);
            }
            due("guard " + g + " alone leaves nothing", one.tells(0, 1, 1, 1), 7);
        }
    }

    private static void sums() {
        says("Terms 2: BOUND, also if the PLACE has nothing in it (then it FALLS and STAYS, too)");
        EndingCourt x = withBody(3);
        due("all weights 0", x.tells(0, 0, 0, 0), 5);
        due("all there is", x.tells(0, 1, 1, 1), 1);
        x.guard(0, w(0, 0, 0), -1);
        due("nothing", x.tells(0, 1, 1, 1), 7);
        due("nothing, all weights 0", x.tells(0, 0, 0, 0), 7);
        EndingCourt gap = withBody(2);
        gap.guard(0, w(1, 1, 0), -1);
        gap.guard(0, w(-1, -1, 0), 1);
        due("a line", gap.tells(0, 1, 0, 0), 1);
        gap.guard(0, w(-1, -1, 0), 0);
        due("nothing between 1 and 0", gap.tells(0, 1, 0, 0), 7);

        says("Terms 2: FALLS, if at least 1 less");
        due("19 / 20", fallsFrom(-19), 5);
        due("1", fallsFrom(-20), 7);
        due("21 / 20", fallsFrom(-21), 7);

        says("Terms 2: STAYS, if nowhere more");
        due("1 / 20 less", fallsFrom(-1), 5);
        due("the same", fallsFrom(0), 5);
        due("1 / 20 more", fallsFrom(1), 4);

        says("Terms 2: FLOOR: the greatest whole number that is nowhere above");
        long[] floors = {-1, 0, 0, 0, 1, 1, -50, 50};
        int[] constants = {1, 0, -1, -19, -20, -21, 1000, -1000};
        for (int k = 0; k < floors.length; k++) {
            EndingCourt y = withBody(1);
            y.guard(0, w(20, 0, 0), constants[k]);
            y.rule(0, 0, w(1, 0, 0), -1);
            due("c " + constants[k], y.floor(1, 0, 0), floors[k]);
            due("c, 20 times", y.floor(20, 0, 0), -constants[k]);
        }

        says("Terms 2: FLOOR: nowhere above its VALUE in any PLACE");
        for (int lowest = 0; lowest < 5; lowest++) {
            EndingCourt y = withLoop(1);
            for (int b = 0; b < 5; b++) {
                y.body();
                y.guard(b, w(1, 0, 0), b == lowest ? 7 : -b);
                y.rule(b, 0, w(1, 0, 0), -1);
            }
            due("least in body " + lowest, y.floor(1, 0, 0), -7);
        }

        says("Terms 2: FLOOR is 0 if all PLACES have nothing in them");
        EndingCourt z = withLoop(1);
        due("no BODIES", z.floor(1, 0, 0), 0);
        for (int b = 0; b < 5; b++) {
            z.body();
            z.guard(b, w(0, 0, 0), -1);
            due("nothing in " + (b + 1), z.floor(1, 0, 0), 0);
        }
        z.loop(1);
        z.body();
        z.body();
        z.guard(0, w(0, 0, 0), -1);
        z.guard(1, w(1, 0, 0), -7);
        z.rule(1, 0, w(1, 0, 0), -1);
        due("something in one: 0 does not count", z.floor(1, 0, 0), 7);
    }

    /** x0 becomes 0 where 20 x0 + c is 0 or more: it is less by -c / 20 at least. */
    private static int fallsFrom(int c) {
        EndingCourt x = withBody(1);
        x.guard(0, w(20, 0, 0), c);
        x.rule(0, 0, w(0, 0, 0), 0);
        return x.tells(0, 1, 0, 0);
    }

    /** Only the SUM 1, weight (or so many times it) is BOUND and FALLS, by 1. */
    private static EndingCourt needing(int first, int second) {
        EndingCourt x = withBody(2);
        x.guard(0, w(first, second, 0), 0);
        x.rule(0, 0, w(1, 0, 0), second - 1);
        x.rule(0, 1, w(0, 1, 0), -first);
        return x;
    }

    private static void sizes() {
        says("Terms 2: SUMS of a SIZE b (1 .. 5) are those with weights -b .. b");
        for (int b = 1; b <= 6; b++) {
            EndingCourt x = needing(1, b);
            for (int size = 1; size <= 5; size++) {
                due("rank of " + b, x.rank(size), size >= b ? 1 : 0);
                due("rows of " + b, x.rows(size), size >= b ? 1 : -3);
            }
            EndingCourt y = needing(1, -b);
            for (int size = 1; size <= 5; size++) {
                due("rank of -" + b, y.rank(size), size >= b ? 1 : 0);
                due("rows of -" + b, y.rows(size), size >= b ? 1 : -3);
            }
        }

        says("Terms 2: .. but not all 0");
        for (int n = 1; n <= 3; n++) {
            EndingCourt x = withBody(n);
            x.guard(0, w(0, 0, 0), -1);
            due("rank", x.rank(1), 1);
            due("the first one", x.found(0, 0), -1);
            due("its others", x.found(0, 1), 0);
            due("its others", x.found(0, 2), 0);
        }

        says("Terms 2: ROWED: as long as some are LEFT");
        EndingCourt five = fiveRows();
        due("one SUM for each BODY", five.rows(1), 5);
        due("body 2 first", five.by(2), 0);
        due("body 0", five.by(0), 1);
        due("body 3", five.by(3), 2);
        due("body 4", five.by(4), 3);
        due("body 1 last", five.by(1), 4);
        due("no BODIES: none is", withLoop(3).rows(5), 0);

        says("Terms 2: ROWED: a SUM that STAYS in all that are LEFT");
        for (int c = 0; c <= 1; c++) {
            EndingCourt x = withLoop(1);
            x.body();
            x.body();
            x.guard(0, w(1, 0, 0), 0);
            x.rule(0, 0, w(1, 0, 0), -1);
            // x0 becomes 0, where it is 0 or more, or -1 / 20 or more.
            x.guard(1, w(20, 0, 0), c);
            x.rule(1, 0, w(0, 0, 0), 0);
            due("OPEN", x.rows(5), -3);
            due(c == 0 ? "it stays" : "it gets more by 1 / 20", x.by(0), c == 0 ? 0 : -1);
        }
    }

    private static void goingRound() {
        says("Terms 3: a BODY with a GUARD whose greatest value over the box is below 0 is passed over");
        for (int i = 0; i < 3; i++) {
            for (int sign = -1; sign <= 1; sign += 2) {
                EndingCourt x = withBody(3);
                x.guard(0, wOf(i, sign), -10);
                x.rule(0, i, w(0, 0, 0), 100);
                int far = sign > 0 ? 1 : 0;
                x.begin(i, far, 9 * sign);
                due("-1", x.round(1), 1);
                due("its end stays", x.box(i, 1), sign > 0 ? 9 : 0);
                x.begin(i, far, 10 * sign);
                due("0", x.round(20), 2);
                due("its end", x.box(i, 1), 100);
                x.begin(i, far, OPEN_GIVEN);
                due("open", x.round(20), sign > 0 ? 1 : 2);
                due("the other end open", x.begin(i, far, 9 * sign) + x.begin(i, 1 - far, OPEN_GIVEN), 0);
                due("-1, the other end open", x.round(1), 1);
            }
        }

        says("Terms 3: an open end makes it open");
        for (int a = -1; a <= 1; a++) {
            EndingCourt x = withBody(2);
            x.rule(0, 1, w(a, 0, 0), 0);
            x.begin(0, 1, OPEN_GIVEN);
            due("weight " + a, x.round(20), a == 0 ? 1 : 2);
            due("greatest", x.box(1, 1), a == 1 ? OPEN_END : 0);
            due("least", x.box(1, 0), a == -1 ? OPEN_END : 0);
        }

        says("Terms 3: from round w on an end that changed in the round is open then");
        for (int w = 1; w <= 20; w++) {
            EndingCourt x = fiveSteps(1);
            due("round(" + w + ")", x.round(w), w <= 5 ? w + 1 : 6);
            due("least", x.box(0, 0), 0);
            due("greatest", x.box(0, 1), w <= 5 ? OPEN_END : 5);
        }
        int[] rounds = {4, 4, 4, 5, 6, 7, 8, 8, 8};
        for (int w = 1; w <= rounds.length; w++) {
            EndingCourt x = fiveSteps(3);
            due("three numbers, round(" + w + ")", x.round(w), rounds[w - 1]);
            for (int i = 0; i < 3; i++) {
                due("greatest of " + i, x.box(i, 1), w <= 5 + i ? OPEN_END : 5);
            }
        }

        says("Terms 3: if a round changes nothing the box HOLDS (each end is open at the latest some rounds behind w)");
        due("no BODIES", withLoop(3).round(1), 1);
        due("nothing to do", withBody(3).round(20), 1);
        for (int w = 1; w <= 20; w++) {
            EndingCourt x = oneEndAfterTheOther();
            due("round(" + w + ")", x.round(w), w + 6);
            for (int i = 0; i < 3; i++) {
                due("least", x.box(i, 0), OPEN_END);
                due("greatest", x.box(i, 1), OPEN_END);
            }
        }
    }

    /** The greatest x0 is 1, 2, .. 5 behind rounds 1, 2, .. 5; x1 and x2 come one round behind. */
    private static EndingCourt fiveSteps(int n) {
        EndingCourt x = withLoop(n);
        for (int b = 0; b < 5; b++) {
            x.body();
            x.guard(b, w(1, 0, 0), -b);
            x.rule(b, 0, w(0, 0, 0), b + 1);
            for (int i = 1; i < n; i++) {
                x.rule(b, i, wOf(i - 1, 1), 0);
            }
        }
        return x;
    }

    /** Six ends, each of which changes only when the one before it is open. */
    private static EndingCourt oneEndAfterTheOther() {
        EndingCourt x = withLoop(3);
        for (int b = 0; b < 5; b++) {
            x.body();
        }
        x.rule(0, 2, w(0, 0, 1), 1);
        x.guard(1, w(0, 0, 1), -1000);
        x.rule(1, 1, w(0, 1, 0), 1);
        x.guard(2, w(0, 1, 0), -1000);
        x.rule(2, 0, w(1, 0, 0), 1);
        x.guard(3, w(1, 0, 0), -1000);
        x.rule(3, 2, w(0, 0, 1), -1);
        x.guard(4, w(0, 0, -1), -1000);
        x.rule(4, 1, w(0, 1, 0), -1);
        x.rule(4, 0, w(0, 1, 0), 0);
        return x;
    }

    private static void callTerms() {
        says("Terms 4: FUNCTIONS 0 .. 7, each with PARTS 0 .. 3");
        for (int f = 0; f < 8; f++) {
            for (int part = 0; part < 4; part++) {
                StringBuilder digits = new StringBuilder("0000000000000000");
                digits.setCharAt(5 * part, '2');
                EndingCourt x = new EndingCourt();
                due("call", x.call(f, f, t(digits.toString())), 0);
                due("part " + part + " shrinks", x.ending(), 1);
                digits.setCharAt(5 * part, '1');
                due("call", x.call(f, f, t(digits.toString())), 1);
                due("it stays", x.ending(), 0);
                due("function", x.witness(0), f);
                due("tells", x.witness(1), t(digits.toString()));
            }
        }

        says("Terms 4: CALLS, at most 40");
        EndingCourt forty = new EndingCourt();
        for (int c = 0; c < 39; c++) {
            due("call", forty.call(0, 1, 0), c);
        }
        due("ending", forty.ending(), 1);
        due("the fortieth", forty.call(7, 7, 0), 39);
        due("the fortieth counts", forty.ending(), 0);
        due("a forty-first", forty.call(7, 7, 0), -2);

        says("Terms 4: put together: 2, if one tells 2 and the other one 1 or 2; 1, if both tell 1; else 0");
        for (int a = 0; a < 3; a++) {
            for (int b = 0; b < 3; b++) {
                for (int m = 0; m < 4; m++) {
                    int together = a == 0 || b == 0 ? 0 : a == 2 || b == 2 ? 2 : 1;
                    due(a + " and " + b + " by part " + m, roundByPart(m, a, b), together == 2 ? 1 : 0);
                }
            }
        }

        says("Terms 4: two are the same if they are from and to the same functions and tell the same");
        EndingCourt same = new EndingCourt();
        same.call(0, 1, 5);
        same.call(0, 1, 5);
        same.ending();
        due("twice the same", same.made(), 1);
        same.call(0, 2, 5);
        same.call(3, 1, 5);
        same.call(0, 1, 6);
        same.ending();
        due("to another, from another, tells another", same.made(), 4);
    }

    /** From part 0 of function 0 to part m of function 1, and back to part 0. */
    private static int roundByPart(int m, int there, int back) {
        EndingCourt x = new EndingCourt();
        char[] first = "0000000000000000".toCharArray();
        char[] second = "0000000000000000".toCharArray();
        first[m] = (char) ('0' + there);
        second[4 * m] = (char) ('0' + back);
        x.call(0, 1, t(new String(first)));
        x.call(1, 0, t(new String(second)));
        return x.ending();
    }

    private static void answers() {
        says("Terms 5: the first that holds: NONE ahead of FULL");
        refused(State.CROWDED, "guard", x -> x.guard(0, 68921, 0), -1);
        refused(State.CROWDED, "guard", x -> x.guard(0, 0, 1001), -1);
        refused(State.CROWDED, "guard", x -> x.guard(5, 0, 0), -1);
        refused(State.CROWDED, "guard", x -> x.guard(4, 0, 0), -2);
        refused(State.CROWDED, "call", x -> x.call(8, 0, 0), -1);
        refused(State.CROWDED, "call", x -> x.call(0, -1, 0), -1);
        refused(State.CROWDED, "call", x -> x.call(0, 0, 43046721), -1);
        refused(State.CROWDED, "call", x -> x.call(0, 0, 43046720), -2);

        says("Terms 5: all memory is the class's own");
        EndingCourt x = rich(2);
        EndingCourt y = crowded();
        EndingCourt z = new EndingCourt();
        new View(y);
        same("another object's calls", x, rich(2));
        same("another object's calls", z, new EndingCourt());
    }

    // ---- Promises 1 to 6: the loop

    private static void newObject() {
        says("1: two NUMBERS");
        EndingCourt x = new EndingCourt();
        due("number 1", x.set(1, 5), 0);
        due("number 2", x.set(2, 5), -1);
        due("loop", x.loop(2), 2);

        says("1: no BODIES, no CALLS");
        due("many", new EndingCourt().many(-1), 0);
        due("body 0", new EndingCourt().many(0), -1);
        due("calls", new EndingCourt().clear(), 0);

        says("1: THE BOX is open");
        for (int i = 0; i < 2; i++) {
            due("least", new EndingCourt().box(i, 0), OPEN_END);
            due("greatest", new EndingCourt().box(i, 1), OPEN_END);
        }

        says("1: a new object is as one behind loop(2)");
        same("loop(2)", withLoop(2), new EndingCourt());
        EndingCourt bodies = new EndingCourt();
        for (int b = 0; b < 5; b++) {
            due("body", bodies.body(), b);
            due("no rows() before", bodies.by(b), -1);
            due("no GUARDS", bodies.many(b), 0);
        }
        bodies.set(0, 9);
        due("RULES are as at first", bodies.run(7), 7);
        due("x0", bodies.at(0), 9);
        due("x1", bodies.at(1), 0);
        due("nothing found", bodies.found(0, 0), -1000);
        due("no rank()", bodies.bound(), -1);
        due("no ring()", bodies.ahead(), -1);

        says("used for at most 512 calls: the last one is as due");
        EndingCourt y = new EndingCourt();
        for (int k = 1; k <= 505; k++) {
            y.set(0, k);
        }
        y.body();
        y.guard(0, w(1, 0, 0), -1);
        y.rule(0, 0, w(1, 0, 0), -1);
        y.rank(1);
        due("510th", y.bound(), 505);
        due("511th", y.run(1000), 505);
        due("512th", y.bound(), 0);
    }

    private static void loop() {
        says("2: NONE: n is not 1 .. 3");
        refused("loop(0)", x -> x.loop(0), -1);
        refused("loop(4)", x -> x.loop(4), -1);
        refused("loop(-1)", x -> x.loop(-1), -1);
        for (int far : FAR) {
            refused("loop(" + far + ")", x -> x.loop(far), -1);
        }

        says("2: how many NUMBERS there were");
        for (int n = 1; n <= 3; n++) {
            for (int more = 1; more <= 3; more++) {
                EndingCourt x = withLoop(n);
                due("loop", x.loop(more), n);
                due("again", x.loop(more), more);
            }
        }

        says("2: no BODIES, THE BOX open, x and the box for GOING ROUND 0, nothing found (CALLS stay)");
        for (int n = 1; n <= 3; n++) {
            for (int before = 1; before <= 3; before++) {
                EndingCourt x = rich(before);
                EndingCourt bare = new EndingCourt();
                bare.call(3, 3, t("1000 0000 0000 0000"));
                bare.call(2, 2, t("2000 0000 0000 0000"));
                bare.ending();
                bare.call(1, 1, 0);
                x.loop(n);
                bare.loop(n);
                same("loop(" + n + ")", x, bare);
            }
        }
        EndingCourt full = crowded();
        full.loop(1);
        due("BODIES go in again", full.body(), 0);
        due("GUARDS go in again", full.guard(0, w(0, 0, 0), 0), 1);
        due("RULES are as at first", full.set(0, 9) + full.run(1), 1);
        due("RULES are as at first", full.at(0), 9);
        due("CALLS stay", full.call(0, 0, 0), -2);
        due("CALLS stay", full.clear(), 40);
    }

    private static void body() {
        says("3: FULL");
        refused(State.CROWDED, "body()", x -> x.body(), -2);
        EndingCourt x = rich(1);
        due("a third", x.body(), 2);
        due("a fourth", x.body(), 3);
        due("a fifth", x.body(), 4);
        due("a sixth", x.body(), -2);
        due("still five", x.many(-1), 5);

        says("3: without GUARDS");
        due("none", x.many(4), 0);
        EndingCourt again = crowded();
        again.loop(3);
        again.body();
        due("none, where one had six", again.many(0), 0);

        says("3: behind body(), guard(), rule() that are not refused THE BOX is open");
        boxBehind("body()", y -> y.body(), 2, OPEN_END);
        boxBehind("guard", y -> y.guard(0, w(0, 0, 0), 0), 2, OPEN_END);
        boxBehind("rule", y -> y.rule(0, 0, w(1, 0, 0), -1), 0, OPEN_END);
        boxBehind("refused guard", y -> y.guard(0, -1, 0), -1, 20);
        boxBehind("refused rule", y -> y.rule(0, 2, 0, 0), -1, 20);
        EndingCourt full = crowded();
        due("refused body()", full.body(), -2);
        due("stays", full.box(0, 1), 5);
        due("refused guard", full.guard(0, 0, 0), -2);
        due("stays", full.box(0, 1), 5);
    }

    private static void boxBehind(String what, ToLongFunction<EndingCourt> call, long want, long greatest) {
        EndingCourt x = rich(2);
        due("ahead of " + what, x.box(0, 1), 20);
        due(what, call.applyAsLong(x), want);
        due("behind " + what, x.box(0, 1), greatest);
    }

    private static void guard() {
        says("4: how many it has");
        EndingCourt x = withBody(3);
        x.body();
        for (int g = 1; g <= 6; g++) {
            due("guard", x.guard(0, w(0, 0, 0), 0), g);
        }
        due("another BODY's are its own", x.guard(1, w(0, 0, 0), 0), 1);

        says("4: digits by 41, the first one highest");
        int[] codes = {0, 40, 40 * 41, 40 * 1681, 68920};
        int[][] weights = {{-20, -20, -20}, {-20, -20, 20}, {-20, 20, -20}, {20, -20, -20}, {20, 20, 20}};
        for (int k = 0; k < codes.length; k++) {
            for (int i = 0; i < 3; i++) {
                EndingCourt y = withBody(3);
                due("guard", y.guard(0, codes[k], -1000), 1);
                y.set(i, 1000 / weights[k][i]);
                due("holds at 0", y.turn(), 0);
                y.set(i, (1000 / 20 - 1) * (weights[k][i] / 20));
                due("not below", y.turn(), -1);
            }
        }

        says("4: NONE: no such BODY");
        refused("body -1", y -> y.guard(-1, w(0, 0, 0), 0), -1);
        refused("body 5", y -> y.guard(5, w(0, 0, 0), 0), -1);
        refused(State.FRESH, "body 0 of none", y -> y.guard(0, w(0, 0, 0), 0), -1);
        refused(State.TWO, "body 2 of two", y -> y.guard(2, w(0, 0, 0), 0), -1);
        due("body 1 of two", rich(2).guard(1, w(0, 0, 0), 0), 3);
        for (int far : FAR) {
            refused("body " + far, y -> y.guard(far, w(0, 0, 0), 0), -1);
        }

        says("4: NONE: weights (0 up to 41^3 - 1)");
        refused("weights -1", y -> y.guard(0, -1, 0), -1);
        refused("weights 68921", y -> y.guard(0, 68921, 0), -1);
        due("weights 0", rich(3).guard(0, 0, 0), 2);
        due("weights 68920", rich(3).guard(0, 68920, 0), 2);
        due("weights 68920 of one NUMBER", rich(1).guard(0, 68920, 0), 2);
        for (int far : FAR) {
            refused("weights " + far, y -> y.guard(0, far, 0), -1);
        }

        says("4: NONE: c");
        refused("c 1001", y -> y.guard(0, w(0, 0, 0), 1001), -1);
        refused("c -1001", y -> y.guard(0, w(0, 0, 0), -1001), -1);
        due("c 1000", rich(3).guard(0, w(0, 0, 0), 1000), 2);
        due("c -1000", rich(3).guard(0, w(0, 0, 0), -1000), 2);
        for (int far : FAR) {
            refused("c " + far, y -> y.guard(0, w(0, 0, 0), far), -1);
        }

        says("4: FULL");
        for (int b = 0; b < 5; b++) {
            int body = b;
            refused(State.CROWDED, "guard " + b, y -> y.guard(body, w(0, 0, 0), -1), -2);
        }
    }

    private static void rule() {
        says("5: the RULE of a NUMBER in a BODY");
        EndingCourt x = withLoop(3);
        for (int b = 0; b < 5; b++) {
            x.body();
        }
        for (int i = 0; i < 3; i++) {
            due("rule of the last BODY", x.rule(4, i, w(0, 0, 0), 10 + i), 0);
        }
        x.run(1);
        due("the first BODY's stay", x.at(2), 0);
        for (int b = 0; b < 4; b++) {
            x.guard(b, w(0, 0, 0), -1);
        }
        x.run(1);
        for (int i = 0; i < 3; i++) {
            due("number " + i, x.at(i), 10 + i);
        }

        says("5: NONE: no such BODY");
        refused("body -1", y -> y.rule(-1, 0, w(0, 0, 0), 0), -1);
        refused("body 5", y -> y.rule(5, 0, w(0, 0, 0), 0), -1);
        refused(State.FRESH, "body 0 of none", y -> y.rule(0, 0, w(0, 0, 0), 0), -1);
        refused(State.TWO, "body 2 of two", y -> y.rule(2, 0, w(0, 0, 0), 0), -1);
        due("body 1 of two", rich(2).rule(1, 0, w(0, 0, 0), 0), 0);
        due("body 4 of five", crowded().rule(4, 0, w(0, 0, 0), 0), 0);

        says("5: NONE: no such NUMBER");
        refused("number -1", y -> y.rule(0, -1, w(0, 0, 0), 0), -1);
        refused("number 3", y -> y.rule(0, 3, w(0, 0, 0), 0), -1);
        refused(State.ONE, "number 1 of one", y -> y.rule(0, 1, w(0, 0, 0), 0), -1);
        refused(State.TWO, "number 2 of two", y -> y.rule(0, 2, w(0, 0, 0), 0), -1);
        for (int n = 1; n <= 3; n++) {
            due("the last of " + n, rich(n).rule(0, n - 1, w(0, 0, 0), 0), 0);
        }

        says("5: NONE: weights, d");
        refused("weights -1", y -> y.rule(0, 0, -1, 0), -1);
        refused("weights 68921", y -> y.rule(0, 0, 68921, 0), -1);
        refused("d 1001", y -> y.rule(0, 0, w(0, 0, 0), 1001), -1);
        refused("d -1001", y -> y.rule(0, 0, w(0, 0, 0), -1001), -1);
        due("weights 0", rich(3).rule(0, 0, 0, 0), 0);
        due("weights 68920", rich(3).rule(0, 0, 68920, 0), 0);
        due("d 1000", rich(3).rule(0, 0, w(0, 0, 0), 1000), 0);
        due("d -1000", rich(3).rule(0, 0, w(0, 0, 0), -1000), 0);
        for (int far : FAR) {
            refused("body " + far, y -> y.rule(far, 0, w(0, 0, 0), 0), -1);
            refused("number " + far, y -> y.rule(0, far, w(0, 0, 0), 0), -1);
            refused("weights " + far, y -> y.rule(0, 0, far, 0), -1);
            refused("d " + far, y -> y.rule(0, 0, w(0, 0, 0), far), -1);
        }

        says("5: a RULE may come again and again; the newest counts");
        EndingCourt often = withBody(1);
        for (int d = 1; d <= 50; d++) {
            due("rule", often.rule(0, 0, w(0, 0, 0), d), 0);
        }
        often.run(1);
        due("the newest", often.at(0), 50);
    }

    private static void many() {
        says("6: how many BODIES (-1), GUARDS of a BODY");
        EndingCourt x = withLoop(1);
        for (int b = 0; b < 5; b++) {
            due("BODIES", x.many(-1), b);
            due("not yet", x.many(b), -1);
            x.body();
            for (int g = 0; g < b; g++) {
                x.guard(b, w(0, 0, 0), g);
            }
            due("GUARDS", x.many(b), b);
        }
        due("BODIES", x.many(-1), 5);
        due("six GUARDS", crowded().many(4), 6);

        says("6: NONE");
        refused("many(-2)", y -> y.many(-2), -1);
        refused("many(5)", y -> y.many(5), -1);
        refused(State.FRESH, "many(0)", y -> y.many(0), -1);
        refused(State.ONE, "many(2)", y -> y.many(2), -1);
        for (int far : FAR) {
            refused("many(" + far + ")", y -> y.many(far), -1);
        }
    }

    // ---- Promises 7 to 12: runs

    private static void setAndAt() {
        says("7: NONE: no such NUMBER");
        refused("number -1", x -> x.set(-1, 0), -1);
        refused("number 3", x -> x.set(3, 0), -1);
        refused(State.ONE, "number 1 of one", x -> x.set(1, 0), -1);
        refused(State.FRESH, "number 2 of two", x -> x.set(2, 0), -1);
        refused(State.TWO, "number 2 of two", x -> x.set(2, 0), -1);
        for (int n = 1; n <= 3; n++) {
            EndingCourt x = rich(n);
            due("the last of " + n, x.set(n - 1, 99), 0);
            due("at", x.at(n - 1), 99);
        }

        says("7: NONE: v is beyond 1000000 (without its sign)");
        refused("1000001", x -> x.set(0, 1000001), -1);
        refused("-1000001", x -> x.set(0, -1000001), -1);
        for (int v = -1000000; v <= 1000000; v += 1000000) {
            EndingCourt x = rich(1);
            due("set " + v, x.set(0, v), 0);
            due("at", x.at(0), v);
        }
        for (int far : FAR) {
            refused("number " + far, x -> x.set(far, 0), -1);
            refused("v " + far, x -> x.set(0, far), -1);
        }

        says("8: 0: there is none such");
        for (int n = 1; n <= 3; n++) {
            EndingCourt x = withLoop(3);
            for (int i = 0; i < 3; i++) {
                x.set(i, 7);
            }
            x.loop(n);
            for (int i = 0; i < n; i++) {
                x.set(i, 8);
            }
            due("the first", x.at(0), 8);
            due("the last", x.at(n - 1), 8);
            due("behind the last", x.at(n), 0);
            due("ahead of the first", x.at(-1), 0);
            for (int far : FAR) {
                due("far", x.at(far), 0);
            }
        }
    }

    private static void run() {
        says("9: at most n (1 .. 10000) TURNS. NONE");
        refused("run(0)", x -> x.run(0), -1);
        refused("run(-1)", x -> x.run(-1), -1);
        refused("run(10001)", x -> x.run(10001), -1);
        for (int far : FAR) {
            refused("run(" + far + ")", x -> x.run(far), -1);
        }
        EndingCourt x = withBody(1);
        x.rule(0, 0, w(1, 0, 0), 1);
        due("run(1)", x.run(1), 1);
        due("at", x.at(0), 1);
        due("run(10000)", x.run(10000), 10000);
        due("at", x.at(0), 10001);

        says("9: how many were");
        EndingCourt y = withBody(1);
        y.guard(0, w(1, 0, 0), -1);
        y.rule(0, 0, w(1, 0, 0), -1);
        for (int turns = 4; turns <= 6; turns++) {
            y.set(0, 5);
            due("run(" + turns + ")", y.run(turns), Math.min(turns, 5));
            due("at", y.at(0), turns == 4 ? 1 : 0);
        }
        due("none: it ENDS at x", y.run(10000), 0);
        y.set(0, 10000);
        due("10000, and there it ENDS", y.run(10000), 10000);
        due("no BODIES", withLoop(2).run(1), 0);
    }

    private static void runOut() {
        says("9: OUT: a value is beyond 1000000000000 (without its sign)");
        for (int i = 0; i < 3; i++) {
            for (int sign = -1; sign <= 1; sign += 2) {
                EndingCourt x = farOut(i, sign);
                due("1000000000000 is not", x.run(1), 1);
                due("at", x.at(i), sign * 1000000000000L);
                x = farOut(i, sign);
                x.rule(0, i, wOf(i, 20), sign);
                due("1000000000001 is", x.run(1), -4);
                due("x is ahead of it", x.at(i), sign * 50000000000L);
                x.rule(0, i, wOf(i, 20), -sign);
                due("999999999999 is not", x.run(1), 1);
                due("at", x.at(i), sign * 999999999999L);
            }
        }

        says("9: if a TURN would be OUT, it is not done (x is ahead of it)");
        EndingCourt y = withBody(3);
        y.rule(0, 0, w(1, 0, 0), 1);
        y.rule(0, 1, w(0, 20, 0), 0);
        y.rule(0, 2, w(1, 0, 0), 0);
        y.set(1, 312500);
        due("TURNS up to it are done", y.run(10000), -4);
        due("x0", y.at(0), 5);
        due("x1", y.at(1), 1000000000000L);
        due("x2", y.at(2), 4);
        due("again", y.run(1), -4);
        due("x0 stays", y.at(0), 5);
        y.set(1, 312500);
        due("n used up ahead of it", y.run(5), 5);
        y.set(1, 312500);
        due("n goes one further", y.run(6), -4);
        y.guard(0, w(-1, 0, 0), 20);
        y.set(0, 16);
        y.set(1, 312500);
        due("it ENDS ahead of it", y.run(6), 5);
        due("turn() is by the BODY all the same", y.set(0, 16) + y.turn(), 0);

        says("9: only what the NUMBERS become is a value: a sum whose parts are beyond is not OUT");
        EndingCourt z = withBody(2);
        z.rule(0, 0, w(20, 0, 0), 0);
        z.rule(0, 1, w(0, 20, 0), 0);
        z.set(0, 312500);
        z.set(1, 312500);
        due("both far", z.run(5), 5);
        z.rule(0, 0, w(20, -20, 0), 3);
        z.rule(0, 1, w(-20, 20, 0), 4);
        z.guard(0, w(20, 20, 0), 0);
        due("their parts take each other away", z.run(1), 1);
        due("x0", z.at(0), 3);
        due("x1", z.at(1), 4);
    }

    /** NUMBER i is 50000000000, or that with a minus, and 20 times it comes next. */
    private static EndingCourt farOut(int i, int sign) {
        EndingCourt x = withBody(3);
        x.rule(0, i, wOf(i, 20), 0);
        x.set(i, sign * 312500);
        x.run(4);
        return x;
    }

    private static void turn() {
        says("10: by which BODY the TURN at x would be; NONE: the loop ENDS there");
        EndingCourt x = withLoop(1);
        due("no BODIES", x.turn(), -1);
        for (int b = 0; b < 5; b++) {
            x.body();
            x.guard(b, w(1, 0, 0), b - 10);
        }
        for (int v = 11; v >= 5; v--) {
            x.set(0, v);
            due("at " + v, x.turn(), v >= 10 ? 0 : v == 5 ? -1 : 10 - v);
            due("x stays", x.at(0), v);
        }
        refused(State.FRESH, "turn() changes nothing", y -> y.turn(), -1);
        refused(State.THREE, "turn() changes nothing", y -> y.turn(), 0);
    }

    private static void ring() {
        says("11: n (1 .. 10000). NONE");
        refused("ring(0)", x -> x.ring(0), -1);
        refused("ring(-1)", x -> x.ring(-1), -1);
        refused("ring(10001)", x -> x.ring(10001), -1);
        for (int far : FAR) {
            refused("ring(" + far + ")", x -> x.ring(far), -1);
        }
        due("ring(1)", withBody(1).ring(1), 1);
        due("ring(10000)", withBody(1).ring(10000), 1);

        says("11: comes back within n TURNS");
        for (int length : new int[] {1, 2, 3, 9999, 10000, 10001}) {
            EndingCourt x = goesRound(length);
            for (int n : new int[] {length - 1, length, length + 1}) {
                if (n >= 1 && n <= 10000) {
                    due("a ring of " + length + " within " + n, x.ring(n), n >= length ? length : 0);
                }
            }
            due("within 10000", x.ring(10000), length <= 10000 ? length : 0);
            due("ahead of " + length, x.ahead(), length <= 10000 ? 0 : -1);
            due("x stays", x.at(0), 0);
        }
        for (int lead : new int[] {1, 2, 3, 9998, 9999, 10000}) {
            EndingCourt x = fallsAndStays();
            x.set(0, lead);
            for (int n : new int[] {lead, lead + 1, lead + 2}) {
                if (n <= 10000) {
                    due("behind " + lead + " within " + n, x.ring(n), n > lead ? 1 : 0);
                }
            }
            due("ahead " + lead, x.ahead(), lead < 10000 ? lead : -1);
            due("x stays", x.at(0), lead);
        }
        for (int n = 9998; n <= 10000; n++) {
            EndingCourt both = goesRound(5000);
            both.set(0, -4999);
            due("half a way there, half round, within " + n, both.ring(n), n >= 9999 ? 5000 : 0);
            due("ahead", both.ahead(), n >= 9999 ? 4999 : -1);
        }

        says("11: 0: it ENDS, or does not within n");
        EndingCourt ends = withLoop(1);
        due("no BODIES", ends.ring(10000), 0);
        ends.body();
        ends.guard(0, w(-1, 0, 0), 3);
        ends.rule(0, 0, w(1, 0, 0), 1);
        due("it ENDS", ends.ring(10000), 0);
        due("x stays", ends.at(0), 0);
        due("no ring yet", ends.ahead(), -1);
        ends.set(0, 4);
        due("it ENDS at once", ends.ring(1), 0);
        EndingCourt grows = withBody(1);
        grows.rule(0, 0, w(1, 0, 0), 1);
        due("never", grows.ring(10000), 0);
        due("x stays", grows.at(0), 0);
    }

    /** From 0 up to length - 1, and back to 0; from below 0 up, too. */
    private static EndingCourt goesRound(int length) {
        EndingCourt x = withLoop(2);
        x.body();
        x.body();
        x.guard(0, w(-1, 1, 0), -1);
        x.rule(0, 0, w(1, 0, 0), 1);
        x.rule(1, 0, w(0, 0, 0), 0);
        x.set(1, length - 1);
        return x;
    }

    /** x0 falls to 0 and stays there. */
    private static EndingCourt fallsAndStays() {
        EndingCourt x = withLoop(1);
        x.body();
        x.body();
        x.guard(0, w(1, 0, 0), -1);
        x.rule(0, 0, w(1, 0, 0), -1);
        return x;
    }

    private static void ringOut() {
        says("11: OUT. x stays");
        for (int i = 0; i < 3; i++) {
            for (int sign = -1; sign <= 1; sign += 2) {
                EndingCourt x = farOut(i, sign);
                due("1000000000000 is not", x.ring(1), 0);
                due("what comes then is", x.ring(2), -4);
                due("x stays", x.at(i), sign * 50000000000L);
                x.rule(0, i, wOf(i, 20), sign);
                due("1000000000001 is", x.ring(1), -4);
                due("x stays", x.at(i), sign * 50000000000L);
                due("no ring", x.ahead(), -1);
            }
        }
        EndingCourt y = withBody(1);
        y.rule(0, 0, w(20, 0, 0), 0);
        y.set(0, 312500);
        for (int n : new int[] {1, 4, 5, 6, 7, 10000}) {
            due("within " + n, y.ring(n), n >= 6 ? -4 : 0);
            due("x stays", y.at(0), 312500);
        }
        y.set(0, 0);
        due("ring", y.ring(1), 1);
        y.set(0, 1);
        due("OUT", y.ring(10000), -4);
        due("the latest above 0", y.ahead(), 0);
        refused(State.ONE, "ring that is 0", x -> x.ring(10000), 0);
        refused(State.CROWDED, "ring that is 0", x -> x.ring(1), 0);
    }

    private static void ahead() {
        says("12: NONE before any");
        due("a new object", new EndingCourt().ahead(), -1);
        EndingCourt x = fallsAndStays();
        x.set(0, 6);
        x.ring(0);
        due("behind NONE", x.ahead(), -1);
        x.ring(6);
        due("behind 0", x.ahead(), -1);

        says("12: by the latest ring() above 0");
        x.ring(7);
        due("6", x.ahead(), 6);
        x.set(0, 3);
        due("not within", x.ring(3), 0);
        due("6 still", x.ahead(), 6);
        due("refused", x.ring(10001), -1);
        due("6 still", x.ahead(), 6);
        x.ring(4);
        due("3", x.ahead(), 3);
        x.set(0, 0);
        x.ring(1);
        due("0", x.ahead(), 0);
        x.loop(4);
        due("behind a refused loop()", x.ahead(), 0);
        x.loop(1);
        due("behind loop()", x.ahead(), -1);
    }

    // ---- Promises 13 to 20: sums

    private static void ranksAndTells() {
        says("13, 14: each weight -100 .. 100");
        for (int i = 0; i < 3; i++) {
            for (int sign = -1; sign <= 1; sign += 2) {
                int last = 100 * sign;
                EndingCourt x = withBody(3);
                x.guard(0, wOf(i, sign), 0);
                x.rule(0, i, wOf(i, 1), -sign);
                due("ranks " + last, x.ranks(at(i, 0, last), at(i, 1, last), at(i, 2, last)), 1);
                due("tells " + last, x.tells(0, at(i, 0, last), at(i, 1, last), at(i, 2, last)), 7);
                due("floor " + last, x.floor(at(i, 0, last), at(i, 1, last), at(i, 2, last)), 0);
                refusedSum(i, last + sign);
            }
            for (int far : FAR) {
                refusedSum(i, far);
            }
        }

        says("13, 14: NONE: a weight of a NUMBER that there is not is not 0");
        for (int v = -1; v <= 1; v += 2) {
            int weight = v;
            refused(State.ONE, "r1 of one", x -> x.ranks(1, weight, 0), -1);
            refused(State.ONE, "r2 of one", x -> x.ranks(1, 0, weight), -1);
            refused(State.TWO, "r2 of two", x -> x.ranks(1, 1, weight), -1);
            refused(State.FRESH, "r2 of two, no BODIES", x -> x.ranks(0, 0, weight), -1);
            refused(State.ONE, "r1 of one", x -> x.tells(0, 1, weight, 0), -1);
            refused(State.ONE, "r2 of one", x -> x.tells(0, 1, 0, weight), -1);
            refused(State.TWO, "r2 of two", x -> x.tells(0, 1, 1, weight), -1);
        }
        due("0 of one", rich(1).ranks(1, 0, 0), 1);
        due("0 of two", rich(2).ranks(1, 0, 0), 1);
        due("0 of one", rich(1).tells(1, 1, 0, 0), 7);

        says("13: RANKED: in all BODIES");
        due("no BODIES", withLoop(3).ranks(100, -100, 0), 1);
        due("no BODIES, all 0", withLoop(3).ranks(0, 0, 0), 1);
        EndingCourt five = withLoop(1);
        for (int b = 0; b < 5; b++) {
            five.body();
            due("one that stays", five.ranks(1, 0, 0), 0);
            five.rule(b, 0, w(1, 0, 0), -1);
            due("one that is not bound", five.ranks(1, 0, 0), 0);
            five.guard(b, w(1, 0, 0), 0);
            due("all", five.ranks(1, 0, 0), 1);
        }

        says("14: NONE: no such BODY");
        refused("body -1", x -> x.tells(-1, 0, 0, 0), -1);
        refused("body 5", x -> x.tells(5, 0, 0, 0), -1);
        refused(State.FRESH, "body 0 of none", x -> x.tells(0, 0, 0, 0), -1);
        refused(State.THREE, "body 2 of two", x -> x.tells(2, 0, 0, 0), -1);
        due("body 0", rich(3).tells(0, 0, 0, 0), 5);
        due("body 1 of two", rich(3).tells(1, 0, 0, 0), 5);
        due("body 4 of five", crowded().tells(4, 0, 0, 0), 5);
        for (int far : FAR) {
            refused("body " + far, x -> x.tells(far, 0, 0, 0), -1);
        }

        says("13, 14, 15: asking changes nothing");
        refused(State.THREE, "ranks", x -> x.ranks(2, 0, 0), 1);
        refused(State.THREE, "tells", x -> x.tells(0, 2, 0, 0), 7);
        refused(State.THREE, "floor", x -> x.floor(2, 0, 0), 2);
    }

    private static int at(int i, int j, int v) {
        return i == j ? v : 0;
    }

    private static void refusedSum(int i, int weight) {
        int r0 = at(i, 0, weight);
        int r1 = at(i, 1, weight);
        int r2 = at(i, 2, weight);
        refused("ranks " + weight, x -> x.ranks(r0, r1, r2), -1);
        refused("tells " + weight, x -> x.tells(0, r0, r1, r2), -1);
        refused("floor " + weight, x -> x.floor(r0, r1, r2), NO_FLOOR);
    }

    private static void floor() {
        says("15: -9000000000000000: it does not (or NONE)");
        due("it does not", rich(1).floor(-1, 0, 0), NO_FLOOR);
        due("not at all", rich(1).floor(0, 0, 0), NO_FLOOR);
        due("no such NUMBER", rich(1).floor(1, 1, 0), NO_FLOOR);
        due("no such NUMBER", rich(2).floor(1, 0, -1), NO_FLOOR);
        due("it does", rich(2).floor(1, 0, 0), 1);
        EndingCourt x = withBody(1);
        x.guard(0, w(1, 0, 0), 0);
        x.rule(0, 0, w(1, 0, 0), -1);
        due("0 is a FLOOR", x.floor(100, 0, 0), 0);

        says("15: FLOOR at the far ends of THE BOX, by weights of 100");
        EndingCourt y = farBox();
        due("x0", y.box(0, 1), 400000000);
        due("x1", y.box(1, 1), 20000000);
        due("x2", y.box(2, 1), 1000000);
        due("x2 alone", y.floor(0, 0, -1), -999);
        due("x0 and x2", y.floor(-100, 0, -100), -40000099900L);
        due("all three", y.floor(-100, -100, -100), -42000099900L);
    }

    /**
     * The first BODY makes the box wide, but has nothing in its PLACE, as its
     * GUARDS never hold at once; the second one makes x2, up to 999, 1000.
     */
    private static EndingCourt farBox() {
        EndingCourt x = withLoop(3);
        x.body();
        x.body();
        x.guard(0, w(0, 0, 1), -1);
        x.guard(0, w(0, 0, -1), 0);
        x.rule(0, 0, w(0, 20, 0), 0);
        x.rule(0, 1, w(0, 0, 20), 0);
        x.guard(1, w(0, 0, -1), 999);
        x.rule(1, 2, w(0, 0, 0), 1000);
        x.begin(2, 1, 1000000);
        due("round", x.round(20), 3);
        return x;
    }

    private static void rank() {
        says("16: a SIZE: NONE");
        refusedSize("rank", (x, size) -> x.rank(size));

        says("16: 0: none does");
        EndingCourt x = needing(1, 5);
        x.set(0, 7);
        due("size 5", x.rank(5), 1);
        due("found", x.found(0, 1), 5);
        due("bound", x.bound(), 8);
        due("size 4", x.rank(4), 0);
        due("found stays", x.found(0, 1), 5);
        due("bound by the latest", x.bound(), -1);
        due("refused", x.rank(6), -1);
        due("still none", x.bound(), -1);
        due("size 5", x.rank(5), 1);
        due("refused", x.rank(0), -1);
        due("bound stays", x.bound(), 8);

        says("16: the first such is found");
        EndingCourt none = withLoop(3);
        due("no BODIES", none.rank(5), 1);
        due("the first of all", none.found(0, 0), -1);
        EndingCourt last = lastOfAll();
        due("4, 4, 4 falls by 4 / 5", last.rank(4), 0);
        due("5, 5, 5 falls by 1", last.rank(5), 1);
        for (int i = 0; i < 3; i++) {
            due("the last of all", last.found(0, i), 5);
        }
    }

    private interface Sized {
        int ask(EndingCourt x, int size);
    }

    private static void refusedSize(String what, Sized call) {
        for (int size : new int[] {0, -1, 6, FAR[0], FAR[1], FAR[2]}) {
            refused(what + " " + size, x -> call.ask(x, size), -1);
        }
        for (int size = 1; size <= 5; size++) {
            due(what + " " + size, call.ask(rich(1), size), 1);
        }
    }

    /** Of x0 + x1 + x2, which is a fifth or more, and is 0 behind the TURN, only five times it will do. */
    private static EndingCourt lastOfAll() {
        EndingCourt x = withBody(3);
        x.guard(0, w(5, 5, 5), -1);
        x.rule(0, 0, w(0, -1, -1), 0);
        return x;
    }

    private static void rows() {
        says("17: a SIZE: NONE");
        refusedSize("rows", (x, size) -> x.rows(size));

        says("17: how many were taken (0 without BODIES)");
        for (int size = 1; size <= 5; size++) {
            due("without BODIES", withLoop(3).rows(size), 0);
        }
        due("the most", fiveRows().rows(1), 5);
        due("size 5", lastOfAll().rows(5), 1);
        EndingCourt empty = withLoop(2);
        for (int b = 0; b < 5; b++) {
            empty.body();
            empty.guard(b, w(0, 0, 0), -1);
        }
        due("nothing in any PLACE: one for all", empty.rows(1), 1);

        says("17: OPEN: it is not (those that were taken are told all the same)");
        due("size 4, none taken", lastOfAll().rows(4), -3);
        EndingCourt four = fiveRows();
        four.rule(1, 2, w(0, 0, 1), 0);
        due("all but one", four.rows(1), -3);
        due("taken", four.found(3, 0), 1);
        due("taken", four.found(3, 2), 1);
        due("no fifth", four.found(4, 0), -1000);
        due("by the last", four.by(4), 3);
        due("LEFT", four.by(1), -1);
    }

    private static void found() {
        says("18: the k-th SUM: -1000: there is none such");
        due("before any", new EndingCourt().found(0, 0), -1000);
        EndingCourt x = fiveRows();
        x.rows(1);
        due("k -1", x.found(-1, 0), -1000);
        due("k 0", x.found(0, 2), 1);
        due("k 4", x.found(4, 2), 1);
        due("k 5", x.found(5, 0), -1000);

        says("18: i 0 .. 2");
        due("i -1", x.found(4, -1), -1000);
        due("i 0", x.found(4, 0), 1);
        due("i 2", x.found(4, 2), 1);
        due("i 3", x.found(4, 3), -1000);
        for (int far : FAR) {
            due("k", x.found(far, 0), -1000);
            due("i", x.found(0, far), -1000);
        }
        // Behind the last weight of a SUM comes the first one of the next.
        due("not the next one's", x.found(0, 3), -1000);
        due("not the one's before", x.found(1, -1), -1000);

        says("18: 0 of a NUMBER that there is not");
        for (int n = 1; n <= 2; n++) {
            EndingCourt y = rich(n);
            due("found", y.found(0, 0), 1);
            for (int i = n; i < 3; i++) {
                due("none", y.found(0, i), 0);
            }
        }

        says("18: of rank k is 0");
        EndingCourt y = crowded();
        due("rank took the place of five rows", y.found(0, 2), 1);
        due("no second one", y.found(1, 0), -1000);
        due("by() is of rows() still", y.by(1), 4);

        says("18: the latest of all rank() above 0 and rows() that took at least one (OPEN ones, too)");
        EndingCourt z = fiveRows();
        due("rows", z.rows(1), 5);
        due("rank that is 0", z.rank(5), 0);
        due("stays", z.found(4, 1), 1);
        due("refused", z.rows(6) + z.rank(6), -2);
        due("stays", z.found(4, 1), 1);
        z.guard(2, w(0, 0, 0), -1);
        z.rule(0, 2, w(0, 0, 1), 0);
        z.rule(3, 2, w(0, 0, 1), 0);
        z.rule(4, 2, w(0, 0, 1), 0);
        z.rule(1, 2, w(0, 0, 1), 0);
        due("stays when the LOOP changes", z.found(4, 1), 1);
        due("OPEN, but one taken", z.rows(1), -3);
        due("the newer", z.found(0, 0), -1);
        due("no fifth any more", z.found(4, 1), -1000);
        EndingCourt none = needing(1, 2);
        due("rank", none.rank(2), 1);
        due("OPEN, none taken", none.rows(1), -3);
        due("stays", none.found(0, 1), 2);
        due("refused loop()", none.loop(0), -1);
        due("stays", none.found(0, 1), 2);
        none.loop(2);
        due("behind loop()", none.found(0, 1), -1000);
        due("rows without BODIES took none", none.rows(1), 0);
        due("none", none.found(0, 0), -1000);
    }

    private static void by() {
        says("19: by which of the SUMS that the latest rows() took (whatever it answered)");
        EndingCourt x = fiveRows();
        due("before any", x.by(0), -1);
        x.rows(1);
        due("the first", x.by(2), 0);
        due("the fifth", x.by(1), 4);
        x.rows(0);
        due("behind a refused one", x.by(1), 4);
        due("rank is not rows", x.rank(1), 0);
        due("stays", x.by(1), 4);
        for (int b = 0; b < 5; b++) {
            x.rule(b, 2, w(0, 0, 1), 0);
        }
        due("stays when the LOOP changes", x.by(1), 4);
        due("OPEN, none taken", x.rows(1), -3);
        for (int b = 0; b < 5; b++) {
            due("by none", x.by(b), -1);
        }

        says("19: of bodies made since: NONE");
        EndingCourt y = rich(2);
        due("rows", y.rows(1), 1);
        due("of then", y.by(1), 0);
        due("made since", y.body(), 2);
        due("made since", y.by(2), -1);
        due("of then", y.by(1), 0);
        due("loop", y.loop(2), 2);
        y.body();
        due("behind loop()", y.by(0), -1);
        EndingCourt none = withLoop(1);
        due("rows without BODIES", none.rows(1), 0);
        none.body();
        due("made since", none.by(0), -1);

        says("19: NONE: no such BODY");
        EndingCourt z = fiveRows();
        z.rows(1);
        due("body -1", z.by(-1), -1);
        due("body 4", z.by(4), 3);
        due("body 5", z.by(5), -1);
        due("body 2 of two", rich(1).by(2), -1);
        for (int far : FAR) {
            due("far", z.by(far), -1);
        }
    }

    private static void bound() {
        says("20: its VALUE at x less its FLOOR, and 1, but at least 0");
        EndingCourt x = withBody(1);
        x.guard(0, w(1, 0, 0), -5);
        x.rule(0, 0, w(1, 0, 0), -1);
        x.rank(1);
        for (int v = 3; v <= 7; v++) {
            x.set(0, v);
            due("at " + v, x.bound(), Math.max(0, v - 4));
        }
        x.set(0, -1000000);
        due("far below", x.bound(), 0);
        x.set(0, 1000000);
        due("far above", x.bound(), 999996);

        says("20: x as far as a run may lead, weights of 5");
        EndingCourt far = withBody(3);
        far.guard(0, w(5, 5, 5), -1);
        for (int i = 0; i < 3; i++) {
            far.set(i, 312500);
            far.rule(0, i, wOf(i, 20), 0);
        }
        due("run", far.run(5), 5);
        for (int i = 1; i < 3; i++) {
            far.rule(0, i, wOf(i, 1), 0);
        }
        far.rule(0, 0, w(0, -1, -1), 0);
        due("rank", far.rank(5), 1);
        due("x0", far.at(0), 1000000000000L);
        due("its FLOOR is 1", far.bound(), 15000000000000L);

        says("20: NONE: the latest rank() found none");
        due("before any", withBody(1).bound(), -1);
        due("rows is not rank", boundBehindRowsAlone(), -1);
        EndingCourt none = needing(1, 2);
        none.rank(2);
        due("found", none.bound(), 1);
        none.rank(1);
        due("found none", none.bound(), -1);

        says("20: OPEN: x is not in THE BOX");
        EndingCourt in = withBody(3);
        in.guard(0, w(0, 0, 0), -1);
        for (int i = 0; i < 3; i++) {
            in.begin(i, 0, -10 - i);
            in.begin(i, 1, 10 + i);
        }
        in.round(1);
        in.rank(1);
        for (int i = 0; i < 3; i++) {
            in.set(i, 10 + i);
            due("the greatest", in.bound(), i == 0 ? 0 : 1);
            in.set(i, 11 + i);
            due("above it", in.bound(), -3);
            in.set(i, -10 - i);
            due("the least", in.bound(), i == 0 ? 11 : 1);
            in.set(i, -11 - i);
            due("below it", in.bound(), -3);
            in.set(i, 0);
        }
        for (int i = 0; i < 3; i++) {
            in.begin(i, i % 2, OPEN_GIVEN);
        }
        in.round(1);
        in.set(0, -1000000);
        in.set(1, 1000000);
        in.set(2, -1000000);
        due("NONE goes ahead of OPEN", in.bound(), -1);
        in.rank(1);
        due("open ends hold all", in.bound(), 1000001);
        in.set(0, 11);
        due("not the other ones", in.bound(), -3);
    }

    private static int boundBehindRowsAlone() {
        EndingCourt x = withBody(1);
        x.guard(0, w(1, 0, 0), 0);
        x.rule(0, 0, w(1, 0, 0), -1);
        due("rows", x.rows(1), 1);
        return (int) x.bound();
    }

    private static void boundChanged() {
        says("20: NONE: the LOOP or THE BOX was changed since");
        boundBehind("loop", x -> x.loop(2), -1);
        boundBehind("body", x -> x.body(), -1);
        boundBehind("guard", x -> x.guard(0, w(0, 0, 0), 0), -1);
        boundBehind("rule", x -> x.rule(0, 0, w(1, 0, 0), -3), -1);
        boundBehind("round", x -> x.round(2), -1);
        boundBehind("open", x -> x.open(), -1);

        says("20: .. what is refused, and what changes neither, leaves it");
        boundBehind("refused loop", x -> x.loop(4), 11);
        boundBehind("refused guard", x -> x.guard(0, 68921, 0), 11);
        boundBehind("refused rule", x -> x.rule(0, 0, 0, 1001), 11);
        boundBehind("refused w", x -> x.round(21), 11);
        boundBehind("crossed", x -> x.begin(0, 0, 21) + x.round(1), 11);
        boundBehind("refused rank", x -> x.rank(6), 11);
        boundBehind("begin", x -> x.begin(0, 0, 5), 11);
        boundBehind("rows", x -> x.rows(1), 11);
        boundBehind("ring", x -> x.ring(3), 11);
        boundBehind("call", x -> x.call(0, 0, 0), 11);
        boundBehind("set", x -> x.set(0, 12), 12);
        boundBehind("run", x -> x.run(1), 10);
        EndingCourt full = crowded();
        long before = full.bound();
        due("full", full.body() + full.guard(0, 0, 0), -4);
        due("stays", full.bound(), before);
    }

    private static void boundBehind(String what, ToLongFunction<EndingCourt> call, long want) {
        EndingCourt x = rich(2);
        due("ahead of " + what, x.bound(), 11);
        call.applyAsLong(x);
        due("behind " + what, x.bound(), want);
    }

    // ---- Promises 21 to 24: the box

    private static void begin() {
        says("21: all are 0 at first");
        for (int n = 1; n <= 3; n++) {
            EndingCourt x = withLoop(n);
            due("round", x.round(1), 1);
            for (int i = 0; i < n; i++) {
                due("least", x.box(i, 0), 0);
                due("greatest", x.box(i, 1), 0);
            }
        }

        says("21: NONE: no such NUMBER, side");
        refused("number -1", x -> x.begin(-1, 0, 0), -1);
        refused("number 3", x -> x.begin(3, 0, 0), -1);
        refused(State.ONE, "number 1 of one", x -> x.begin(1, 0, 0), -1);
        refused(State.TWO, "number 2 of two", x -> x.begin(2, 1, 0), -1);
        refused("side -1", x -> x.begin(0, -1, 0), -1);
        refused("side 2", x -> x.begin(0, 2, 0), -1);
        for (int n = 1; n <= 3; n++) {
            due("the last of " + n, rich(n).begin(n - 1, 0, 0), 0);
            due("the last of " + n, rich(n).begin(n - 1, 1, 0), 0);
        }

        says("21: NONE: v beyond 1000000 (without its sign, but for -2000000)");
        int[] wrongEnds = {1000001, -1000001, -1999999, -2000001, 2000000};
        for (int v : wrongEnds) {
            refused("least " + v, x -> x.begin(0, 0, v), -1);
            refused("greatest " + v, x -> x.begin(0, 1, v), -1);
        }
        for (int far : FAR) {
            refused("number " + far, x -> x.begin(far, 0, 0), -1);
            refused("side " + far, x -> x.begin(0, far, 0), -1);
            refused("v " + far, x -> x.begin(0, 0, far), -1);
        }
        for (int v : new int[] {-1000000, 1000000}) {
            EndingCourt x = withLoop(1);
            due("least " + v, x.begin(0, 0, v), 0);
            due("greatest " + v, x.begin(0, 1, v), 0);
            due("round", x.round(1), 1);
            due("least", x.box(0, 0), v);
            due("greatest", x.box(0, 1), v);
        }
        EndingCourt open = withLoop(1);
        for (int side = 0; side < 2; side++) {
            due("open", open.begin(0, side, OPEN_GIVEN), 0);
            due("round", open.round(1), 1);
            due("open", open.box(0, side), OPEN_END);
            due("not open again", open.begin(0, side, 0), 0);
            due("round", open.round(1), 1);
            due("0", open.box(0, side), 0);
        }
    }

    private static void round() {
        says("22: NONE: w");
        for (int w : new int[] {0, -1, 21, FAR[0], FAR[1], FAR[2]}) {
            refused("round(" + w + ")", x -> x.round(w), -1);
        }
        due("round(1)", rich(1).round(1), 2);
        due("round(20)", rich(1).round(20), 21);

        says("22: NONE: a least value is above the greatest one");
        for (int n = 1; n <= 3; n++) {
            for (int i = 0; i < n; i++) {
                EndingCourt x = withLoop(n);
                x.begin(i, 0, 7);
                x.begin(i, 1, 7);
                due("the same", x.round(1), 1);
                due("box", x.box(i, 0), 7);
                x.begin(i, 0, 8);
                due("1 above", x.round(1), -1);
                due("THE BOX stays", x.box(i, 0), 7);
                x.begin(i, 1, OPEN_GIVEN);
                due("the greatest open", x.round(1), 1);
                due("box", x.box(i, 0), 8);
                x.begin(i, 0, OPEN_GIVEN);
                x.begin(i, 1, -1000000);
                due("the least open", x.round(1), 1);
                due("box", x.box(i, 1), -1000000);
            }
        }
        EndingCourt crossed = rich(2);
        EndingCourt twin = rich(2);
        crossed.begin(1, 0, 22);
        twin.begin(1, 0, 22);
        due("crossed", crossed.round(1), -1);
        same("a crossed round", crossed, twin);

        says("22: how many rounds it took (the last one, which changed nothing, too)");
        due("none changed", withBody(2).round(1), 1);
        EndingCourt one = withBody(1);
        one.rule(0, 0, w(0, 0, 0), 3);
        due("one changed", one.round(20), 2);
        due("box", one.box(0, 1), 3);
        due("open from round 1 on", one.round(1), 2);
        due("box", one.box(0, 1), OPEN_END);

        says("22: from that box: begin()'s ends stay as they were");
        due("again", one.round(20), 2);
        due("box", one.box(0, 1), 3);
    }

    private static void roundOut() {
        says("22: OUT: an end that is not open would be beyond 1000000000, looked at behind each round");
        for (int i = 0; i < 3; i++) {
            for (int sign = -1; sign <= 1; sign += 2) {
                due("1000000000 in round 3", tenfold(i, sign, 999889, 1000).round(4), 5);
                due("1000000001 in round 3", tenfold(i, sign, 999890, 991).round(4), -4);
                due("999999999 in round 3", tenfold(i, sign, 999888, 1009).round(4), 5);
                due("open in round 3", tenfold(i, sign, 999890, 991).round(3), 4);
                due("beyond in round 4", tenfold(i, sign, 999889, 1000).round(5), -4);
            }
        }

        says("22: OUT (THE BOX stays)");
        for (int i = 0; i < 3; i++) {
            EndingCourt x = heldThenOut(i);
            due("OUT", x.round(20), -4);
            due("least", x.box(i, 0), -2);
            due("greatest", x.box(i, 1), 3);
            due("bound stays", x.bound(), 1);
            x = heldThenOut(i);
            x.round(20);
            same("a round that is OUT", x, heldThenOut(i));
        }
    }

    /** THE BOX holds, as the BODY is passed over; begin()'s box goes OUT. Its PLACE has nothing in it. */
    private static EndingCourt heldThenOut(int i) {
        int other = (i + 1) % 3;
        EndingCourt x = withBody(3);
        x.guard(0, wOf(other, 1), -1);
        x.guard(0, wOf(other, -1), 0);
        x.rule(0, i, wOf(i, 10), 0);
        x.begin(i, 0, -2);
        x.begin(i, 1, 3);
        due("holds", x.round(20), 1);
        due("rank", x.rank(1), 1);
        due("bound", x.bound(), 1);
        x.begin(other, 1, 1);
        return x;
    }

    /** NUMBER i becomes 10 times itself and another one: in round 3 it is 1000 first + 111 more. */
    private static EndingCourt tenfold(int i, int sign, int first, int more) {
        int other = (i + 1) % 3;
        EndingCourt x = withBody(3);
        x.rule(0, i, wOf(i, 10) + wOf(other, 1) - w(0, 0, 0), 0);
        x.begin(i, sign > 0 ? 1 : 0, sign * first);
        x.begin(other, 0, Math.min(0, sign * more));
        x.begin(other, 1, Math.max(0, sign * more));
        return x;
    }

    private static void box() {
        says("23: -3000000000000: it is open (or there is none such)");
        for (int n = 1; n <= 3; n++) {
            EndingCourt x = withLoop(n);
            x.round(1);
            due("the first", x.box(0, 0), 0);
            due("the last", x.box(n - 1, 1), 0);
            due("behind the last", x.box(n, 0), OPEN_END);
            due("behind the last", x.box(n, 1), OPEN_END);
            due("ahead of the first", x.box(-1, 0), OPEN_END);
            due("ahead of the first", x.box(-1, 1), OPEN_END);
            due("side -1", x.box(n - 1, -1), OPEN_END);
            due("side 2", x.box(0, 2), OPEN_END);
            for (int far : FAR) {
                due("number", x.box(far, 0), OPEN_END);
                due("side", x.box(0, far), OPEN_END);
            }
        }
    }

    private static void open() {
        says("24: THE BOX is open on all sides: 0");
        for (State state : State.values()) {
            EndingCourt x = make(state);
            due("open()", x.open(), 0);
            due("again", x.open(), 0);
            for (int i = 0; i < 3; i++) {
                due("least", x.box(i, 0), OPEN_END);
                due("greatest", x.box(i, 1), OPEN_END);
            }
        }
        EndingCourt x = rich(3);
        EndingCourt twin = rich(3);
        x.open();
        x.round(2);
        twin.round(2);
        due("the box for GOING ROUND stays", x.box(1, 1), 21);
        same("open()", x, twin);
    }

    // ---- Promises 25 to 29: calls

    private static void call() {
        says("25: NONE: f, g");
        for (int f : new int[] {-1, 8, FAR[0], FAR[1], FAR[2]}) {
            refused("f " + f, x -> x.call(f, 0, 0), -1);
            refused("g " + f, x -> x.call(0, f, 0), -1);
        }
        EndingCourt x = new EndingCourt();
        due("0 to 7", x.call(0, 7, 0), 0);
        due("7 to 0", x.call(7, 0, 0), 1);

        says("25: NONE: the number is below 0 or not below 3^16");
        for (int tells : new int[] {-1, 43046721, FAR[0], FAR[1], FAR[2]}) {
            refused("tells " + tells, y -> y.call(0, 0, tells), -1);
        }
        due("0", x.call(0, 0, 0), 2);
        due("3^16 - 1", x.call(0, 0, 43046720), 3);

        says("25: 16 digits by 3, the one of part 0 and 0 highest, then 0 and 1, ..");
        EndingCourt all = new EndingCourt();
        all.call(4, 4, t("1111 1111 1111 1111"));
        due("all 1", all.ending(), 0);
        due("all 1", all.witness(1), 21523360);
        all.clear();
        all.call(4, 4, 43046720);
        due("all 2", all.ending(), 1);
        all.clear();
        all.call(4, 4, t("1200 0000 0000 0000"));
        due("0 and 1", all.ending(), 0);
        due("put together 0 and 1 is 2 still", all.witness(1), t("1200 0000 0000 0000"));
        all.clear();
        all.call(4, 4, t("1000 2000 0000 0000"));
        due("1 and 0", all.ending(), 0);
        due("the same", all.witness(1), t("1000 2000 0000 0000"));
        all.clear();
        all.call(4, 4, t("1200 0100 0000 0001"));
        due("two parts", all.ending(), 0);
        due("the same", all.witness(1), t("1200 0100 0000 0001"));
        all.clear();
        all.call(4, 4, t("1200 2100 0000 0000"));
        due("there and back shrinks", all.ending(), 1);

        says("25: FULL");
        refused(State.CROWDED, "call", y -> y.call(0, 0, 0), -2);
        refused(State.CROWDED, "call of one that there is", y -> y.call(6, 7, 1), -2);
        EndingCourt full = crowded();
        full.clear();
        for (int c = 0; c < 40; c++) {
            due("behind clear()", full.call(c % 8, c / 8, c), c);
        }
        due("full again", full.call(0, 0, 0), -2);
    }

    private static void clear() {
        says("26: all CALLS go: how many there were");
        due("none", new EndingCourt().clear(), 0);
        due("forty", crowded().clear(), 40);
        EndingCourt x = rich(1);
        due("three", x.clear(), 3);
        due("none any more", x.clear(), 0);
        due("made() is of the latest ending() still", x.made(), 2);
        due("witness() too", x.witness(0), 3);
        due("none: it ends", x.ending(), 1);
        due("none made", x.made(), 0);
        due("from 0 on", x.call(0, 0, 0), 0);
    }

    /** Part i tells 1 of part j if bit i of column j is set. */
    private static int head(int... columns) {
        StringBuilder digits = new StringBuilder();
        for (int i = 0; i < 4; i++) {
            for (int j = 0; j < 4; j++) {
                digits.append(columns[j] >> i & 1);
            }
        }
        return t(digits.toString());
    }

    /**
     * CALLS from function to function, none of which ever comes back: 999 MADE
     * ones. From 0 to 1 each has columns that no other one has, from 1 to 2
     * columns change places, from 2 to 3 some of them become 2: so of all that
     * is put together no two are the same: 9 + 9 + 9 + 81 + 81 + 729. From 4
     * to 7 it is the same, with 2, 5 and 4 of them: 11 + 10 + 20 + 40.
     */
    private static EndingCourt manyMade() {
        String[] changes = {
            "1000 0100 0010 0001", "0100 1000 0010 0001", "0100 0010 1000 0001", "0100 0010 0001 1000",
            "1000 0010 0100 0001", "1000 0001 0010 0100", "0010 0100 1000 0001", "0001 0100 0010 1000",
            "0001 0010 0100 1000",
        };
        String[] shrinking = {
            "1000 0100 0010 0001", "2000 0100 0010 0001", "1000 0200 0010 0001", "1000 0100 0020 0001",
            "1000 0100 0010 0002", "2000 0200 0010 0001", "2000 0100 0020 0001", "2000 0100 0010 0002",
            "1000 0200 0020 0001",
        };
        EndingCourt x = new EndingCourt();
        for (int k = 0; k < 9; k++) {
            x.call(0, 1, head(1, 2, 4, 7 + k));
            x.call(1, 2, t(changes[k]));
            x.call(2, 3, t(shrinking[k]));
        }
        for (int k = 0; k < 5; k++) {
            if (k < 2) {
                x.call(4, 5, head(1, 2, 4, 7 + k));
            }
            x.call(5, 6, t(changes[k]));
            if (k < 4) {
                x.call(6, 7, t(shrinking[k]));
            }
        }
        return x;
    }

    private static void ending() {
        says("27: 1: ENDING (also without CALLS)");
        due("no CALLS", new EndingCourt().ending(), 1);
        EndingCourt none = new EndingCourt();
        none.call(0, 1, 0);
        due("none to itself", none.ending(), 1);
        due("made", none.made(), 1);

        says("27: 0: not");
        none.call(1, 0, 0);
        due("to itself by way of another", none.ending(), 0);

        says("27: OPEN: there would be more than 1000 MADE ones (and it is ENDING up to there)");
        EndingCourt x = manyMade();
        due("999", x.ending(), 1);
        due("made", x.made(), 999);
        x.call(0, 7, 0);
        due("1000", x.ending(), 1);
        due("made", x.made(), 1000);
        x.call(0, 7, 0);
        due("1000, and one that there is", x.ending(), 1);
        due("made", x.made(), 1000);
        EndingCourt y = manyMade();
        y.call(0, 7, 0);
        y.call(0, 7, 1);
        due("1001", y.ending(), -3);
        due("made", y.made(), 1000);

        says("27: OPEN: .. and it is not ENDING up to there");
        EndingCourt z = nearlyThousand();
        for (int more = 0; more <= 4; more++) {
            due("ending with " + more, z.ending(), more <= 3 ? 0 : -3);
            due("made with " + more, z.made(), more <= 3 ? 997 + more : 1000);
            z.call(6, 7, more);
        }
    }

    /** 997 MADE ones of function 0, not ENDING. */
    private static EndingCourt nearlyThousand() {
        EndingCourt x = new EndingCourt();
        for (int tells : new int[] {275582, 3306924, 6023513, 4645}) {
            x.call(0, 0, tells);
        }
        return x;
    }

    private static void made() {
        says("28: NONE before any");
        due("a new object", new EndingCourt().made(), -1);
        EndingCourt x = new EndingCourt();
        x.call(0, 0, 0);
        x.clear();
        due("call() and clear() make none", x.made(), -1);
        x.ending();
        due("0 without CALLS", x.made(), 0);

        says("28: how many the latest ending() came to (1000, if it was OPEN)");
        x.call(0, 0, 0);
        due("not before ending()", x.made(), 0);
        x.ending();
        due("1", x.made(), 1);
        EndingCourt y = nearlyThousand();
        for (int more = 0; more < 36; more++) {
            y.call(6, 7, more);
        }
        due("OPEN", y.ending(), -3);
        due("1000", y.made(), 1000);
        y.clear();
        due("clear() leaves it", y.made(), 1000);
        due("ending", y.ending(), 1);
        due("0", y.made(), 0);
        y.loop(2);
        due("loop() leaves it, as CALLS stay", y.made(), 0);
    }

    private static void witness() {
        says("29: NONE: there is none");
        EndingCourt x = new EndingCourt();
        due("before any", x.witness(0), -1);
        due("before any", x.witness(1), -1);
        x.ending();
        due("behind 1", x.witness(0), -1);
        due("behind 1", x.witness(1), -1);
        EndingCourt open = nearlyThousand();
        for (int more = 0; more < 4; more++) {
            open.call(6, 7, more);
        }
        due("OPEN", open.ending(), -3);
        due("behind OPEN", open.witness(0), -1);
        due("behind OPEN", open.witness(1), -1);

        says("29: 0 the function, 1 the number that tells");
        EndingCourt y = rich(1);
        due("-1", y.witness(-1), -1);
        due("0", y.witness(0), 3);
        due("1", y.witness(1), t("1000 0000 0000 0000"));
        due("2", y.witness(2), -1);
        for (int far : FAR) {
            due("far", y.witness(far), -1);
        }

        says("29: least function; then least by the number that tells");
        EndingCourt z = new EndingCourt();
        z.call(7, 7, 0);
        z.ending();
        due("function 7", z.witness(0), 7);
        due("tells 0", z.witness(1), 0);
        z.call(0, 0, t("1111 1111 1111 1111"));
        z.ending();
        due("function 0", z.witness(0), 0);
        due("tells", z.witness(1), t("1111 1111 1111 1111"));
        z.call(0, 0, t("1111 1111 1111 1112"));
        z.ending();
        due("one more is not the least", z.witness(1), t("1111 1111 1111 1111"));
        z.call(0, 0, t("1000 0000 0000 0000"));
        z.ending();
        due("less", z.witness(1), t("1000 0000 0000 0000"));
        z.call(0, 0, t("0000 0000 0000 0001"));
        z.ending();
        due("put together they tell nothing", z.witness(1), 0);

        EndingCourt ahead = new EndingCourt();
        ahead.call(3, 3, t("0100 0100 0000 0000"));
        ahead.call(5, 5, 0);
        ahead.call(4, 4, 0);
        due("0", ahead.ending(), 0);
        due("the first CALL's function is the least", ahead.witness(0), 3);
        due("its number", ahead.witness(1), t("0100 0100 0000 0000"));
        EndingCourt less = new EndingCourt();
        less.call(3, 3, t("0000 0000 0000 0001"));
        less.call(3, 3, t("0000 0000 0000 0101"));
        due("0", less.ending(), 0);
        due("the first CALL's number is the least", less.witness(1), 1);

        says("29: by the latest ending() that was 0");
        z.clear();
        due("1", z.ending(), 1);
        due("stays", z.witness(0), 0);
        z.call(5, 5, t("0000 0100 0000 0000"));
        due("not before ending()", z.witness(0), 0);
        due("0", z.ending(), 0);
        due("the newer", z.witness(0), 5);
        due("the newer", z.witness(1), t("0000 0100 0000 0000"));
        z.clear();
        for (int tells : new int[] {275582, 3306924, 6023513, 4645}) {
            z.call(0, 0, tells);
        }
        for (int more = 0; more < 4; more++) {
            z.call(6, 7, more);
        }
        due("OPEN", z.ending(), -3);
        due("stays", z.witness(0), 5);
    }
}
