import java.util.function.Function;

/** For each promise: ordinary inputs, the edges that the document names, and wrong inputs. */
public final class PromiseTest {
    private static final long OPEN_END = -3000000000000L;
    private static final long NO_FLOOR = -9000000000000000L;
    private static final int[] WRONG = {-2, -1000, Integer.MIN_VALUE, Integer.MAX_VALUE};
    private static int wrong = 0;
    private static int checked = 0;

    private static void due(String what, long got, long want) {
        checked++;
        if (got != want) {
            wrong++;
            System.out.println(what + " answered " + got + ", due is " + want);
        }
    }

    /** Weights as one number. */
    private static int w(int a0, int a1, int a2) {
        return ((a0 + 20) * 41 + a1 + 20) * 41 + a2 + 20;
    }

    /** What a CALL tells as one number, from 16 digits. */
    private static int t(String digits) {
        return Integer.parseInt(digits.replace(" ", ""), 3);
    }

    private static EndingCourt withLoop(int n) {
        EndingCourt x = new EndingCourt();
        x.loop(n);
        return x;
    }

    /** while (x0 >= 1) x0 = x0 - 3. */
    private static EndingCourt falling() {
        EndingCourt x = withLoop(1);
        x.body();
        x.guard(0, w(1, 0, 0), -1);
        x.rule(0, 0, w(1, 0, 0), -3);
        return x;
    }

    public static void main(String[] args) {
        newObject();
        loop();
        body();
        guard();
        rule();
        many();
        setAndAt();
        run();
        turn();
        ring();
        ahead();
        ranks();
        tells();
        placesOfRatios();
        crowdedPlaces();
        floor();
        rank();
        rows();
        found();
        by();
        bound();
        whatEndsABound();
        begin();
        round();
        roundOpensAndGoesOut();
        box();
        open();
        call();
        clear();
        ending();
        madeAndWitness();
        refusedChangesNothing();
        farEnds();
        System.out.println(checked + " answers looked at, " + wrong + " not as due");
        if (wrong != 0) {
            System.exit(1);
        }
    }

    private static void newObject() {
        EndingCourt x = new EndingCourt();
        due("1 many(-1)", x.many(-1), 0);
        due("1 set(1, 7)", x.set(1, 7), 0);
        due("1 set(2, 7)", x.set(2, 7), -1);
        for (int i = -1; i < 4; i++) {
            due("1 box", x.box(i, 0), OPEN_END);
            due("1 box", x.box(i, 1), OPEN_END);
        }
        due("1 clear()", x.clear(), 0);
        due("1 made()", x.made(), -1);
        due("1 ahead()", x.ahead(), -1);
        due("1 found", x.found(0, 0), -1000);
        due("1 by", x.by(0), -1);
        due("1 bound()", x.bound(), -1);
        due("1 witness", x.witness(0), -1);
        due("1 turn()", x.turn(), -1);
        due("1 at(0)", x.at(0), 0);
        due("1 loop(3)", x.loop(3), 2);
    }

    private static void loop() {
        EndingCourt x = new EndingCourt();
        due("2 loop(1)", x.loop(1), 2);
        due("2 loop(3)", x.loop(3), 1);
        due("2 loop(2)", x.loop(2), 3);
        due("2 loop(0)", x.loop(0), -1);
        due("2 loop(4)", x.loop(4), -1);
        for (int bad : WRONG) {
            due("2 loop(wrong)", x.loop(bad), -1);
        }
        x.body();
        x.set(0, 5);
        x.begin(0, 0, -4);
        x.begin(0, 1, 9);
        due("2 round", x.round(1), 1);
        due("2 box", x.box(0, 1), 9);
        x.call(1, 2, 3);
        x.guard(0, w(0, 0, 0), -1);
        due("2 rank", x.rank(1), 1);
        due("2 rows", x.rows(1), 1);
        x.body();
        due("2 ring", x.ring(1), 1);
        due("2 found", x.ahead(), 0);
        due("2 refused", x.loop(4), -1);
        due("2 a refused one forgets nothing", x.ahead(), 0);
        due("2 ending", x.ending(), 1);
        due("2 loop again", x.loop(2), 2);
        due("2 no ring found", x.ahead(), -1);
        due("2 what was made of CALLS stays", x.made(), 1);
        due("2 no bodies", x.many(-1), 0);
        due("2 box open", x.box(0, 1), OPEN_END);
        due("2 x is 0", x.at(0), 0);
        due("2 nothing found", x.found(0, 0), -1000);
        due("2 no bound", x.bound(), -1);
        x.body();
        due("2 by", x.by(0), -1);
        due("2 a body has no guards again", x.many(0), 0);
        due("2 the box for going round is 0", x.round(1), 1);
        due("2 least", x.box(0, 0), 0);
        due("2 greatest", x.box(0, 1), 0);
        due("2 calls stay", x.clear(), 1);
    }

    private static void body() {
        EndingCourt x = new EndingCourt();
        for (int b = 0; b < 5; b++) {
            due("3 body()", x.body(), b);
            due("3 no guards", x.many(b), 0);
        }
        due("3 body() full", x.body(), -2);
        due("3 many", x.many(-1), 5);
        due("3 round", x.round(1), 1);
        due("3 refused body()", x.body(), -2);
        due("3 box stays behind a refused one", x.box(0, 0), 0);
        x.loop(2);
        x.round(1);
        due("3 box", x.box(0, 0), 0);
        due("3 body()", x.body(), 0);
        due("3 box open behind body()", x.box(0, 0), OPEN_END);
        x.set(0, 8);
        due("3 rules keep what was", x.run(3), 3);
        due("3 rules keep what was", x.at(0), 8);
    }

    private static void guard() {
        EndingCourt x = new EndingCourt();
        due("4 no body", x.guard(0, 0, 0), -1);
        x.body();
        due("4 body -1", x.guard(-1, 0, 0), -1);
        due("4 body 1", x.guard(1, 0, 0), -1);
        due("4 weights -1", x.guard(0, -1, 0), -1);
        due("4 weights 41^3", x.guard(0, 68921, 0), -1);
        due("4 c 1001", x.guard(0, 0, 1001), -1);
        due("4 c -1001", x.guard(0, 0, -1001), -1);
        for (int bad : WRONG) {
            due("4 wrong body", x.guard(bad, 0, 0), -1);
            due("4 wrong weights", x.guard(0, bad < 0 ? bad : 68921, 0), -1);
            due("4 wrong c", x.guard(0, 0, bad == -2 || bad == -1000 ? 2000 : bad), -1);
        }
        due("4 many", x.many(0), 0);
        due("4 weights 0", x.guard(0, 0, 1000), 1);
        due("4 weights 41^3 - 1", x.guard(0, 68920, -1000), 2);
        for (int g = 3; g <= 6; g++) {
            x.round(1);
            due("4 guard", x.guard(0, w(1, 2, 3), g), g);
            due("4 box open", x.box(0, 0), OPEN_END);
        }
        x.round(1);
        due("4 full", x.guard(0, w(1, 0, 0), 0), -2);
        due("4 none goes ahead of full", x.guard(0, -1, 0), -1);
        due("4 box stays", x.box(0, 0), 0);

        EndingCourt y = withLoop(2);
        y.body();
        y.guard(0, w(2, -3, 20), 4);
        y.set(0, 1);
        y.set(1, 2);
        due("4 holds at 0, no number 2", y.turn(), 0);
        y.set(1, 3);
        due("4 holds not below 0", y.turn(), -1);
    }

    private static void rule() {
        EndingCourt x = new EndingCourt();
        due("5 no body", x.rule(0, 0, 0, 0), -1);
        x.body();
        due("5 body -1", x.rule(-1, 0, 0, 0), -1);
        due("5 body 1", x.rule(1, 0, 0, 0), -1);
        due("5 number -1", x.rule(0, -1, 0, 0), -1);
        due("5 number 2 of 2", x.rule(0, 2, 0, 0), -1);
        due("5 weights -1", x.rule(0, 0, -1, 0), -1);
        due("5 weights 41^3", x.rule(0, 0, 68921, 0), -1);
        due("5 d 1001", x.rule(0, 0, 0, 1001), -1);
        due("5 d -1001", x.rule(0, 0, 0, -1001), -1);
        for (int bad : WRONG) {
            due("5 wrong body", x.rule(bad, 0, 0, 0), -1);
            due("5 wrong number", x.rule(0, bad, 0, 0), -1);
        }
        x.round(1);
        due("5 rule", x.rule(0, 0, w(2, -3, 20), 4), 0);
        due("5 box open", x.box(0, 0), OPEN_END);
        due("5 rule", x.rule(0, 1, w(1, 1, -20), -1000), 0);
        x.set(0, 10);
        x.set(1, 1);
        due("5 run", x.run(1), 1);
        due("5 of what all were ahead", x.at(0), 21);
        due("5 of what all were ahead", x.at(1), -989);
        due("5 again", x.rule(0, 1, w(0, 0, 0), 1000), 0);
        x.run(1);
        due("5 the newer one", x.at(1), 1000);
    }

    private static void many() {
        EndingCourt x = new EndingCourt();
        due("6 many(-1)", x.many(-1), 0);
        due("6 many(0)", x.many(0), -1);
        x.body();
        x.body();
        x.guard(1, w(0, 0, 0), 0);
        due("6 many(-1)", x.many(-1), 2);
        due("6 many(0)", x.many(0), 0);
        due("6 many(1)", x.many(1), 1);
        due("6 many(2)", x.many(2), -1);
        for (int bad : WRONG) {
            due("6 many(wrong)", x.many(bad), -1);
        }
    }

    private static void setAndAt() {
        EndingCourt x = withLoop(3);
        due("7 most", x.set(0, 1000000), 0);
        due("7 least", x.set(2, -1000000), 0);
        due("7 above", x.set(0, 1000001), -1);
        due("7 below", x.set(0, -1000001), -1);
        due("7 least int", x.set(0, Integer.MIN_VALUE), -1);
        due("7 greatest int", x.set(0, Integer.MAX_VALUE), -1);
        due("7 no number 3", x.set(3, 0), -1);
        due("7 no number -1", x.set(-1, 0), -1);
        due("8 at(0)", x.at(0), 1000000);
        due("8 at(1)", x.at(1), 0);
        due("8 at(2)", x.at(2), -1000000);
        due("8 at(3)", x.at(3), 0);
        due("8 at(-1)", x.at(-1), 0);
        for (int bad : WRONG) {
            due("7 wrong number", x.set(bad, 0), -1);
            due("8 wrong number", x.at(bad), 0);
        }
    }

    private static void run() {
        EndingCourt x = falling();
        x.set(0, 10);
        due("9 run(0)", x.run(0), -1);
        due("9 run(-1)", x.run(-1), -1);
        due("9 run(10001)", x.run(10001), -1);
        due("9 run(2)", x.run(2), 2);
        due("9 at", x.at(0), 4);
        due("9 run(10000)", x.run(10000), 2);
        due("9 at", x.at(0), -2);
        due("9 ended", x.run(5), 0);

        EndingCourt y = withLoop(1);
        y.body();
        y.rule(0, 0, w(20, 0, 0), 0);
        y.set(0, 312500);
        due("9 1000000000000 is not out", y.run(4), 4);
        due("9 at", y.at(0), 50000000000L);
        due("9 1000000000000 is not out", y.run(1), 1);
        due("9 at", y.at(0), 1000000000000L);
        due("9 out", y.run(1), -4);
        due("9 x stays", y.at(0), 1000000000000L);
        due("9 turn", y.turn(), 0);
        y.set(0, -312500);
        due("9 out behind 5 turns", y.run(6), -4);
        due("9 x is ahead of it", y.at(0), -1000000000000L);

        EndingCourt z = withLoop(2);
        z.body();
        z.rule(0, 1, w(0, 20, 0), 0);
        z.rule(0, 0, w(1, 0, 0), 1);
        z.set(1, 1000000);
        due("9 any number", z.run(10000), -4);
        due("9 no number goes on", z.at(0), 4);
        due("9 no number goes on", z.at(1), 160000000000L);
    }

    private static void turn() {
        EndingCourt x = withLoop(2);
        due("10 no bodies", x.turn(), -1);
        x.body();
        x.body();
        x.body();
        x.guard(0, w(1, 0, 0), -10);
        x.guard(1, w(1, 0, 0), -5);
        x.guard(1, w(0, 1, 0), -5);
        x.guard(2, w(1, 0, 0), 0);
        x.set(0, 10);
        due("10 first", x.turn(), 0);
        x.set(0, 9);
        due("10 all guards", x.turn(), 2);
        x.set(1, 5);
        due("10 second", x.turn(), 1);
        x.set(0, -1);
        due("10 ends", x.turn(), -1);
        due("10 x stays", x.at(0), -1);
    }

    /** x0 goes down to 0 by 1, then round 0 .. -4 for ever. */
    private static EndingCourt tailAndRing() {
        EndingCourt x = withLoop(1);
        x.body();
        x.body();
        x.guard(0, w(1, 0, 0), 3);
        x.rule(0, 0, w(1, 0, 0), -1);
        x.rule(1, 0, w(0, 0, 0), 0);
        return x;
    }

    private static void ring() {
        EndingCourt x = tailAndRing();
        x.set(0, 7);
        due("11 ring(0)", x.ring(0), -1);
        due("11 ring(10001)", x.ring(10001), -1);
        due("11 ring(-5)", x.ring(-5), -1);
        due("11 ring(11)", x.ring(11), 0);
        due("12 none yet", x.ahead(), -1);
        due("11 ring(12)", x.ring(12), 5);
        due("12 ahead", x.ahead(), 7);
        due("11 ring(10000)", x.ring(10000), 5);
        due("11 x stays", x.at(0), 7);
        x.set(0, 9995);
        due("11 just within", x.ring(10000), 5);
        due("12 ahead", x.ahead(), 9995);
        x.set(0, 9996);
        due("11 just not within", x.ring(10000), 0);
        due("12 ahead stays", x.ahead(), 9995);

        EndingCourt y = withLoop(3);
        due("11 no body: ends", y.ring(5), 0);
        y.body();
        y.set(2, 4);
        due("11 stays where it is", y.ring(1), 1);
        due("12 ahead", y.ahead(), 0);
        y.rule(0, 2, w(0, 0, 20), 0);
        due("11 not out within 8", y.ring(8), 0);
        due("11 out", y.ring(9), -4);
        y.set(2, 0);
        due("11 back at once", y.ring(10000), 1);
        y.guard(0, w(0, 0, 1), -1);
        due("11 ends", y.ring(10000), 0);
        due("12 ahead stays", y.ahead(), 0);
    }

    private static void ahead() {
        EndingCourt x = tailAndRing();
        due("12 before any", x.ahead(), -1);
        for (int v = 0; v < 40; v++) {
            x.set(0, v);
            due("11 ring", x.ring(100), 5);
            due("12 ahead", x.ahead(), v);
        }
        x.set(0, -100);
        due("11 ring", x.ring(100), 5);
        due("12 ahead", x.ahead(), 1);
        due("11 not within", x.ring(3), 0);
        due("12 the latest above 0", x.ahead(), 1);
        x.body();
        x.guard(0, w(0, 0, 0), -1);
        x.rule(0, 0, w(0, 0, 0), 3);
        x.open();
        x.round(1);
        x.rank(1);
        x.rows(1);
        x.clear();
        due("12 stays behind all but loop()", x.ahead(), 1);
        x.loop(2);
        due("12 of a new loop none was above 0 yet", x.ahead(), -1);
        due("11 no body", x.ring(9), 0);
        due("12 still none", x.ahead(), -1);
        x.body();
        due("11 ring", x.ring(9), 1);
        due("12 of the new loop", x.ahead(), 0);
    }

    private static void ranks() {
        EndingCourt x = withLoop(2);
        due("13 no bodies", x.ranks(0, 0, 0), 1);
        x.body();
        x.guard(0, w(1, -1, 0), -1);
        x.rule(0, 1, w(0, 1, 0), 1);
        due("13 difference", x.ranks(1, -1, 0), 1);
        due("13 other sign", x.ranks(-1, 1, 0), 0);
        due("13 not bound", x.ranks(0, -1, 0), 0);
        due("13 does not fall", x.ranks(0, 0, 0), 0);
        due("13 100", x.ranks(100, -100, 0), 1);
        due("13 101", x.ranks(101, -100, 0), -1);
        due("13 -101", x.ranks(100, -101, 0), -1);
        due("13 no number 2", x.ranks(1, -1, 1), -1);
        due("13 least int", x.ranks(Integer.MIN_VALUE, 0, 0), -1);
        due("13 greatest int", x.ranks(0, 0, Integer.MAX_VALUE), -1);
        x.body();
        due("13 all bodies", x.ranks(1, -1, 0), 0);
        x.guard(1, w(0, 0, 0), -1);
        due("13 nothing in the place", x.ranks(1, -1, 0), 1);
    }

    private static void tells() {
        EndingCourt x = withLoop(2);
        due("14 no body", x.tells(0, 0, 0, 0), -1);
        x.body();
        due("14 body -1", x.tells(-1, 0, 0, 0), -1);
        due("14 no number 2", x.tells(0, 0, 0, 1), -1);
        due("14 weight 101", x.tells(0, 101, 0, 0), -1);
        due("14 the empty sum", x.tells(0, 0, 0, 0), 5);
        due("14 stays, no bound", x.tells(0, 1, 0, 0), 1);
        x.guard(0, w(1, 0, 0), 0);
        due("14 stays, bound", x.tells(0, 1, 0, 0), 5);
        x.rule(0, 0, w(1, 0, 0), 1);
        due("14 bound alone", x.tells(0, 1, 0, 0), 4);
        due("14 falls, no bound", x.tells(0, -1, 0, 0), 3);
        due("14 nothing", x.tells(0, 1, 1, 0), 0);
        x.guard(0, w(-1, 0, 0), -1);
        due("14 nothing in the place", x.tells(0, 1, 1, 0), 7);
        due("14 nothing in the place", x.tells(0, 0, 0, 0), 7);
        for (int bad : WRONG) {
            due("14 wrong body", x.tells(bad, 0, 0, 0), -1);
        }
    }

    /** The PLACE has ratios, its GUARDS go together, and THE BOX counts. */
    /** Eleven of twelve planes go through one corner; there is one other corner, at 0, 0, 5. */
    private static void crowdedPlaces() {
        EndingCourt x = withLoop(3);
        x.body();
        int[][] guards = {{1, 2, 3}, {3, -1, 2}, {-2, 5, 7}, {7, -3, 5}, {-6, -5, 11}, {2, 9, 4}};
        for (int[] g : guards) {
            x.guard(0, w(g[0], g[1], g[2]), 0);
        }
        x.rule(0, 2, w(0, 0, -1), 5);
        x.begin(2, 1, 5);
        due("22 a row from 0 to 5", x.round(1), 1);
        due("14 not at 0", x.tells(0, 0, 0, 1), 4);
        due("14 not at 5", x.tells(0, 0, 0, -1), 4);
        due("14 nothing changes", x.tells(0, 1, -1, 0), 5);
    }

    private static void placesOfRatios() {
        EndingCourt x = withLoop(2);
        x.body();
        // 1 <= 3 x0 <= 2: no whole x0, but ratios.
        x.guard(0, w(3, 0, 0), -1);
        x.guard(0, w(-3, 0, 0), 2);
        due("14 ratios are in the place", x.tells(0, 1, 0, 0), 5);
        // x0 becomes 2 x0 - 2: falls by 2 - x0, at least 4 / 3.
        x.rule(0, 0, w(2, 0, 0), -2);
        due("14 falls over ratios", x.tells(0, 1, 0, 0), 7);
        // x0 becomes 2 x0 - 1: falls by 1 - x0, 1 / 3 .. 2 / 3.
        x.rule(0, 0, w(2, 0, 0), -1);
        due("14 falls less than 1", x.tells(0, 1, 0, 0), 5);
        due("14 three times as much", x.tells(0, 3, 0, 0), 7);
        due("15 at least 1 / 3", x.floor(4, 0, 0), 1);

        EndingCourt y = withLoop(3);
        y.body();
        // x0 + x1 >= 5, x1 + x2 >= 5, x0 + x2 >= 5: together 2 (x0 + x1 + x2) >= 15.
        y.guard(0, w(1, 1, 0), -5);
        y.guard(0, w(0, 1, 1), -5);
        y.guard(0, w(1, 0, 1), -5);
        y.rule(0, 0, w(1, 0, 0), -1);
        due("14 bound by three together", y.tells(0, 1, 1, 1), 7);
        due("15 7.5 is at least 7", y.floor(1, 1, 1), 7);
        due("15 15", y.floor(2, 2, 2), 15);
        due("15 one alone is not bound", y.floor(1, 0, 0), NO_FLOOR);
        due("14 falls alone", y.tells(0, 1, 0, 0), 3);

        EndingCourt z = withLoop(1);
        z.body();
        z.rule(0, 0, w(1, 0, 0), -1);
        due("14 open box", z.tells(0, 1, 0, 0), 3);
        z.begin(0, 1, -2000000);
        z.guard(0, w(1, 0, 0), -1000);
        z.rule(0, 0, w(0, 0, 0), 999);
        z.begin(0, 0, 5);
        due("round", z.round(1), 1);
        due("14 the box", z.tells(0, 1, 0, 0), 7);
        due("15 the guard is above the box's end", z.floor(1, 0, 0), 1000);
    }

    private static void floor() {
        EndingCourt x = withLoop(1);
        due("15 no bodies", x.floor(1, 0, 0), 0);
        due("15 the empty sum", x.floor(0, 0, 0), 0);
        due("15 NONE", x.floor(0, 1, 0), NO_FLOOR);
        due("15 NONE", x.floor(101, 0, 0), NO_FLOOR);
        x.body();
        x.guard(0, w(2, 0, 0), 3);
        x.rule(0, 0, w(1, 0, 0), -1);
        due("15 -1.5 downwards", x.floor(1, 0, 0), -2);
        due("15 -3", x.floor(2, 0, 0), -3);
        due("15 does not rank", x.floor(-1, 0, 0), NO_FLOOR);
        x.body();
        x.guard(1, w(1, 0, 0), 50);
        x.rule(1, 0, w(1, 0, 0), -2);
        due("15 least of all places", x.floor(1, 0, 0), -50);
        x.body();
        x.guard(2, w(0, 0, 0), -1);
        due("15 places with nothing do not count", x.floor(1, 0, 0), -50);
        x.loop(1);
        x.body();
        x.guard(0, w(0, 0, 0), -1);
        due("15 all have nothing in them", x.floor(-7, 0, 0), 0);
        x.body();
        x.guard(1, w(1, 0, 0), -9);
        x.rule(1, 0, w(1, 0, 0), -1);
        due("15 the one that has", x.floor(3, 0, 0), 27);
    }

    private static void rank() {
        EndingCourt x = withLoop(2);
        due("16 size 0", x.rank(0), -1);
        due("16 size 6", x.rank(6), -1);
        for (int bad : WRONG) {
            due("16 wrong size", x.rank(bad), -1);
        }
        due("16 no bodies: the first of all", x.rank(1), 1);
        due("16 found", x.found(0, 0), -1);
        due("16 found", x.found(0, 1), 0);
        x.body();
        // while (x0 + 2 x1 >= 0) x0 = x0 + 1, x1 = x1 - 1: only x0 + 2 x1 and its like.
        x.guard(0, w(1, 2, 0), 0);
        x.rule(0, 0, w(1, 0, 0), 1);
        x.rule(0, 1, w(0, 1, 0), -1);
        due("16 size 1", x.rank(1), 0);
        due("16 found stays", x.found(0, 0), -1);
        due("16 size 2", x.rank(2), 1);
        due("16 found", x.found(0, 0), 1);
        due("16 found", x.found(0, 1), 2);
        due("16 found", x.found(0, 2), 0);
        due("16 size 5 finds the first", x.rank(5), 1);
        due("16 found", x.found(0, 1), 2);
        due("20 found", x.bound(), 1);
        due("16 size 1 again", x.rank(1), 0);
        due("20 the latest found none", x.bound(), -1);
        due("18 found stays", x.found(0, 1), 2);
        order();
    }

    /** Of several SUMS that would do the first one in order is found. */
    private static void order() {
        EndingCourt x = withLoop(3);
        x.body();
        x.guard(0, w(1, 0, 0), 0);
        x.guard(0, w(0, 1, 0), 0);
        x.guard(0, w(0, 0, 1), 0);
        x.rule(0, 0, w(1, 0, 0), -1);
        x.rule(0, 1, w(0, 1, 0), -1);
        x.rule(0, 2, w(0, 0, 1), -1);
        due("16 of three", x.rank(1), 1);
        due("16 lesser r0", x.found(0, 0), 0);
        due("16 lesser r1", x.found(0, 1), 0);
        due("16 r2", x.found(0, 2), 1);
        x.rule(0, 2, w(0, 0, 1), 0);
        due("16 of two", x.rank(3), 1);
        due("16 r0", x.found(0, 0), 0);
        due("16 r1", x.found(0, 1), 1);
        due("16 r2", x.found(0, 2), 0);
        x.rule(0, 0, w(1, 0, 0), 1);
        x.rule(0, 1, w(0, 1, 0), 1);
        x.rule(0, 2, w(0, 0, 1), -3);
        x.body();
        x.guard(1, w(1, 0, 0), 0);
        x.guard(1, w(0, 1, 0), 0);
        x.guard(1, w(0, 0, 1), 0);
        x.rule(1, 0, w(1, 0, 0), -3);
        x.rule(1, 2, w(0, 0, 1), 2);
        // r0 + r1 - 3 r2 <= -1 and -3 r0 + 2 r2 <= -1, none below 0.
        due("16 the less together", x.rank(5), 1);
        due("16 r0", x.found(0, 0), 1);
        due("16 r1", x.found(0, 1), 0);
        due("16 r2", x.found(0, 2), 1);
    }

    private static void rows() {
        EndingCourt x = withLoop(2);
        due("17 size 0", x.rows(0), -1);
        due("17 size 6", x.rows(6), -1);
        for (int bad : WRONG) {
            due("17 wrong size", x.rows(bad), -1);
        }
        due("17 without bodies", x.rows(1), 0);
        due("17 nothing found", x.found(0, 0), -1000);
        lexicographic(x);
        due("17 two rows", x.rows(1), 2);
        due("17 no rank", x.rank(5), 0);
        due("18 first", x.found(0, 0), 1);
        due("18 second", x.found(1, 1), 1);
        due("18 no third", x.found(2, 0), -1000);
        x.body();
        due("17 a body that stays for ever", x.rows(1), -3);
        due("18 those that were taken", x.found(0, 0), 1);
        due("18 those that were taken", x.found(1, 1), 1);
        due("19 by", x.by(0), 1);
        due("19 by", x.by(1), 0);
        due("19 by none", x.by(2), -1);
        x.rule(2, 0, w(1, 0, 0), 1);
        due("17 none taken", x.rows(1), -3);
        due("18 found stays", x.found(1, 1), 1);
        due("19 by the latest, which took none", x.by(0), -1);
        fiveRows();
    }

    /** while (x0 >= 0) either x1 falls from above 0, or x0 falls and x1 becomes 50. */
    private static void lexicographic(EndingCourt x) {
        x.loop(2);
        x.body();
        x.body();
        x.guard(0, w(1, 0, 0), 0);
        x.guard(0, w(0, 1, 0), -1);
        x.rule(0, 1, w(0, 1, 0), -1);
        x.guard(1, w(1, 0, 0), -1);
        x.rule(1, 0, w(1, 0, 0), -1);
        x.rule(1, 1, w(0, 0, 0), 50);
    }

    /** Bodies with nothing in their PLACE are LEFT no more by the first SUM that stays in all. */
    private static void fiveRows() {
        EndingCourt x = withLoop(3);
        for (int b = 0; b < 5; b++) {
            x.body();
        }
        x.guard(3, w(0, 0, 0), -1);
        x.guard(4, w(0, 0, 0), -1);
        x.guard(0, w(1, 0, 0), 0);
        x.rule(0, 0, w(1, 0, 0), -1);
        x.rule(0, 1, w(0, 0, 0), 9);
        x.rule(0, 2, w(0, 0, 0), 9);
        x.guard(1, w(0, 1, 0), 0);
        x.rule(1, 1, w(0, 1, 0), -1);
        x.rule(1, 2, w(0, 0, 0), 9);
        x.guard(2, w(0, 0, 1), 0);
        x.rule(2, 2, w(0, 0, 1), -1);
        due("17 three rows", x.rows(1), 3);
        due("19 with the first", x.by(3), 0);
        due("19 with the first", x.by(4), 0);
        due("19 x0", x.by(0), 0);
        due("19 x1", x.by(1), 1);
        due("19 x2", x.by(2), 2);
        due("18 x0", x.found(0, 0), 1);
        due("18 x1", x.found(1, 1), 1);
        due("18 x2", x.found(2, 2), 1);
    }

    private static void found() {
        EndingCourt x = withLoop(2);
        lexicographic(x);
        x.rows(2);
        due("18 k -1", x.found(-1, 0), -1000);
        due("18 k 2", x.found(2, 0), -1000);
        due("18 i -1", x.found(0, -1), -1000);
        due("18 i 3", x.found(0, 3), -1000);
        due("18 i 2 of two numbers", x.found(0, 2), 0);
        for (int bad : WRONG) {
            due("18 wrong k", x.found(bad, 0), -1000);
            due("18 wrong i", x.found(0, bad), -1000);
        }
        due("18 rank finds none", x.rank(2), 0);
        due("18 rows stay", x.found(1, 1), 1);
        x.loop(1);
        due("18 behind loop()", x.found(0, 0), -1000);
        x.body();
        x.guard(0, w(-1, 0, 0), 5);
        x.rule(0, 0, w(1, 0, 0), 1);
        due("18 rank", x.rank(3), 1);
        due("18 rank", x.found(0, 0), -1);
        due("18 of rank k is 0", x.found(1, 0), -1000);
        x.rule(0, 0, w(1, 0, 0), 2);
        due("18 stays when the loop changes", x.found(0, 0), -1);
        due("18 refused", x.rows(9), -1);
        due("18 stays", x.found(0, 0), -1);
    }

    private static void by() {
        EndingCourt x = withLoop(2);
        lexicographic(x);
        due("19 before any", x.by(0), -1);
        x.rows(1);
        due("19 by", x.by(0), 1);
        due("19 by", x.by(1), 0);
        due("19 no such body", x.by(2), -1);
        x.body();
        due("19 made since", x.by(2), -1);
        due("19 stays", x.by(0), 1);
        x.rank(1);
        due("19 rank is not rows", x.by(0), 1);
        x.rows(0);
        due("19 refused", x.by(0), 1);
        for (int bad : WRONG) {
            due("19 wrong body", x.by(bad), -1);
        }
        x.loop(2);
        x.body();
        due("19 behind loop()", x.by(0), -1);
    }

    private static void bound() {
        EndingCourt x = falling();
        due("20 before any", x.bound(), -1);
        x.rank(1);
        x.set(0, 7);
        due("20 7 less 1 and 1", x.bound(), 7);
        x.set(0, 1);
        due("20 at the floor", x.bound(), 1);
        x.set(0, 0);
        due("20 below it", x.bound(), 0);
        x.set(0, -1000000);
        due("20 far below it", x.bound(), 0);
        due("20 refused", x.rank(0), -1);
        x.set(0, 1000000);
        due("20 the latest that was not refused", x.bound(), 1000000);
        due("rows is not rank", x.rows(1), 1);
        due("20 still", x.bound(), 1000000);

        x.begin(0, 0, 3);
        x.begin(0, 1, 20);
        x.rule(0, 0, w(1, 0, 0), -1);
        x.rank(1);
        due("round", x.round(3), 4);
        due("20 box changed", x.bound(), -1);
        x.rank(1);
        x.set(0, 21);
        due("20 not in the box", x.bound(), -3);
        x.set(0, 20);
        due("20 in the box", x.bound(), 20);

        EndingCourt y = withLoop(2);
        lexicographic(y);
        due("rank", y.rank(1), 0);
        due("20 found none", y.bound(), -1);
        y.loop(2);
        due("rank without bodies", y.rank(1), 1);
        y.set(0, -5);
        due("20 its floor is 0", y.bound(), 6);
    }

    private static void whatEndsABound() {
        due("20 loop", boundBehind(x -> x.loop(1)), -1);
        due("20 body", boundBehind(x -> x.body()), -1);
        due("20 guard", boundBehind(x -> x.guard(0, w(1, 0, 0), 0)), -1);
        due("20 rule", boundBehind(x -> x.rule(0, 0, w(1, 0, 0), -5)), -1);
        due("20 round", boundBehind(x -> x.round(1)), -1);
        due("20 refused loop", boundBehind(x -> x.loop(4)), 9);
        due("20 refused guard", boundBehind(x -> x.guard(0, -1, 0)), 9);
        due("20 refused rule", boundBehind(x -> x.rule(0, 1, 0, 0)), 9);
        due("20 refused round", boundBehind(x -> x.round(0)), 9);
        due("20 begin is another box", boundBehind(x -> x.begin(0, 0, 5)), 9);
        due("20 runs change no loop", boundBehind(x -> x.ring(5)), 9);
        due("20 calls change no loop", boundBehind(x -> x.call(0, 0, 0)), 9);
        EndingCourt x = falling();
        x.begin(0, 1, 20);
        x.round(1);
        x.rank(1);
        x.set(0, 9);
        due("20 in the box", x.bound(), 9);
        x.open();
        due("20 open", x.bound(), -1);
    }

    private static long boundBehind(Function<EndingCourt, Integer> change) {
        EndingCourt x = falling();
        x.rank(1);
        x.set(0, 9);
        due("20 ahead of it", x.bound(), 9);
        change.apply(x);
        return x.bound();
    }

    private static void begin() {
        EndingCourt x = withLoop(2);
        due("21 number -1", x.begin(-1, 0, 0), -1);
        due("21 number 2", x.begin(2, 0, 0), -1);
        due("21 side -1", x.begin(0, -1, 0), -1);
        due("21 side 2", x.begin(0, 2, 0), -1);
        due("21 above", x.begin(0, 0, 1000001), -1);
        due("21 below", x.begin(0, 0, -1000001), -1);
        due("21 just above open", x.begin(0, 0, -1999999), -1);
        due("21 just below open", x.begin(0, 0, -2000001), -1);
        due("21 2000000", x.begin(0, 1, 2000000), -1);
        for (int bad : WRONG) {
            due("21 wrong number", x.begin(bad, 0, 0), -1);
            due("21 wrong side", x.begin(0, bad, 0), -1);
        }
        due("21 greatest int", x.begin(0, 0, Integer.MAX_VALUE), -1);
        due("21 least int", x.begin(0, 0, Integer.MIN_VALUE), -1);
        due("round", x.round(20), 1);
        due("23 0 at first", x.box(0, 0), 0);
        due("23 0 at first", x.box(1, 1), 0);
        due("21 least", x.begin(0, 0, -1000000), 0);
        due("21 greatest", x.begin(0, 1, 1000000), 0);
        due("21 open", x.begin(1, 0, -2000000), 0);
        due("23 the box is another one", x.box(0, 0), 0);
        due("round", x.round(20), 1);
        due("23 box", x.box(0, 0), -1000000);
        due("23 box", x.box(0, 1), 1000000);
        due("23 box", x.box(1, 0), OPEN_END);
        due("23 box", x.box(1, 1), 0);
        due("21 open above", x.begin(1, 1, -2000000), 0);
        due("round", x.round(20), 1);
        due("23 box", x.box(1, 1), OPEN_END);
    }

    private static void round() {
        EndingCourt x = withLoop(2);
        due("22 w 0", x.round(0), -1);
        due("22 w 21", x.round(21), -1);
        for (int bad : WRONG) {
            due("22 wrong w", x.round(bad), -1);
        }
        x.begin(1, 0, 1);
        due("22 least above greatest", x.round(1), -1);
        due("23 box stays", x.box(0, 0), OPEN_END);
        x.begin(1, 1, -2000000);
        due("22 open is not below", x.round(1), 1);
        x.begin(1, 1, 3);
        x.body();
        // while (x0 + x1 <= 4) x0 = x0 + x1.
        x.guard(0, w(-1, -1, 0), 4);
        x.rule(0, 0, w(1, 1, 0), 0);
        // 0..0, then 0..3, 0..6, .., the guard holds as long as 4 - 0 - 1 is.
        due("22 round(3)", x.round(3), 4);
        due("23 least", x.box(0, 0), 0);
        due("23 greatest", x.box(0, 1), OPEN_END);
        due("23 other", x.box(1, 0), 1);
        due("23 other", x.box(1, 1), 3);
        x.begin(0, 0, 4);
        x.begin(0, 1, 4);
        due("22 passed over", x.round(3), 1);
        due("23 box", x.box(0, 1), 4);
        x.begin(0, 0, 3);
        due("22 a guard that is 0 holds", x.round(1), 2);
        due("23 box", x.box(0, 1), OPEN_END);
        due("23 box", x.box(0, 0), 3);
        bothSigns();
    }

    private static void bothSigns() {
        EndingCourt x = withLoop(3);
        x.begin(0, 0, -2);
        x.begin(0, 1, 5);
        x.begin(1, 0, -1);
        x.begin(1, 1, 7);
        x.begin(2, 0, -2000000);
        x.begin(2, 1, 6);
        x.body();
        x.body();
        x.rule(0, 0, w(0, 0, 0), -9);
        x.rule(1, 0, w(0, 0, 0), 40);
        x.guard(1, w(-2, 3, 0), -25);
        // The greatest value of the guard is 4 + 21 - 25 = 0: it holds.
        due("22 both bodies, all rules", x.round(20), 2);
        due("23 least of body 0", x.box(0, 0), -9);
        due("23 greatest of body 1", x.box(0, 1), 40);
        due("23 an open end", x.box(2, 0), OPEN_END);
        due("23 other end", x.box(2, 1), 6);
        x.guard(1, w(0, 0, -1), 0);
        x.rule(1, 1, w(2, -3, 0), 1);
        // An open end makes the guard hold; from the box that round 1 began with:
        // 2 * -2 - 21 + 1 = -24 up to 10 + 3 + 1 = 14; round 2 goes on from there.
        x.rule(0, 0, w(1, 0, 0), 0);
        x.rule(1, 0, w(1, 0, 0), 0);
        due("22 opened in round 1", x.round(1), 2);
        due("23 opened", x.box(1, 0), OPEN_END);
        due("23 opened", x.box(1, 1), OPEN_END);
        due("23 not opened", x.box(0, 1), 5);
        x.rule(1, 1, w(0, 0, -1), 1);
        due("22 weights below 0 take the other end", x.round(20), 2);
        due("23 1 - 6", x.box(1, 0), -5);
        due("23 open", x.box(1, 1), OPEN_END);
    }

    private static void roundOpensAndGoesOut() {
        EndingCourt x = withLoop(1);
        x.body();
        x.rule(0, 0, w(1, 0, 0), 1);
        for (int w = 1; w <= 20; w++) {
            due("22 round(" + w + ")", x.round(w), w + 1);
            due("23 box", x.box(0, 1), OPEN_END);
        }
        x.rule(0, 0, w(10, 0, 0), 0);
        x.begin(0, 1, 1000000);
        due("22 1000000000 is not out, but what comes then", x.round(5), -4);
        due("22 opened in time", x.round(4), 5);
        due("23 box", x.box(0, 1), OPEN_END);
        x.open();
        due("22 out", x.round(20), -4);
        due("23 the box stays", x.box(0, 1), OPEN_END);
        x.guard(0, w(-1, 0, 0), 0);
        x.begin(0, 0, 1);
        due("22 passed over", x.round(20), 1);
        due("22 out changes nothing", x.rule(0, 0, w(20, 0, 0), 1), 0);
        x.begin(0, 0, 0);
        x.begin(0, 1, 0);
        due("22 out", x.round(20), -4);
        due("23 box open", x.box(0, 0), OPEN_END);

        justOut();
        EndingCourt y = withLoop(1);
        y.body();
        y.rule(0, 0, w(-10, 0, 0), 0);
        y.begin(0, 0, -1000000);
        y.begin(0, 1, 1000000);
        due("22 out both ways", y.round(20), -4);
        y.begin(0, 0, 100);
        y.begin(0, 1, 1000);
        y.round(1);
        due("23 ends", y.box(0, 0), OPEN_END);
        due("23 both open at last", y.box(0, 1), OPEN_END);
        y.begin(0, 0, -2000000);
        due("22 an open end makes it open", y.round(20), 2);
        due("23 open", y.box(0, 1), OPEN_END);
    }

    /** x0 becomes 10 x0 + x1: in round 3 it is 1000 x0 + 111 x1. */
    private static void justOut() {
        EndingCourt x = withLoop(2);
        x.body();
        for (int sign = -1; sign <= 1; sign += 2) {
            int side = sign > 0 ? 1 : 0;
            x.rule(0, 0, w(10, sign, 0), 0);
            x.begin(0, 1 - side, 0);
            x.begin(0, side, sign * 999889);
            x.begin(1, 0, 1000);
            x.begin(1, 1, 1000);
            due("22 1000000000 is not out", x.round(4), 5);
            due("23 opened", x.box(0, side), OPEN_END);
            due("23 other end", x.box(0, 1 - side), 0);
            due("23 other number", x.box(1, side), 1000);
            x.begin(0, side, sign * 999890);
            x.begin(1, 0, 991);
            x.begin(1, 1, 991);
            due("22 1000000001 is out", x.round(4), -4);
            due("23 the box stays", x.box(1, side), 1000);
            due("22 opened ahead of it", x.round(3), 4);
            due("23 the box", x.box(1, side), 991);
        }
    }

    private static void box() {
        EndingCourt x = withLoop(2);
        x.round(1);
        due("23 box", x.box(0, 0), 0);
        due("23 box", x.box(1, 1), 0);
        due("23 no number 2", x.box(2, 0), OPEN_END);
        due("23 no number -1", x.box(-1, 0), OPEN_END);
        due("23 no side 2", x.box(0, 2), OPEN_END);
        due("23 no side -1", x.box(1, -1), OPEN_END);
        for (int bad : WRONG) {
            due("23 wrong number", x.box(bad, 0), OPEN_END);
            due("23 wrong side", x.box(0, bad), OPEN_END);
        }
    }

    private static void open() {
        EndingCourt x = withLoop(3);
        x.begin(1, 1, 8);
        x.round(1);
        due("24 open()", x.open(), 0);
        for (int i = 0; i < 3; i++) {
            due("24 open", x.box(i, 0), OPEN_END);
            due("24 open", x.box(i, 1), OPEN_END);
        }
        x.round(1);
        due("24 the box for going round stays", x.box(1, 1), 8);
        x.body();
        x.rule(0, 0, w(0, 0, 0), 0);
        x.round(1);
        due("14 by the box", x.tells(0, 0, 0, -1), 5);
        x.open();
        due("14 without it", x.tells(0, 0, 0, -1), 1);
    }

    private static void call() {
        EndingCourt x = new EndingCourt();
        due("25 f -1", x.call(-1, 0, 0), -1);
        due("25 f 8", x.call(8, 0, 0), -1);
        due("25 g -1", x.call(0, -1, 0), -1);
        due("25 g 8", x.call(0, 8, 0), -1);
        due("25 tells -1", x.call(0, 0, -1), -1);
        due("25 tells 3^16", x.call(0, 0, 43046721), -1);
        for (int bad : WRONG) {
            due("25 wrong f", x.call(bad, 0, 0), -1);
            due("25 wrong g", x.call(0, bad, 0), -1);
        }
        due("25 least int", x.call(0, 0, Integer.MIN_VALUE), -1);
        due("25 greatest int", x.call(0, 0, Integer.MAX_VALUE), -1);
        for (int c = 0; c < 40; c++) {
            due("25 call", x.call(c % 8, 7 - c % 8, c == 0 ? 43046720 : 0), c);
        }
        due("25 full", x.call(0, 0, 0), -2);
        due("25 none goes ahead of full", x.call(0, 0, -1), -1);
        due("26 clear", x.clear(), 40);
        due("25 from 0 on again", x.call(0, 0, 0), 0);
    }

    private static void clear() {
        EndingCourt x = new EndingCourt();
        due("26 none", x.clear(), 0);
        x.call(0, 0, 0);
        x.call(0, 0, 0);
        due("26 two", x.clear(), 2);
        due("26 gone", x.clear(), 0);
        due("27 ending", x.ending(), 1);
        due("28 made", x.made(), 0);
    }

    private static void ending() {
        EndingCourt x = new EndingCourt();
        due("27 no calls", x.ending(), 1);
        x.call(0, 1, 0);
        due("27 none to itself", x.ending(), 1);
        x.call(1, 0, 0);
        due("27 round and tells nothing", x.ending(), 0);
        due("28 made", x.made(), 4);
        x.clear();
        x.call(3, 3, t("2000 0000 0000 0000"));
        due("27 part 0 shrinks", x.ending(), 1);
        x.clear();
        x.call(3, 3, t("1000 0000 0000 0000"));
        due("27 part 0 stays", x.ending(), 0);
        due("29 function", x.witness(0), 3);
        due("29 tells", x.witness(1), t("1000 0000 0000 0000"));
        x.clear();
        // Parts 0 and 1 change places and one shrinks: it ends, but not at once.
        x.call(0, 0, t("0200 1000 0000 0000"));
        due("27 changing places", x.ending(), 1);
        due("28 the one, and twice it, and thrice", x.made(), 3);
        x.clear();
        // Part 3 to 3 by way of part 2 of another function.
        x.call(5, 6, t("0000 0000 0000 0010"));
        x.call(6, 5, t("0000 0000 0002 0000"));
        due("27 by way of another", x.ending(), 1);
        due("28 both, one of each to itself, and one that goes round first", x.made(), 5);
        x.call(6, 5, t("0000 0000 0001 0000"));
        due("27 the other way does not shrink", x.ending(), 0);
        due("29 function", x.witness(0), 5);
        due("29 tells", x.witness(1), t("0000 0000 0000 0001"));
        lexicographicCalls();
    }

    /** As Ackermann's function: part 0 shrinks, or it stays and part 1 shrinks. */
    private static void lexicographicCalls() {
        EndingCourt x = new EndingCourt();
        x.call(0, 0, t("2000 0000 0000 0000"));
        x.call(0, 0, t("1000 0200 0000 0000"));
        due("27 Ackermann", x.ending(), 1);
        due("28 both", x.made(), 2);
        x.clear();
        // 1 and 2 both lead to part 0: 2 is told; 2 with 0 tells nothing.
        x.call(0, 1, t("1200 0000 0000 0000"));
        x.call(1, 2, t("1000 1000 0000 0000"));
        due("27 ends", x.ending(), 1);
        due("28 made", x.made(), 3);
        x.call(2, 0, t("1000 0000 0000 0000"));
        due("27 2 if for some part", x.ending(), 1);
    }

    private static void madeAndWitness() {
        EndingCourt x = new EndingCourt();
        due("28 before any", x.made(), -1);
        due("29 before any", x.witness(0), -1);
        due("29 before any", x.witness(1), -1);
        x.call(7, 7, 0);
        x.call(2, 2, t("1000 0000 0000 0000"));
        x.call(2, 2, t("0000 0100 0000 0000"));
        due("28 not by call()", x.made(), -1);
        due("27 not", x.ending(), 0);
        due("28 put together they tell nothing", x.made(), 4);
        due("29 least function", x.witness(0), 2);
        due("29 least that tells", x.witness(1), 0);
        due("29 2", x.witness(2), -1);
        due("29 -1", x.witness(-1), -1);
        for (int bad : WRONG) {
            due("29 wrong", x.witness(bad), -1);
        }
        x.clear();
        due("28 the latest ending()", x.made(), 4);
        due("29 the latest ending()", x.witness(0), 2);
        due("27 no calls", x.ending(), 1);
        due("28 none", x.made(), 0);
        due("29 the latest ending() that was 0", x.witness(0), 2);
        due("29 the latest ending() that was 0", x.witness(1), 0);
        tooManyMade();
    }

    /** All that changes parts about and tells 0, 1 or 2 of each: more than 1000. */
    private static void tooManyMade() {
        EndingCourt x = new EndingCourt();
        x.call(0, 0, t("0100 0010 0001 1000"));
        x.call(0, 0, t("0100 1000 0010 0001"));
        x.call(0, 0, t("1100 0100 0010 0002"));
        due("27 open", x.ending(), -3);
        due("28 open", x.made(), 1000);
        due("29 open is not 0", x.witness(0), -1);
        x.clear();
        x.call(0, 0, t("0100 0010 0001 1000"));
        x.call(0, 0, t("0100 1000 0010 0001"));
        due("27 changes about", x.ending(), 0);
        due("28 24 ways", x.made(), 24);
        due("29 the one that changes nothing", x.witness(1), t("1000 0100 0010 0001"));
    }

    private static void refusedChangesNothing() {
        EndingCourt x = falling();
        x.begin(0, 1, 4);
        x.round(1);
        x.set(0, 3);
        x.rank(1);
        x.rows(1);
        x.loop(0);
        x.guard(0, 68921, 0);
        x.guard(5, 0, 0);
        x.rule(0, 1, 0, 0);
        x.set(0, 1000001);
        x.run(0);
        x.begin(0, 1, 1000001);
        x.round(21);
        x.rank(6);
        x.rows(-1);
        due("5 loop stays", x.many(-1), 1);
        due("5 guards stay", x.many(0), 1);
        due("5 x stays", x.at(0), 3);
        due("5 box stays", x.box(0, 1), 4);
        due("5 bound stays", x.bound(), 3);
        due("5 rows stay", x.by(0), 0);
        due("5 found stays", x.found(0, 0), 1);
        due("5 the box for going round stays", x.round(1), 2);
        due("5 box", x.box(0, 1), 4);
    }

    /** The farthest ends of boxes, weights and sums: nothing may run over. */
    private static void farEnds() {
        EndingCourt x = withLoop(3);
        x.body();
        x.guard(0, w(20, -19, 0), 1000);
        x.guard(0, w(-20, 0, 19), -1000);
        x.guard(0, w(19, 20, -20), 999);
        x.rule(0, 0, w(20, 20, 20), 1000);
        x.rule(0, 1, w(20, 20, 20), 1000);
        x.rule(0, 2, w(20, 20, 20), 1000);
        for (int i = 0; i < 3; i++) {
            x.begin(i, 0, 0);
            x.begin(i, 1, 800000);
        }
        due("22 out", x.round(20), -4);
        due("22 opened", x.round(1), 2);
        due("23 least", x.box(0, 0), 0);
        due("14 far", x.tells(0, -100, -100, -100), 3);
        due("14 far", x.tells(0, 100, 100, 100), 4);

        EndingCourt y = withLoop(1);
        y.body();
        y.rule(0, 0, w(20, 0, 0), 0);
        y.guard(0, w(-1, 0, 0), 1000);
        y.begin(0, 1, 1000000);
        y.begin(0, 0, 1000000);
        due("22 passed over", y.round(20), 1);
        due("15 nothing in the place", y.floor(-100, 0, 0), 0);
        y.rule(0, 0, w(0, 0, 0), 0);
        y.guard(0, w(0, 0, 0), 0);
        due("22 passed over", y.round(20), 1);
        due("13 nothing in the place", y.ranks(100, 0, 0), 1);
    }
}
