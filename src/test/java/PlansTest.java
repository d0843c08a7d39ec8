/** Promises 21 to 24: plans, books. */
final class PlansTest {
    private static final int LEAST_INT = Integer.MIN_VALUE, GREATEST_INT = Integer.MAX_VALUE;
    private static final Checks c = new Checks();

    public static void main(String[] args) {
        plan();
        ends();
        book();
        looked();
        c.end();
    }

    private static void plan() {
        c.promise("promise 21");
        GapStations x = Checks.of("0,0;1,0");
        int[] noWhat = {LEAST_INT, -2, 4, GREATEST_INT};
        for (int out : noWhat) {
            c.due("plan(" + out + ", 0)", x.plan(out, 0), -1);
        }
        int[] nobody = {LEAST_INT, -1, 2, GREATEST_INT};
        for (int out : nobody) {
            c.due("plan(1, " + out + ")", x.plan(1, out), -1);
            c.due("plan(3, " + out + ")", x.plan(3, out), -1);
        }
        int[] notNear = {LEAST_INT, -1, 41, GREATEST_INT};
        for (int out : notNear) {
            c.due("plan(2, " + out + ")", x.plan(2, out), -2);
        }
        c.due("count(3)", x.count(3), 0);
        c.due("plan(0, least)", x.plan(0, LEAST_INT), 1);
        c.due("plan(0, greatest)", x.plan(0, GREATEST_INT), 2);
        c.due("plan(1, 0)", x.plan(1, 0), 3);
        c.due("plan(1, 1)", x.plan(1, 1), 4);
        c.due("plan(2, 0)", x.plan(2, 0), 5);
        c.due("plan(2, 40)", x.plan(2, 40), 6);
        c.due("plan(3, 0)", x.plan(3, 0), 7);
        c.due("plan(3, 1)", x.plan(3, 1), 8);
        c.due("plan(0, 0), full", x.plan(0, 0), -4);
        c.due("plan(4, 0), full", x.plan(4, 0), -1);
        c.due("plan(3, 2), full", x.plan(3, 2), -1);
        c.due("plan(2, 41), full", x.plan(2, 41), -2);
        c.due("count(3)", x.count(3), 8);
        c.due("plan(-1, 99)", x.plan(-1, 99), 0);
        c.due("count(3)", x.count(3), 0);
    }

    private static void dueEnds(GapStations x, int span, int clashes) {
        c.due("ends(0)", x.ends(0), span);
        c.due("ends(1)", x.ends(1), clashes);
    }

    private static void ends() {
        c.promise("promise 22");
        GapStations x = Checks.of("0,0=5;3,4=5;31,31=9!");
        x.rule(1, 5, 2);
        dueEnds(x, 5, 1);
        x.plan(0, 0);
        dueEnds(x, 10, 0);
        x.plan(1, 2);
        dueEnds(x, 3, 0);
        x.plan(2, 40);
        x.plan(0, 7);
        // 2 is 38.9 from 1 only, apart by rule 0's gap of 1; nobody is fixed any more: 1 comes first.
        dueEnds(x, 3, 0);
        x.plan(3, 0);
        x.plan(1, 1);
        dueEnds(x, 2, 0);
        x.plan(2, 0);
        x.plan(0, 7);
        dueEnds(x, 3, 0);
        c.dueText("nothing is changed", Checks.channels(x), "5 5 9");
        c.due("told(8)", x.told(8), 4);
        c.due("rule(0, 0, 1), as it was", x.rule(0, 0, 1), 1);
        c.due("count(3)", x.count(3), 8);

        GapStations y = Checks.of("0,0=5;1,0;2,0=7!");
        y.rule(0, 0, 3);
        y.plan(2, 1);
        dueEnds(y, 3, 0);
        y.plan(3, 0);
        y.plan(3, 1);
        y.plan(0, 0);
        dueEnds(y, 8, 0);
        y.channel(1, 6);
        y.plan(-1, 0);
        y.plan(2, 2);
        y.plan(3, 1);
        y.plan(0, 0);
        dueEnds(y, 8, 1);
        int[] outside = {LEAST_INT, -1, 2, GREATEST_INT};
        for (int out : outside) {
            c.due("ends(" + out + ")", y.ends(out), -1);
        }

        // 1, which has most others, comes first: 1 0 4. Were 0 first, it would be 0 1 5.
        GapStations z = Checks.of("0,0;2,0;3,0");
        z.rule(0, 1, 4);
        z.rule(1, 2, 1);
        z.plan(0, 0);
        dueEnds(z, 5, 0);
    }

    private static void book() {
        c.promise("promise 23");
        GapStations x = Checks.of("0,0;1,0");
        int[] nobody = {LEAST_INT, -2, 2, GREATEST_INT};
        for (int out : nobody) {
            c.due("book(" + out + ", 20)", x.book(out, 20), -1);
        }
        int[] notChannels = {LEAST_INT, -2, 20, GREATEST_INT};
        for (int out : notChannels) {
            c.due("book(0, " + out + ")", x.book(0, out), -2);
        }
        for (int k = 1; k <= 8; k++) {
            c.due("book(..) as number " + k, x.book(k % 2, k == 8 ? 19 : k - 2), k);
        }
        c.due("book(0, 0), full", x.book(0, 0), -4);
        c.due("book(0, 20), full", x.book(0, 20), -2);
        c.due("book(2, 0), full", x.book(2, 0), -1);
        c.due("count(4)", x.count(4), 8);
        c.due("book(-1, 99)", x.book(-1, 99), 0);
        c.due("count(4)", x.count(4), 0);
    }

    private static void looked() {
        c.promise("promise 24");
        GapStations x = Checks.of("0,0=0;1,0=19!;2,0");
        c.due("looked(), empty", x.looked(), -5);
        x.book(0, 0);
        x.book(1, 19);
        x.book(2, -1);
        c.due("looked(), all is so", x.looked(), -5);
        x.book(2, 0);
        c.due("looked(), none is not 0", x.looked(), 3);
        x.channel(2, 0);
        c.due("looked(), 0 is not none", x.looked(), 2);
        x.channel(0, -1);
        c.due("looked(), the first", x.looked(), 0);
        x.channel(0, 0);
        x.channel(1, -1);
        c.due("looked(), the second", x.looked(), 1);
        x.book(-1, 0);
        c.due("looked(), empty again", x.looked(), -5);
    }
}
