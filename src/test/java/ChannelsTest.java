/** Promises 12 to 16: assigning, exchanging, what is told, cliques, the order by channels. */
final class ChannelsTest {
    private static final int LEAST_INT = Integer.MIN_VALUE, GREATEST_INT = Integer.MAX_VALUE;
    private static final Checks c = new Checks();

    public static void main(String[] args) {
        assignsTheTightestFirst();
        assignsWithMostOthersFirst();
        assignLeavesTheFixed();
        assignTellsTheStuck();
        exchangesChains();
        exchangeKeepsTheFixed();
        exchangeIsNeverWorse();
        exchangeRefuses();
        told();
        leastWidth();
        leastWidthByTheFixed();
        clique();
        sorted();
        c.end();
    }

    private static GapStations ruled(String text, int near, int gap) {
        GapStations x = Checks.of(text);
        x.rule(0, near, gap);
        return x;
    }

    private static void assignsTheTightestFirst() {
        c.promise("promise 12, fewest allowed");
        GapStations x = ruled("0,0=9;1,0;2,0;3,0=1!", 1, 1);
        c.due("assign()", x.assign(), 0);
        c.dueText("channels", Checks.channels(x), "0 1 0 1");
        c.due("assign() again", x.assign(), 0);
        c.dueText("channels, the same again", Checks.channels(x), "0 1 0 1");
    }

    private static void assignsWithMostOthersFirst() {
        c.promise("promise 12, most others, least number");
        GapStations x = ruled("0,0;2,0;4,0", 2, 2);
        c.due("assign()", x.assign(), 0);
        c.dueText("a path", Checks.channels(x), "2 0 2");
        GapStations y = ruled("0,0;1,0;9,9", 1, 4);
        c.due("assign()", y.assign(), 0);
        c.dueText("a pair and one alone", Checks.channels(y), "0 4 0");
        // Those that have a channel count as others too: 1 and 2 have 19 allowed each, 2 has more others.
        GapStations z = ruled("0,0=19!;1,0;2,0;3,0=19!;2,1=19!", 1, 1);
        c.due("assign()", z.assign(), 0);
        c.dueText("others with channels", Checks.channels(z), "19 1 0 19 19");
        // How many others there are counts, not how great their gaps are: 2 has three by 1, 1 has one by 4.
        GapStations w = ruled("0,0;1,0;3,0;5,0;3,2", 1, 4);
        w.rule(1, 2, 1);
        c.due("assign()", w.assign(), 0);
        c.dueText("gaps of 4 and 1", Checks.channels(w), "5 1 0 1 1");
    }

    private static void assignLeavesTheFixed() {
        c.promise("promise 12, fixed");
        GapStations x = ruled("0,0=7!;1,0=7!;2,0=3", 1, 2);
        c.due("assign()", x.assign(), 0);
        c.dueText("fixed ones that clash stay", Checks.channels(x), "7 7 0");
        c.due("told(8)", x.told(8), 3);
        c.due("assign() of nobody", new GapStations().assign(), 0);
    }

    private static void assignTellsTheStuck() {
        c.promise("promise 12, stuck");
        GapStations x = ruled("5,5=1;5,10=3!;10,5=10!;0,5=17!;5,1=4", 5, 4);
        c.due("assign()", x.assign(), 1);
        c.dueText("the stuck one has none", Checks.channels(x), "- 3 10 17 0");
        x.station(5, 6);
        x.move(1, 5, 11);
        c.due("assign(), 3 out of reach", x.assign(), 0);
        c.dueText("nobody is stuck any more", Checks.channels(x), "0 3 10 17 11 7");
        GapStations y = ruled("0,0=1;1,1=2;5,10=3!;10,5=10!;0,5=17!", 40, 4);
        c.due("assign(), two stuck", y.assign(), 2);
        c.dueText("two stuck", Checks.channels(y), "- - 3 10 17");
        y.fix(2, false);
        c.due("assign(), 3 fixed no more", y.assign(), 1);
        c.dueText("one has what 3 leaves", Checks.channels(y), "0 4 - 10 17");
    }

    private static void exchangesChains() {
        c.promise("promise 13");
        GapStations x = ruled("0,0=1;1,0=0;2,0=1;3,0=2;9,9=0", 1, 1);
        c.due("exchange(0, 0)", x.exchange(0, 0), 3);
        c.dueText("a chain of two channels", Checks.channels(x), "0 1 0 2 0");
        c.due("exchange(3, 0)", x.exchange(3, 0), 2);
        c.dueText("the chain ends at another channel", Checks.channels(x), "0 1 2 0 0");
        c.due("exchange(4, 19)", x.exchange(4, 19), 1);
        c.dueText("a chain of one", Checks.channels(x), "0 1 2 0 19");
        GapStations y = ruled("0,0=5;1,0=5;2,0=6", 1, 1);
        c.due("exchange(0, 6)", y.exchange(0, 6), 1);
        c.dueText("a like one is not in the chain", Checks.channels(y), "6 5 6");
        GapStations z = ruled("0,0=1;1,0;2,0=2;0,1=2", 1, 1);
        c.due("exchange(0, 2)", z.exchange(0, 2), 2);
        c.dueText("one without a channel is not in it", Checks.channels(z), "2 - 2 1");
    }

    private static void exchangeKeepsTheFixed() {
        c.promise("promise 13, fixed");
        GapStations x = ruled("0,0=1;1,0=0;2,0=1!", 1, 1);
        c.due("exchange(0, 0), a fixed one far in the chain", x.exchange(0, 0), -5);
        c.due("exchange(2, 0), itself fixed", x.exchange(2, 0), -5);
        c.due("exchange(2, 9), itself fixed", x.exchange(2, 9), -5);
        c.dueText("all is as ahead", Checks.channels(x), "1 0 1");
        c.due("exchange(0, 3)", x.exchange(0, 3), 1);
        GapStations y = ruled("0,0=0;1,0=4;2,0=8!", 1, 4);
        c.due("exchange(0, 4), fixed ahead of worse", ruled("0,0=0;1,0=4!;2,0=6", 1, 4).exchange(0, 4), -5);
        c.due("exchange(0, 4)", y.exchange(0, 4), 2);
        c.dueText("a fixed one beside the chain", Checks.channels(y), "4 0 8");
    }

    private static void exchangeIsNeverWorse() {
        c.promise("promise 13, worse");
        GapStations x = ruled("0,0=0;1,0=2", 1, 2);
        c.due("exchange(0, 1)", x.exchange(0, 1), -6);
        c.due("exchange(1, 1)", x.exchange(1, 1), -6);
        c.dueText("all is as ahead", Checks.channels(x), "0 2");
        GapStations y = ruled("0,0=0;1,0=1;9,9=0", 1, 2);
        c.due("exchange(0, 2), as many clashes", y.exchange(0, 2), 1);
        c.dueText("as many clashes", Checks.channels(y), "2 1 0");
        c.due("exchange(0, 3), fewer clashes", y.exchange(0, 3), 1);
        c.due("told(2)", y.told(2), 0);
        GapStations z = ruled("0,0=0;1,0=4;2,0=8", 1, 4);
        c.due("exchange(1, 8), a chain that comes too near", z.exchange(1, 8), 2);
        c.dueText("channels", Checks.channels(z), "0 8 4");
        c.due("exchange(1, 0)", z.exchange(1, 0), 2);
        c.dueText("channels", Checks.channels(z), "8 0 4");
        c.due("exchange(0, 3)", z.exchange(0, 3), -6);
        c.due("exchange(2, 1)", z.exchange(2, 1), -6);
        c.dueText("all is as ahead", Checks.channels(z), "8 0 4");
    }

    private static void exchangeRefuses() {
        c.promise("promise 13, refusals");
        GapStations x = Checks.of("0,0=1;1,0");
        int[] nobody = {LEAST_INT, -1, 2, GREATEST_INT};
        for (int out : nobody) {
            c.due("exchange(" + out + ", 20)", x.exchange(out, 20), -1);
        }
        int[] notChannels = {LEAST_INT, -1, 20, GREATEST_INT};
        for (int out : notChannels) {
            c.due("exchange(0, " + out + ")", x.exchange(0, out), -2);
            c.due("exchange(1, " + out + ")", x.exchange(1, out), -2);
        }
        c.due("exchange(1, 0), it has none", x.exchange(1, 0), -3);
        c.due("exchange(0, 1), its own", x.exchange(0, 1), -3);
        c.due("exchange(0, 0)", x.exchange(0, 0), 1);
        c.due("exchange(0, 19)", x.exchange(0, 19), 1);
    }

    private static void told() {
        c.promise("promise 14");
        GapStations x = ruled("0,0=3!;1,0=4;2,0=4!;9,9=19;20,9;30,9=0", 1, 2);
        int[] all = {6, 20, 2, 3, 5, 0, 5, 4, 5};
        for (int what = 0; what < 9; what++) {
            c.due("told(" + what + ")", x.told(what), all[what]);
        }
        int[] outside = {LEAST_INT, -1, 9, GREATEST_INT};
        for (int out : outside) {
            c.due("told(" + out + ")", x.told(out), -1);
        }
        GapStations y = Checks.of("0,0=5;1,1=9");
        c.due("told(1), 5 to 9", y.told(1), 5);
        y.channel(1, 5);
        c.due("told(1), alike", y.told(1), 1);
        c.due("told(7), alike", y.told(7), 1);
    }

    private static void leastWidth() {
        c.promise("promise 14, bound, least, proved");
        dueWidths(new GapStations(), 0, 0);
        dueWidths(Checks.of("0,0"), 1, 1);
        dueWidths(Checks.of("0,0=3!"), 1, 4);
        dueWidths(ruled("0,0;2,0;4,0", 2, 1), 2, 2);
        dueWidths(ruled("0,0;2,0;4,0", 4, 1), 3, 3);
        dueWidths(ruled("0,0;2,0;4,0", 4, 4), 9, 9);
        // Seven by 2 are 13 channels, six are 11.
        dueWidths(ruled("0,0;1,0;2,0;3,0;4,0;5,0", 40, 2), 11, 11);
        dueWidths(ruled("0,0;1,0;2,0;3,0;4,0;5,0;6,0", 40, 2), 13, -5);
        // A ring of five has no clique of three, but needs three channels.
        dueWidths(ruled("2,0;4,2;3,4;1,4;0,2", 3, 1), 2, 3);
        // Apart by 2 beside, by 1 two off: 0 2 4 1 3 is as narrow as can be, the clique of three by 1 tells 3.
        GapStations x = ruled("0,0;1,0;2,0;3,0;4,0", 1, 2);
        x.rule(1, 2, 1);
        dueWidths(x, 3, 5);
        // Of four by 3, all but two by 4: these come side by side, and two steps of 4 are left.
        GapStations y = ruled("0,1;4,1;2,0;2,2", 40, 3);
        dueWidths(y, 10, 10);
        y.rule(1, 3, 4);
        dueWidths(y, 10, 12);
        // Of five by 2, all but two pairs by 4: two steps of 4 are left, which are 13 channels.
        GapStations z = ruled("0,0;4,4;0,4;4,0;2,2", 40, 2);
        z.rule(1, 4, 4);
        dueWidths(z, 9, -5);
        z.move(4, 31, 31);
        dueWidths(z, 7, 9);
    }

    private static void dueWidths(GapStations x, int bound, int least) {
        c.due("told(3)", x.told(3), bound);
        c.due("told(4)", x.told(4), least);
        c.due("told(5)", x.told(5), bound == least ? 1 : 0);
    }

    private static void leastWidthByTheFixed() {
        c.promise("promise 14, least by the fixed");
        dueWidths(Checks.of("0,0=11!;9,9"), 1, 12);
        dueWidths(Checks.of("0,0=12!;9,9"), 1, -5);
        dueWidths(Checks.of("0,0=12;9,9"), 1, 1);
        dueWidths(ruled("0,0=1!;1,0", 1, 2), 3, 4);
        dueWidths(ruled("0,0=2!;1,0", 1, 2), 3, 3);
        dueWidths(ruled("0,0=2!;1,0=2!", 1, 1), 2, -5);
        dueWidths(ruled("0,0=2!;1,0=2", 1, 1), 2, 3);
    }

    private static void clique() {
        c.promise("promise 15");
        GapStations x = new GapStations();
        for (int gap = 1; gap <= 4; gap++) {
            c.due("clique(" + gap + "), nobody", x.clique(gap), 0);
        }
        Checks.read(x, "0,0;9,9;20,20;20,21;21,20;0,1;1,0");
        c.due("clique(1), no rules", x.clique(1), 1);
        x.rule(0, 2, 2);
        c.due("clique(1), 0 5 6 and 2 3 4", x.clique(1), 28);
        c.due("clique(2)", x.clique(2), 28);
        c.due("clique(3)", x.clique(3), 1);
        x.rule(1, 1, 3);
        c.due("clique(3), pairs only", x.clique(3), 12);
        x.move(0, 10, 9);
        c.due("clique(3), a lesser pair", x.clique(3), 3);
        x.station(21, 21);
        c.due("clique(1), a fourth", x.clique(1), 156);
        int[] outside = {LEAST_INT, -1, 0, 5, GREATEST_INT};
        for (int out : outside) {
            c.due("clique(" + out + ")", x.clique(out), -2);
        }
    }

    private static void sorted() {
        c.promise("promise 16");
        GapStations x = Checks.of("0,0=19;1,0=3;2,0;3,0=0;4,0=3");
        int[] order = {3, 1, 4, 0};
        for (int k = 0; k < order.length; k++) {
            c.due("sorted(" + k + ")", x.sorted(k), order[k]);
        }
        c.due("sorted(4)", x.sorted(4), -5);
        c.due("sorted(greatest)", x.sorted(GREATEST_INT), -5);
        c.due("sorted(-1)", x.sorted(-1), -1);
        c.due("sorted(least)", x.sorted(LEAST_INT), -1);
    }
}
