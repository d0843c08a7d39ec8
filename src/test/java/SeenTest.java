/** Promises 17 to 20: what is seen, fits, odds, means. */
final class SeenTest {
    private static final int LEAST_INT = Integer.MIN_VALUE, GREATEST_INT = Integer.MAX_VALUE;
    private static final Checks c = new Checks();

    public static void main(String[] args) {
        see();
        fits();
        fitsByTheFixed();
        fitsByOtherRules();
        odds();
        oddsOfTheStuck();
        mean();
        c.end();
    }

    private static void see() {
        c.promise("promise 17");
        GapStations x = Checks.of("0,0;1,0");
        c.due("see(0, 0)", x.see(0, 0), 1);
        c.due("see(1, 19)", x.see(1, 19), 2);
        c.due("see(0, 0), again", x.see(0, 0), 3);
        int[] nobody = {LEAST_INT, -2, 2, GREATEST_INT};
        for (int out : nobody) {
            c.due("see(" + out + ", 20)", x.see(out, 20), -1);
        }
        int[] notChannels = {LEAST_INT, -1, 20, GREATEST_INT};
        for (int out : notChannels) {
            c.due("see(0, " + out + ")", x.see(0, out), -2);
        }
        c.due("see(0, 1)", x.see(0, 1), 4);
        c.due("see(0, 2)", x.see(0, 2), 5);
        c.due("see(0, 3), full", x.see(0, 3), -4);
        c.due("see(0, 20), full", x.see(0, 20), -2);
        c.due("see(2, 0), full", x.see(2, 0), -1);
        c.due("count(2)", x.count(2), 5);
        c.due("see(-1, 99)", x.see(-1, 99), 0);
        c.due("count(2)", x.count(2), 0);
        c.due("see(-1, 0), none already", x.see(-1, 0), 0);
        c.due("see(1, 0)", x.see(1, 0), 1);
    }

    private static void dueFits(GapStations x, int rule, int many, int least) {
        c.due("fits(" + rule + ", 0)", x.fits(rule, 0), many);
        c.due("fits(" + rule + ", 1)", x.fits(rule, 1), least);
    }

    private static void fits() {
        c.promise("promise 18");
        GapStations x = Checks.of("0,0=9;3,4=8;31,31=7");
        dueFits(x, 0, 40, 1);
        // 31, 31 is 38.9 from 3, 4 and 43.8 from 0, 0: by 39 and 40 station 1 has most others.
        x.see(0, 0);
        dueFits(x, 0, 38, 1);
        x.see(1, 1);
        dueFits(x, 0, 34, 5);
        dueFits(x, 2, 34, 5);
        x.see(2, 0);
        dueFits(x, 0, 34, 5);
        x.see(-1, 0);
        x.see(0, 1);
        dueFits(x, 0, 2, 39);
        x.see(0, 0);
        dueFits(x, 0, 0, -5);
        c.dueText("nothing is changed", Checks.channels(x), "9 8 7");
        c.due("count(1)", x.count(1), 0);
        int[] noRule = {LEAST_INT, -1, 3, GREATEST_INT};
        for (int out : noRule) {
            c.due("fits(" + out + ", 0)", x.fits(out, 0), -1);
        }
        int[] noWhat = {LEAST_INT, -1, 2, GREATEST_INT};
        for (int out : noWhat) {
            c.due("fits(0, " + out + ")", x.fits(0, out), -1);
        }
    }

    private static void fitsByTheFixed() {
        c.promise("promise 18, fixed and stuck");
        GapStations x = Checks.of("0,0=5!;0,10");
        x.rule(1, 3, 2);
        x.see(1, 0);
        dueFits(x, 1, 40, 1);
        x.fix(0, false);
        x.channel(0, 1);
        x.fix(0, true);
        dueFits(x, 1, 9, 1);
        x.see(1, 3);
        dueFits(x, 1, 0, -5);
        // By 10 and more nothing is left for it.
        GapStations y = Checks.of("10,10=9;10,20=3!;20,10=10!;0,10=17!");
        y.rule(2, 40, 4);
        y.see(0, 0);
        dueFits(y, 2, 9, 1);
        c.due("rule(2, 40, 4), as it was", y.rule(2, 40, 4), 4004);
    }

    private static void fitsByOtherRules() {
        c.promise("promise 18, other rules");
        GapStations x = Checks.of("0,0;0,4;0,20");
        x.rule(0, 6, 2);
        x.rule(1, 9, 3);
        x.see(1, 2);
        x.see(0, 0);
        // By rule 0 alone 0 and 1 are apart by 2, and by 3 as soon as rule 1 reaches as far. From 16 to 19
        // station 1 comes first, as it alone has two others.
        dueFits(x, 1, 3, 1);
        c.due("apart(0, 1), as it was", x.apart(0, 1), 3);
        dueFits(x, 0, 0, -5);
        x.see(-1, 0);
        x.see(1, 3);
        dueFits(x, 0, 36, 1);
        dueFits(x, 1, 33, 4);
    }

    private static void dueOdds(GapStations x, int station, long above, long below) {
        c.due("odds(" + station + ", 0)", x.odds(station, 0), above);
        c.due("odds(" + station + ", 1)", x.odds(station, 1), below);
    }

    private static void odds() {
        c.promise("promise 19");
        GapStations x = Checks.of("0,0=12;1,0=3!;9,9");
        dueOdds(x, 0, 1, 1);
        x.rule(0, 1, 1);
        dueOdds(x, 0, 9, 10);
        x.rule(0, 1, 2);
        dueOdds(x, 0, 7, 10);
        x.rule(0, 1, 4);
        dueOdds(x, 0, 3, 10);
        // Fixed already: it would be fixed elsewhere; the other one goes where it may.
        dueOdds(x, 1, 1, 1);
        dueOdds(x, 2, 1, 1);
        c.dueText("nothing is changed", Checks.channels(x), "12 3 -");
        c.due("told(8)", x.told(8), 2);
        GapStations y = Checks.of("0,0;1,0=0!;30,30=0!");
        y.rule(0, 1, 2);
        dueOdds(y, 0, 4, 5);
        dueOdds(y, 2, 1, 1);
        y.move(2, 0, 1);
        dueOdds(y, 0, 4, 5);
        y.move(2, 1, 1);
        dueOdds(y, 0, 0, 1);
        int[] outside = {LEAST_INT, -1, 3, GREATEST_INT};
        for (int out : outside) {
            c.due("odds(" + out + ", 0)", y.odds(out, 0), GapStations.NO);
            c.due("odds(0, " + out + ")", y.odds(0, out), GapStations.NO);
        }
        c.due("odds(0, 2)", y.odds(0, 2), GapStations.NO);
        c.due("odds(0, 0) of nobody", new GapStations().odds(0, 0), GapStations.NO);
    }

    private static void oddsOfTheStuck() {
        c.promise("promise 19, stuck");
        // By 3 alone station 0 leaves none of 0 to 6 for station 1, to which the fixed ones leave no more.
        GapStations x = Checks.of("0,0;5,0;10,0=10!;5,5=17!");
        x.rule(0, 5, 4);
        dueOdds(x, 0, 9, 10);
        dueOdds(x, 1, 7, 10);
    }

    private static void dueMean(GapStations x, long above, long below) {
        c.due("mean(0)", x.mean(0), above);
        c.due("mean(1)", x.mean(1), below);
    }

    private static void mean() {
        c.promise("promise 20");
        GapStations x = Checks.of("0,0;1,0;2,0;3,0");
        dueMean(x, GapStations.NO, GapStations.NO);
        x.channel(0, 0);
        dueMean(x, 0, 1);
        x.channel(1, 1);
        dueMean(x, 1, 2);
        x.channel(2, 19);
        dueMean(x, 20, 3);
        x.channel(0, 4);
        dueMean(x, 8, 1);
        x.channel(3, 6);
        dueMean(x, 15, 2);
        int[] outside = {LEAST_INT, -1, 2, GREATEST_INT};
        for (int out : outside) {
            c.due("mean(" + out + ")", x.mean(out), GapStations.NO);
        }
        dueMean(Checks.of("0,0=19;1,0=19;2,0=19;3,0=19;4,0=19;5,0=19;6,0=19;7,0=18"), 151, 8);
    }
}
