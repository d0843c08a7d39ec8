/** Promises 17 to 24, and what the terms 2 say of them: each boundary and each refusal, by a run of its own. */
final class EdgesOfRowsTest {
    private static final Checks c = new Checks();
    private static final String TWO = "reads 0,0;1,0 = 2\n";
    private static final String[] ANYTHING = {"MIN", "-2", "-1", "0", "19", "20", "41", "MAX"};
    // As numbers of a station where there are two; -1 is told apart by see and book.
    private static final String[] NOT_OF_TWO = {"MIN", "-256", "-255", "-32", "-2", "2", "8", "32", "33", "256", "MAX"};
    private static final String[] NO_WHATS = {"MIN", "-256", "-1", "2", "3", "32", "256", "MAX"};

    public static void main(String[] args) {
        see();
        fitsBoundaries();
        fitsAllOfSeen();
        fitsOfWhichRule();
        fitsRefuses();
        odds();
        oddsByOthers();
        oddsRefuses();
        mean();
        plan();
        planRefuses();
        ends();
        endsByRows();
        book();
        looked();
        c.end();
    }

    private static void see() {
        Script.check(c, "promise 17: NONE", TWO + Script.each("see % 0 = -1", NOT_OF_TWO) + """
            count 2 = 0
            see 0 0 = 1
            see 1 0 = 2
            see 2 0 = -1
            station 2 0 = 2
            see 2 0 = 3
            """);
        Script.check(c, "promise 17: BAD: channel (0 .. 19)", TWO
            + Script.each("see 1 % = -2", "MIN", "-256", "-2", "-1", "20", "21", "32", "256", "MAX") + """
            see 1 0 = 1
            see 1 19 = 2
            """);
        Script.check(c, "promise 17: FULL: 5", TWO + """
            see 0 0 = 1
            see 0 0 = 2
            see 0 1 = 3
            see 1 2 = 4
            see 1 3 = 5
            see 1 3 = -4
            see 0 0 = -4
            count 2 = 5
            """);
        Script.check(c, "promise 17: FULL: the five stay", TWO + """
            see 0 0 = 1
            see 1 0 = 2
            see 0 0 = 3
            see 1 0 = 4
            see 0 0 = 5
            fits 0 0 = 0
            move 1 31 31 = 1861
            fits 0 0 = 40
            see 0 7 = -4
            see 1 7 = -4
            see 1 20 = -2
            see 2 7 = -1
            fits 0 0 = 40
            """);
        Script.check(c, "promise 17: station -1: none then, 0, whatever the rest is",
            TWO + Script.each("see 1 5 = 1\nsee -1 % = 0\ncount 2 = 0", ANYTHING) + """
            see 0 0 = 1
            see 0 0 = 2
            see 0 0 = 3
            see 0 0 = 4
            see 0 0 = 5
            see -1 0 = 0
            see -1 0 = 0
            see 0 0 = 1
            """);
        Script.check(c, "promise 17: station -1 with no STATIONS", """
            see -1 0 = 0
            see 0 0 = -1
            """);
        Script.check(c, "promise 17: NONE ahead of BAD, NONE and BAD ahead of FULL", TWO + """
            see 2 20 = -1
            see -2 -1 = -1
            see 0 0 = 1
            see 0 0 = 2
            see 0 0 = 3
            see 0 0 = 4
            see 0 0 = 5
            see 2 0 = -1
            see -2 0 = -1
            see 2 20 = -1
            see 1 20 = -2
            see 1 -1 = -2
            """);
    }

    private static void fitsBoundaries() {
        Script.check(c, "FITS: nothing is SEEN: all 40, from 1", """
            fits 0 0 = 40
            fits 2 1 = 1
            reads 0,0;1,0 = 2
            fits 0 0 = 40
            fits 0 1 = 1
            see 1 19 = 1
            fits 0 0 = 0
            see -1 0 = 0
            fits 0 0 = 40
            """);
        Script.check(c, "FITS: NEAR 1 alone, and all but 1", """
            reads 0,0;1,0;1,1 = 3
            see 1 0 = 1
            fits 0 0 = 1
            fits 0 1 = 1
            see -1 0 = 0
            see 1 1 = 1
            fits 0 0 = 39
            fits 0 1 = 2
            """);
        Script.check(c, "FITS: NEAR 40 alone, and all but 40", """
            reads 0,0;31,24 = 2
            see 1 1 = 1
            fits 0 0 = 1
            fits 0 1 = 40
            see -1 0 = 0
            see 1 0 = 1
            fits 0 0 = 39
            fits 0 1 = 1
            """);
        Script.check(c, "FITS: none: 0, and the least -5", """
            reads 0,0;31,26 = 2
            see 1 1 = 1
            fits 0 0 = 0
            fits 0 1 = -5
            move 1 31 25 = 1
            fits 0 0 = 1
            fits 0 1 = 40
            """);
        Script.check(c, "FITS: of those far off on both sides", """
            reads 0,0;5,0;10,0 = 3
            see 0 1 = 1
            see 1 0 = 2
            fits 0 0 = 5              # by 5 to 9 station 1 has most others
            fits 0 1 = 5
            see 2 1 = 3
            fits 0 0 = 5
            see 2 2 = 4
            fits 0 0 = 0
            fits 0 1 = -5
            """);
    }

    private static void fitsAllOfSeen() {
        Script.check(c, "FITS: all of SEEN would be so: the first, the last of five", """
            reads 0,0;0,5 = 2
            see 0 0 = 1
            see 1 0 = 2
            see 0 0 = 3
            see 1 0 = 4
            fits 0 0 = 4
            fits 0 1 = 1
            see 1 1 = 5
            fits 0 0 = 0
            fits 0 1 = -5
            see -1 0 = 0
            see 1 1 = 1
            fits 0 0 = 36
            fits 0 1 = 5
            see 0 0 = 2
            fits 0 1 = 5
            """);
        Script.check(c, "FITS: one that is STUCK has none", """
            reads 10,10=9;10,20=3!;20,10=10!;0,10=17! = 4
            rule 0 0 4 = 1
            see 0 0 = 1
            fits 0 0 = 9
            fits 0 1 = 1
            see 0 9 = 2
            fits 0 0 = 0
            """);
        Script.check(c, "FITS: ASSIGNED, so those not FIXED have other ones than now", """
            reads 0,0=5;9,9=5! = 2
            see 0 5 = 1
            fits 0 0 = 0
            see -1 0 = 0
            see 0 0 = 1
            see 1 5 = 2
            fits 0 0 = 40
            fix 0 true = 0
            fits 0 0 = 0
            """);
        Script.check(c, "SEEN: 0 is a CHANNEL", """
            reads 0,0=0!;31,31=0! = 2
            see 1 0 = 1
            fits 0 0 = 40
            fix 1 false = 1
            fits 0 0 = 40
            move 1 31 24 = 49
            fits 0 0 = 39
            move 1 1 0 = 1476
            fits 0 0 = 0
            fits 1 1 = -5
            """);
    }

    private static void fitsOfWhichRule() {
        Script.check(c, "FITS of a RULE: by its own GAP, whatever its NEAR is now; the others are as they are", """
            reads 0,0;0,4;0,20 = 3
            rule 0 6 2 = 1
            rule 1 9 3 = 1
            rule 2 0 4 = 1
            see 1 3 = 1
            fits 0 0 = 36            # but from 16 to 19, by which 1 comes first
            fits 0 1 = 1
            fits 1 0 = 33            # but up to 3, and from 16 to 19
            fits 1 1 = 4
            fits 2 0 = 3
            fits 2 1 = 1
            rule 1 9 2 = 903
            fits 1 0 = 0
            fits 0 1 = -5
            rule 1 0 1 = 902
            rule 0 0 3 = 602
            fits 0 0 = 33
            fits 0 1 = 4
            """);
    }

    private static void fitsRefuses() {
        Script.check(c, "promise 18: NONE", TWO + "see 0 0 = 1\n"
            + Script.each("fits % 0 = -1", "MIN", "-256", "-1", "3", "4", "32", "256", "MAX")
            + Script.each("fits 0 % = -1", NO_WHATS) + """
            fits 3 2 = -1
            fits 0 0 = 40
            fits 2 1 = 1
            """);
    }

    private static void odds() {
        Script.check(c, "ODDS: in lowest terms: 1 of 1, 0 of 1, 1 of 2, 1 of 10", """
            reads 5,5;5,6=3!;6,5=11! = 3
            odds 0 0 = 1
            odds 0 1 = 1
            rule 0 1 4 = 1
            odds 0 0 = 1             # 7 alone
            odds 0 1 = 10
            channel 2 -1 = 11
            channel 2 10 = -5
            fix 2 true = 0
            odds 0 0 = 0
            odds 0 1 = 1
            move 2 31 31 = 1301
            odds 0 0 = 3
            odds 0 1 = 10
            rule 0 1 3 = 104
            odds 0 0 = 1
            odds 0 1 = 2
            """);
        Script.check(c, "ODDS: any of CHANNELS 0 .. 9: the first, the last, the one behind it", """
            reads 5,5;5,6=0! = 2
            rule 0 1 1 = 1
            odds 0 0 = 9
            odds 0 1 = 10
            channel 1 -1 = 0
            channel 1 9 = -5
            fix 1 true = 0
            odds 0 0 = 9
            odds 0 1 = 10
            channel 1 -1 = 9
            channel 1 10 = -5
            fix 1 true = 0
            odds 0 0 = 1
            odds 0 1 = 1
            rule 0 1 2 = 101
            odds 0 0 = 9
            odds 0 1 = 10
            rule 0 1 4 = 102
            odds 0 0 = 7
            odds 0 1 = 10
            """);
        Script.check(c, "ODDS: of one that is FIXED, and has a CHANNEL beyond 9", """
            reads 5,5=15!;5,6=5 = 2
            rule 0 1 4 = 1
            odds 0 0 = 1
            odds 0 1 = 1
            odds 1 0 = 1
            odds 1 1 = 1
            rule 1 9 1 = 1
            channel 0 -1 = 15
            channel 0 7 = -5
            fix 0 true = 0
            odds 1 0 = 2             # 0 to 3
            odds 1 1 = 5
            channels = 7 5
            told 8 = 1
            """);
    }

    private static void oddsByOthers() {
        Script.check(c, "ODDS: there is no CLASH, of others neither", """
            reads 0,0;20,20=3!;20,21=3! = 3
            odds 0 0 = 1
            rule 0 1 1 = 1
            odds 0 0 = 0
            odds 0 1 = 1
            odds 1 0 = 9
            odds 1 1 = 10
            """);
        Script.check(c, "ODDS: nobody is STUCK, others neither", """
            reads 0,0;5,0;10,0=10!;5,5=17! = 4
            rule 0 5 4 = 1
            odds 0 0 = 9             # 3 would leave none for 1
            odds 0 1 = 10
            reads 20,0;20,5=3!;25,0=10!;15,0=17! = 4
            odds 0 0 = 0
            odds 0 1 = 1
            """);
        Script.check(c, "ODDS: by ASSIGNED, of several that with most others", """
            reads 1,0;3,4;2,4=6!;3,0;4,2;3,2=16! = 6
            rule 0 3 4 = 1
            of 1 4 = 6
            of 4 4 = 6
            of 1 6 = 3
            of 4 6 = 4
            odds 0 0 = 1             # were 1 ahead of 4, then 0's 3 would leave none for 3
            odds 0 1 = 1
            """);
        Script.check(c, "ODDS: of the last of eight", """
            reads 0,0;1,0;2,0;3,0;4,0;5,0;6,0;7,0=19! = 8
            rule 0 1 1 = 1
            odds 7 0 = 1
            odds 7 1 = 1
            channel 6 9 = -5
            fix 6 true = 0
            odds 7 0 = 9
            odds 7 1 = 10
            """);
    }

    private static void oddsRefuses() {
        Script.check(c, "promise 19: NO: station", "odds 0 0 = NO\n" + TWO + Script.each("odds % 0 = NO", NOT_OF_TWO) + """
            odds -1 0 = NO
            odds 0 0 = 1
            odds 1 1 = 1
            """);
        Script.check(c, "promise 19: NO: part", TWO + Script.each("odds 0 % = NO", NO_WHATS) + "odds 2 2 = NO\n");
    }

    private static void mean() {
        Script.check(c, "promise 20: NO: nobody has", """
            mean 0 = NO
            mean 1 = NO
            reads 0,0;1,0 = 2
            mean 0 = NO
            mean 1 = NO
            channel 1 0 = -5
            mean 0 = 0
            mean 1 = 1
            channel 1 -1 = 0
            mean 1 = NO
            """);
        Script.check(c, "promise 20: NO: part", "reads 0,0=4;1,0=5 = 2\n" + Script.each("mean % = NO", NO_WHATS) + """
            mean 0 = 9
            mean 1 = 2
            """);
        Script.check(c, "MEAN: by how many have one, in lowest terms: 0, 19, a half, an eighth", """
            reads 0,0=19;1,0=19;2,0=19;3,0=19;4,0=19;5,0=19;6,0=19;7,0=19 = 8
            mean 0 = 19
            mean 1 = 1
            channel 0 18 = 19
            mean 0 = 151
            mean 1 = 8
            channel 0 15 = 18
            mean 0 = 37
            mean 1 = 2
            channel 0 -1 = 15
            mean 0 = 19
            mean 1 = 1
            channel 1 0 = 19
            mean 0 = 114
            mean 1 = 7
            """);
        Script.check(c, "MEAN: of zeros", """
            reads 0,0=0;1,0=0;2,0;3,0=0! = 4
            mean 0 = 0
            mean 1 = 1
            channel 2 1 = -5
            mean 0 = 1
            mean 1 = 4
            """);
    }

    private static void plan() {
        Script.check(c, "promise 21: FULL: 8", TWO + """
            plan 0 0 = 1
            plan 1 0 = 2
            plan 1 1 = 3
            plan 2 0 = 4
            plan 2 40 = 5
            plan 3 0 = 6
            plan 3 1 = 7
            plan 0 0 = 8
            plan 0 0 = -4
            plan 1 0 = -4
            plan 2 0 = -4
            plan 3 0 = -4
            count 3 = 8
            """);
        Script.check(c, "promise 21: FULL: the eight stay", "reads 0,0=3;9,9=5 = 2\n"
            + Script.each("plan 2 0 = %", "1", "2", "3", "4", "5", "6", "7", "8") + """
            ends 0 = 3
            plan 1 1 = -4
            plan 1 0 = -4
            plan 0 0 = -4
            plan 2 41 = -2
            plan 1 2 = -1
            ends 0 = 3
            """);
        Script.check(c, "promise 21: what -1: it is empty then, 0, whatever the rest is",
            TWO + Script.each("plan 0 0 = 1\nplan -1 % = 0\ncount 3 = 0", ANYTHING) + """
            plan -1 0 = 0
            plan 0 0 = 1
            plan 0 0 = 2
            plan 0 0 = 3
            plan 0 0 = 4
            plan 0 0 = 5
            plan 0 0 = 6
            plan 0 0 = 7
            plan 0 0 = 8
            plan -1 0 = 0
            plan 0 0 = 1
            """);
        Script.check(c, "promise 21: by 0 n does not matter", Script.each("plan 0 % = 1\nplan -1 0 = 0", ANYTHING));
    }

    private static void planRefuses() {
        Script.check(c, "promise 21: NONE: what (0 .. 3)",
            TWO + Script.each("plan % 0 = -1", "MIN", "-256", "-255", "-2", "4", "5", "32", "256", "MAX") + """
            plan 0 0 = 1
            plan 3 0 = 2
            """);
        Script.check(c, "promise 21: NONE: station (by 1, 3)", TWO + Script.each("plan 1 % = -1", NOT_OF_TWO)
            + Script.each("plan 3 % = -1", NOT_OF_TWO) + """
            plan 1 -1 = -1
            plan 3 -1 = -1
            plan 1 1 = 1
            plan 3 1 = 2
            """);
        Script.check(c, "promise 21: NONE: station, where there is none, and the last of eight", """
            plan 1 0 = -1
            plan 3 0 = -1
            plan 2 40 = 1
            reads 0,0;1,0;2,0;3,0;4,0;5,0;6,0;7,0 = 8
            plan 1 7 = 2
            plan 3 7 = 3
            plan 1 8 = -1
            plan 3 8 = -1
            """);
        Script.check(c, "promise 21: BAD: near (by 2)",
            Script.each("plan 2 % = -2", "MIN", "-256", "-40", "-1", "41", "42", "64", "256", "MAX") + """
            plan 2 0 = 1
            plan 2 40 = 2
            plan 2 8 = 3
            """);
        Script.check(c, "promise 21: NONE and BAD ahead of FULL", TWO + Script.each("plan 0 0 = %", "1", "2", "3", "4", "5",
            "6", "7", "8") + """
            plan 4 0 = -1
            plan -2 0 = -1
            plan 1 2 = -1
            plan 3 -1 = -1
            plan 2 41 = -2
            plan 2 -1 = -2
            plan 4 41 = -1
            """);
    }

    private static void ends() {
        Script.check(c, "promise 22: NONE", "reads 0,0=3;1,0=5 = 2\n" + Script.each("ends % = -1", NO_WHATS) + """
            ends 0 = 3
            ends 1 = 0
            """);
        Script.check(c, "ENDS of an empty PLAN: as it is now", """
            ends 0 = 0
            ends 1 = 0
            reads 0,0=0;1,0=19 = 2
            ends 0 = 20
            rule 0 1 4 = 1
            ends 1 = 0
            channel 1 3 = 19
            ends 0 = 4
            ends 1 = 1
            """);
        Script.check(c, "ENDS: the last row of eight counts", """
            reads 0,0=3;1,0=5;9,9=0! = 3
            plan 2 0 = 1
            plan 2 0 = 2
            plan 2 0 = 3
            plan 2 0 = 4
            plan 2 0 = 5
            plan 2 0 = 6
            plan 2 0 = 7
            ends 0 = 6
            plan 1 1 = 8
            ends 0 = 4
            """);
        Script.check(c, "ENDS: one row goes behind the other", """
            reads 0,0=9;1,0=9 = 2
            plan 2 1 = 1
            ends 0 = 1
            ends 1 = 1
            plan 0 0 = 2
            ends 0 = 2
            ends 1 = 0
            plan 1 0 = 3
            ends 0 = 1
            plan 2 0 = 4
            plan 0 0 = 5
            ends 0 = 1
            ends 1 = 0
            plan 2 1 = 6
            ends 1 = 1
            channels = 9 9
            apart 0 1 = 0
            """);
    }

    private static void endsByRows() {
        Script.check(c, "PLAN: 0 all are ASSIGNED", """
            reads 0,0=9;5,0=9!;1,0=9 = 3
            rule 0 4 2 = 1
            plan 0 MIN = 1
            ends 0 = 10
            ends 1 = 0
            """);
        Script.check(c, "PLAN: 1 STATION n has no CHANNEL, and isn't FIXED", """
            reads 0,0=9!;9,9=5! = 2
            plan 1 0 = 1
            ends 0 = 1
            plan 0 0 = 2
            ends 0 = 6
            plan 1 1 = 3
            ends 0 = 1
            plan 1 0 = 4
            ends 0 = 0
            plan 1 0 = 5
            ends 0 = 0
            told 8 = 3
            """);
        Script.check(c, "PLAN: 2 NEAR of RULE 0 is n, its GAP is as it is", """
            reads 0,0=3;31,25=4;1,1=3 = 3
            rule 0 0 2 = 1
            rule 1 0 4 = 1
            ends 1 = 0
            plan 2 40 = 1
            ends 1 = 3
            plan 2 2 = 2
            ends 1 = 1
            plan 2 39 = 3
            ends 1 = 2
            plan 2 0 = 4
            ends 1 = 0
            rule 1 2 4 = 4
            ends 1 = 1
            rule 0 0 1 = 2
            """);
        Script.check(c, "PLAN: 3 STATION n, if it has a CHANNEL, is FIXED", """
            reads 0,0=9;9,9=5! = 2
            plan 3 0 = 1
            plan 0 0 = 2
            ends 0 = 5
            channel 0 -1 = 9
            ends 0 = 6
            channel 0 4 = -5
            ends 0 = 2
            plan 3 1 = 3
            plan 0 0 = 4
            ends 0 = 2
            told 8 = 2
            """);
        Script.check(c, "PLAN: each row does what it is told and no more", """
            reads 9,9=5;0,0=3;1,0=3;2,2=8 = 4
            rule 0 1 1 = 1
            ends 1 = 1
            plan 1 0 = 1             # no NEAR of 0
            ends 1 = 1
            plan -1 0 = 0
            plan 0 3 = 1             # 3 has a CHANNEL, isn't FIXED, and NEAR is 1
            ends 0 = 2
            plan 0 1 = 2
            ends 0 = 2
            plan -1 0 = 0
            plan 3 0 = 1             # NEAR is not 0, and 0 has a CHANNEL
            ends 0 = 6
            ends 1 = 1
            plan -1 0 = 0
            plan 2 3 = 1             # 3 isn't FIXED, and has a CHANNEL
            ends 0 = 6
            ends 1 = 1
            plan 0 0 = 2
            ends 0 = 3
            """);
        Script.check(c, "PLAN: the last of eight", """
            reads 0,0=0;1,0=0;2,0=0;3,0=0;4,0=0;5,0=0;6,0=0;7,0=9 = 8
            plan 3 7 = 1
            plan 0 0 = 2
            ends 0 = 10
            plan 1 7 = 3
            ends 0 = 1
            plan 2 7 = 4
            ends 1 = 21
            """);
    }

    private static void book() {
        Script.check(c, "promise 23: NONE", TWO + Script.each("book % 0 = -1", NOT_OF_TWO) + """
            book 0 0 = 1
            book 1 0 = 2
            book 2 0 = -1
            station 2 0 = 2
            book 2 0 = 3
            """);
        Script.check(c, "promise 23: BAD: channel (-1 .. 19)", TWO
            + Script.each("book 1 % = -2", "MIN", "-256", "-3", "-2", "20", "21", "32", "255", "256", "MAX") + """
            book 1 -1 = 1
            book 1 0 = 2
            book 1 19 = 3
            """);
        Script.check(c, "promise 23: FULL: 8", TWO + """
            book 0 0 = 1
            book 0 0 = 2
            book 0 -1 = 3
            book 1 19 = 4
            book 1 1 = 5
            book 1 2 = 6
            book 1 3 = 7
            book 0 4 = 8
            book 0 4 = -4
            book 1 -1 = -4
            count 4 = 8
            """);
        Script.check(c, "promise 23: FULL: the eight stay", "reads 0,0=3;9,9 = 2\n"
            + Script.each("book 0 3 = %", "1", "2", "3", "4", "5", "6", "7", "8") + """
            looked = -5
            book 0 4 = -4
            book 1 3 = -4
            book 1 20 = -2
            book 2 3 = -1
            looked = -5
            """);
        Script.check(c, "promise 23: station -1: it is empty then, 0, whatever the rest is",
            TWO + Script.each("book 1 5 = 1\nbook -1 % = 0\ncount 4 = 0\nlooked = -5", ANYTHING));
        Script.check(c, "promise 23: station -1 where it is full", "station 0 0 = 0\n"
            + Script.each("book 0 0 = %", "1", "2", "3", "4", "5", "6", "7", "8") + """
            book -1 -2 = 0
            book -1 -2 = 0
            book 0 0 = 1
            """);
        Script.check(c, "promise 23: NONE ahead of BAD, NONE and BAD ahead of FULL", "station 0 0 = 0\n" + """
            book 1 20 = -1
            book -2 -2 = -1
            """ + Script.each("book 0 0 = %", "1", "2", "3", "4", "5", "6", "7", "8") + """
            book 1 0 = -1
            book -2 0 = -1
            book 0 20 = -2
            book 0 -2 = -2
            book 1 20 = -1
            """);
    }

    private static void looked() {
        Script.check(c, "promise 24: -5: none is otherwise, or there are no rows", """
            looked = -5
            reads 0,0=0;1,0=19!;2,0 = 3
            looked = -5
            book 0 0 = 1
            book 1 19 = 2
            book 2 -1 = 3
            looked = -5
            """);
        Script.check(c, "LOOKED at: the first of these rows, from 0; the last of eight", """
            reads 0,0=3;1,0 = 2
            book 0 3 = 1
            book 1 -1 = 2
            book 0 3 = 3
            book 1 -1 = 4
            book 0 3 = 5
            book 1 -1 = 6
            book 0 3 = 7
            book 0 4 = 8
            looked = 7
            channel 1 0 = -5
            looked = 1
            channel 0 4 = 3
            looked = 0
            channel 0 3 = 4
            channel 1 -1 = 0
            looked = 7
            """);
        Script.check(c, "LOOKED at: -1 is none, 0 is a CHANNEL", """
            reads 0,0=0;1,0 = 2
            book 0 -1 = 1
            looked = 0
            book -1 0 = 0
            book 1 0 = 1
            looked = 0
            book -1 0 = 0
            book 1 -1 = 1
            book 0 0 = 2
            looked = -5
            book 0 1 = 3
            looked = 2
            """);
    }
}
