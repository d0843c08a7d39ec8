/** Promises 12 to 16, and what the terms 2 say of widths: each boundary and each refusal, by a run of its own. */
final class EdgesOfChannelsTest {
    private static final Checks c = new Checks();
    private static final String EIGHT = "reads 0,0;1,0;2,0;3,0;4,0;5,0;6,0;7,0 = 8\n";
    private static final String[] NOT_OF_TWO = {"MIN", "-256", "-32", "-1", "2", "8", "32", "33", "256", "MAX"};
    private static final String[] NO_CHANNELS = {"MIN", "-256", "-2", "-1", "20", "21", "32", "256", "MAX"};

    public static void main(String[] args) {
        assign();
        exchangeRefuses();
        exchangeByTwoReasons();
        toldNone();
        toldWhoHasWhat();
        cliques();
        bounds();
        leasts();
        leastsByTheFixed();
        proved();
        sorted();
        c.end();
    }

    private static void assign() {
        Script.check(c, "promise 12: how many are STUCK: none of none, none of one, none of eight",
            "assign = 0\nimage = 0\nstation 5 5 = 0\nassign = 0\nof 0 2 = 0\nundo = 0\n" + EIGHT + """
            assign = 0
            channels = 0 0 0 0 0 0 0 0
            rule 0 40 2 = 1
            assign = 0
            channels = 0 2 4 6 8 10 12 14
            """);
        Script.check(c, "promise 12: how many are STUCK: those that eight by 4 leave", EIGHT + """
            rule 0 40 4 = 1
            assign = 3
            channels = 0 4 8 12 16 - - -
            told 2 = 0
            assign = 3
            rule 0 40 3 = 4004
            assign = 1
            channels = 0 3 6 9 12 15 18 -
            """);
        Script.check(c, "promise 12: how many are STUCK: all that are not FIXED", """
            reads 0,0=3!;1,0=10!;2,0=17!;3,0=0 = 4
            rule 0 40 4 = 1
            assign = 1
            channels = 3 10 17 -
            fix 1 false = 1
            assign = 0
            channels = 3 7 17 11
            """);
    }

    private static void exchangeRefuses() {
        Script.check(c, "promise 13: NONE: station",
            "reads 0,0=1;1,0=2 = 2\n" + Script.each("exchange % 2 = -1", NOT_OF_TWO) + "channels = 1 2\n");
        Script.check(c, "promise 13: BAD: channel",
            "reads 0,0=1;1,0=2 = 2\n" + Script.each("exchange 0 % = -2", NO_CHANNELS) + """
            exchange 0 0 = 1
            exchange 0 19 = 1
            channels = 19 2
            """);
        Script.check(c, "promise 13: STATE: it has none, or that one", """
            reads 0,0;1,0=0;2,0=19! = 3
            exchange 0 0 = -3
            exchange 0 19 = -3
            exchange 1 0 = -3
            exchange 2 19 = -3
            exchange 1 1 = 1
            exchange 2 18 = -5
            """);
    }

    private static void exchangeByTwoReasons() {
        Script.check(c, "promise 13: NONE ahead of BAD, BAD ahead of STATE, STATE ahead of the FIXED", """
            reads 0,0;1,0=0! = 2
            exchange 2 20 = -1
            exchange -1 -1 = -1
            exchange 0 20 = -2
            exchange 0 -1 = -2
            exchange 1 0 = -3
            exchange 1 1 = -5
            """);
        Script.check(c, "promise 13: -5 ahead of -6", """
            reads 0,0=0;1,0=4!;2,0=8;0,1=9 = 4
            rule 0 1 4 = 1
            told 2 = 0
            exchange 0 1 = -6
            exchange 0 4 = -5        # no more CLASHES
            exchange 1 3 = -5        # it would be nearer 0
            exchange 1 5 = -5        # it would be nearer 2
            exchange 2 4 = -5
            channels = 0 4 8 9
            fix 1 false = 1
            exchange 1 3 = -6
            exchange 1 5 = -6
            exchange 0 4 = 2
            """);
    }

    private static void toldNone() {
        String[] noWhats = {"MIN", "-256", "-1", "9", "10", "32", "256", "MAX"};
        Script.check(c, "promise 14: NONE", "reads 0,0=1!;1,0=2 = 2\n" + Script.each("told % = -1", noWhats) + """
            told 0 = 2
            told 8 = 1
            """);
        Script.check(c, "promise 14: nobody", Script.each("told % = 0", "0", "1", "2", "3", "4") + """
            told 5 = 1
            """ + Script.each("told % = 0", "6", "7", "8"));
    }

    private static void toldWhoHasWhat() {
        Script.check(c, "promise 14: how many have a CHANNEL, how many unlike ones there are, who is FIXED: up to 8", EIGHT + """
            told 6 = 0
            told 7 = 0
            told 8 = 0
            channel 0 0 = -5
            told 6 = 1
            told 7 = 1
            channel 1 0 = -5
            told 6 = 2
            told 7 = 1
            channel 2 19 = -5
            told 7 = 2
            channel 3 18 = -5
            channel 4 1 = -5
            channel 5 9 = -5
            channel 6 10 = -5
            channel 7 11 = -5
            told 6 = 8
            told 7 = 7
            channel 1 2 = 0
            told 7 = 8
            fix 0 true = 0
            told 8 = 1
            fix 7 true = 0
            told 8 = 129
            channel 0 -1 = 0
            told 6 = 7
            told 7 = 7
            told 8 = 128
            """);
        Script.check(c, "promise 14: all are FIXED", """
            reads 0,0=0!;1,0=0!;2,0=0!;3,0=0!;4,0=0!;5,0=0!;6,0=0!;7,0=0! = 8
            told 8 = 255
            told 0 = 8
            told 6 = 8
            told 7 = 1
            """);
    }

    private static void cliques() {
        String[] noGaps = {"MIN", "-4", "-1", "0", "5", "6", "32", "257", "MAX"};
        Script.check(c, "promise 15: BAD", "reads 0,0;1,0 = 2\nrule 0 1 4 = 1\n" + Script.each("clique % = -2", noGaps)
            + Script.each("clique % = 3", "1", "2", "3", "4"));
        Script.check(c, "CLIQUE: nobody, one, eight", Script.each("clique % = 0", "1", "2", "3", "4") + """
            station 9 9 = 0
            rule 0 40 3 = 1
            """ + Script.each("clique % = 1", "1", "2", "3", "4") + """
            reads 0,0;1,0;2,0;3,0;4,0;5,0;6,0 = 7
            """ + Script.each("clique % = 255", "1", "2", "3") + "clique 4 = 1\n");
        Script.check(c, "CLIQUE: of which each two are to be APART by g or more", """
            reads 0,0;1,0;2,0 = 3
            rule 0 1 3 = 1
            rule 1 2 2 = 1
            clique 1 = 7
            clique 2 = 7
            clique 3 = 3
            clique 4 = 1
            rule 1 1 2 = 202
            clique 1 = 3
            rule 2 2 1 = 1
            clique 1 = 7
            clique 2 = 3
            """);
        Script.check(c, "CLIQUE: of several the least, as bits", """
            reads 0,0;10,0;20,0;11,0;1,0;21,0 = 6
            rule 0 1 1 = 1
            clique 1 = 10            # 1 and 3, not 0 and 4, nor 2 and 5
            move 4 30 30 = 1741
            clique 1 = 10
            move 3 29 30 = 1224
            clique 1 = 24
            move 4 0 1 = 1741
            clique 1 = 17
            """);
        Script.check(c, "CLIQUE: the most, though others are less as bits", """
            reads 0,0;1,0;20,20;20,21;21,20 = 5
            rule 0 1 2 = 1
            clique 2 = 3
            rule 0 2 2 = 102
            clique 2 = 28
            """);
    }

    private static void bounds() {
        Script.check(c, "BOUND: 0: no STATIONS; 1 without a RULE", """
            told 3 = 0
            station 0 0 = 0
            told 3 = 1
            reads 1,0;2,0 = 2
            told 3 = 1
            rule 0 0 4 = 1
            told 3 = 1
            """);
        Script.check(c, "BOUND: eight by each GAP", EIGHT + """
            rule 0 7 1 = 1
            told 3 = 8
            rule 0 7 2 = 701
            told 3 = 15
            rule 0 7 3 = 702
            told 3 = 22
            rule 0 7 4 = 703
            told 3 = 29
            """);
        Script.check(c, "BOUND: the greatest by g, each of 1 to 4", EIGHT + """
            rule 0 1 4 = 1
            told 3 = 5
            rule 1 4 1 = 1
            told 3 = 5               # five by 1, two by 4
            rule 1 5 1 = 401
            told 3 = 6               # six by 1
            rule 2 3 2 = 1
            told 3 = 7               # four by 2
            rule 2 2 3 = 302
            told 3 = 7               # three by 3
            rule 0 2 4 = 104
            told 3 = 9               # three by 4
            """);
    }

    private static void leasts() {
        Script.check(c, "LEAST: 0: no STATIONS; 1", """
            told 4 = 0
            station 0 0 = 0
            told 4 = 1
            station 1 0 = 1
            told 4 = 1
            """);
        Script.check(c, "LEAST: up to 12 and beyond (-5: none), by 1 and 2", EIGHT + """
            rule 0 7 1 = 1
            told 4 = 8
            rule 0 5 2 = 701
            told 3 = 11
            told 4 = 11              # 0 2 4 6 8 10 0 2
            rule 0 6 2 = 502
            told 3 = 13
            told 4 = -5
            """);
        Script.check(c, "LEAST: by 3 and 4", """
            reads 0,0;1,0;2,0 = 3
            rule 0 9 4 = 1
            told 4 = 9
            station 3 0 = 3
            told 3 = 13
            told 4 = -5
            rule 0 9 3 = 904
            told 4 = 10
            station 4 0 = 4
            told 4 = -5
            """);
        Script.check(c, "LEAST: 12, where BOUND is less", """
            reads 0,1;4,1;2,0;2,2 = 4
            rule 0 40 3 = 1
            rule 1 3 4 = 1
            told 3 = 10
            told 4 = 12
            told 5 = 0
            """);
        Script.check(c, "LEAST: one with many others in the middle", """
            reads 7,6;4,1;4,7;1,2;1,0 = 5
            rule 0 2 2 = 1
            rule 1 6 1 = 1
            told 3 = 3
            told 4 = 3               # 0 1 2 0 2
            told 5 = 1
            """);
        Script.check(c, "LEAST: one in the middle of two, by 2 and 3", """
            reads 5,2;4,4;6,2;2,6 = 4
            rule 0 5 2 = 1
            rule 1 1 3 = 1
            told 3 = 5
            told 4 = 5               # 0 2 4 4
            told 5 = 1
            move 0 0 4 = 29
            move 1 4 3 = 1
            move 2 4 0 = 8
            move 3 1 1 = 26
            rule 1 3 3 = 103
            told 4 = 5               # 4 0 4 2
            move 0 10 11 = 149
            move 1 9 11 = 89
            move 2 7 9 = 90
            move 3 1 3 = 4
            rule 0 10 2 = 502
            rule 1 1 3 = 303
            told 4 = 5               # 0 4 2 0
            """);
        Script.check(c, "LEAST: none, where BOUND is 12 at most", """
            reads 0,0;4,4;0,4;4,0;2,2 = 5
            rule 0 40 2 = 1
            rule 1 4 4 = 1
            told 3 = 9
            told 4 = -5
            told 5 = 0
            """);
        Script.check(c, "LEAST: CHANNELS of those that aren't FIXED do not matter", """
            reads 0,0=19;1,0=19;9,9=0 = 3
            rule 0 1 1 = 1
            told 4 = 2
            """);
    }

    private static void leastsByTheFixed() {
        Script.check(c, "LEAST: those FIXED what they have: 11 is the last", """
            reads 0,0=0!;9,9 = 2
            told 4 = 1
            fix 0 false = 1
            channel 0 11 = 0
            fix 0 true = 0
            told 4 = 12
            fix 0 false = 1
            channel 0 12 = 11
            told 4 = 1
            fix 0 true = 0
            told 4 = -5
            fix 0 false = 1
            channel 0 19 = 12
            fix 0 true = 0
            told 4 = -5
            """);
        Script.check(c, "LEAST: without a CLASH, of those FIXED too", """
            reads 0,0=3!;1,0=3! = 2
            told 4 = 4
            rule 0 1 1 = 1
            told 4 = -5
            fix 1 false = 1
            told 4 = 4
            channel 1 4 = 3
            fix 1 true = 0
            told 4 = 5
            rule 0 1 2 = 101
            told 4 = -5
            """);
        Script.check(c, "LEAST: one FIXED in the middle leaves no room below", """
            reads 0,0=2!;1,0 = 2
            rule 0 1 3 = 1
            told 3 = 4
            told 4 = 6
            rule 0 1 2 = 103
            told 4 = 3
            rule 0 1 4 = 102
            told 4 = 7
            """);
        Script.check(c, "LEAST: one FIXED leaves none up to 11", """
            reads 0,0=4!;1,0;2,0 = 3
            rule 0 2 4 = 1
            told 4 = 9
            channel 0 -1 = 4
            channel 0 3 = -5
            fix 0 true = 0
            told 4 = 12
            channel 0 -1 = 3
            channel 0 5 = -5
            fix 0 true = 0
            told 4 = 10
            channel 0 -1 = 5
            channel 0 9 = -5
            fix 0 true = 0
            told 4 = 10
            """);
    }

    private static void proved() {
        Script.check(c, "PROVED: whether LEAST is BOUND", """
            told 5 = 1
            reads 2,0;4,2;3,4;1,4;0,2 = 5
            told 5 = 1
            rule 0 3 1 = 1
            told 3 = 2
            told 4 = 3
            told 5 = 0
            rule 0 5 1 = 301
            told 3 = 5
            told 4 = 5
            told 5 = 1
            rule 0 5 3 = 501
            told 3 = 13
            told 4 = -5
            told 5 = 0
            """);
        Script.check(c, "PROVED: one FIXED", """
            reads 0,0=0! = 1
            told 5 = 1
            channel 0 -1 = 0
            channel 0 1 = -5
            told 5 = 1
            fix 0 true = 0
            told 5 = 0
            """);
    }

    private static void sorted() {
        Script.check(c, "promise 16: NONE: k is below 0", "reads 0,0=1 = 1\n"
            + Script.each("sorted % = -1", "MIN", "-256", "-1") + "sorted 0 = 0\n");
        Script.check(c, "promise 16: -5: not so many have one", """
            sorted 0 = -5
            reads 0,0;1,0=0;2,0;3,0=19 = 4
            sorted 0 = 1
            sorted 1 = 3
            sorted 2 = -5
            sorted 3 = -5
            sorted 4 = -5
            sorted 8 = -5
            sorted 256 = -5
            sorted MAX = -5
            channel 1 -1 = 0
            sorted 0 = 3
            sorted 1 = -5
            """);
        Script.check(c, "promise 16: by CHANNELS, then by numbers; the last of eight", """
            reads 0,0=19;1,0=18;2,0=5;3,0=5;4,0=0;5,0=1;6,0=5;7,0=0 = 8
            sorted 0 = 4
            sorted 1 = 7
            sorted 2 = 5
            sorted 3 = 2
            sorted 4 = 3
            sorted 5 = 6
            sorted 6 = 1
            sorted 7 = 0
            sorted 8 = -5
            """);
    }
}
