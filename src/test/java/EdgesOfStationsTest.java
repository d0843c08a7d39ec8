/** Promises 1 to 11: each boundary and each refusal that they name, by a run of its own. */
final class EdgesOfStationsTest {
    private static final Checks c = new Checks();
    private static final String EIGHT = "reads 0,0;1,0;2,0;3,0;4,0;5,0;6,0;7,0 = 8\n";
    // Where there are two stations; some are numbers whose lowest bits are those of one of them.
    private static final String[] NOT_OF_TWO = {"MIN", "-256", "-32", "-2", "-1", "2", "8", "32", "33", "256", "65536", "MAX"};
    private static final String[] NOT_OF_EIGHT = {"MIN", "-1", "8", "9", "32", "39", "256", "MAX"};
    private static final String[] OFF_THE_PLANE = {"MIN", "-32", "-1", "32", "33", "64", "256", "65536", "MAX"};

    public static void main(String[] args) {
        newObject();
        station();
        rule();
        channel();
        fix();
        move();
        feed();
        read();
        of();
        ofClashesAndOthers();
        apart();
        at();
        c.end();
    }

    private static void newObject() {
        StringBuilder lines = new StringBuilder();
        for (int what = 0; what <= 8; what++) {
            lines.append("told ").append(what).append(what == 5 ? " = 1\n" : " = 0\n");
        }
        Script.check(c, "promise 1: No STATIONS", lines + Script.each("count % = 0", "0", "2", "3", "4", "5") + """
            of 0 0 = -1
            apart 0 1 = -1
            at 0 0 = -5
            sorted 0 = -5
            clique 1 = 0
            mean 0 = NO
            odds 0 0 = NO
            fits 0 0 = 40
            fits 0 1 = 1
            ends 0 = 0
            ends 1 = 0
            looked = -5
            assign = 0
            undo = -3
            image = 0
            """);
        Script.check(c, "promise 1: no RULES", """
            count 1 = 0
            rule 0 0 1 = 1
            rule 1 0 1 = 1
            rule 2 0 1 = 1
            """);
        Script.check(c, "promise 1: no TEXT, TAPES hold nothing", """
            read = -10
            """ + Script.each("item % 0 1 = -11", "0", "1", "2", "3", "4", "5")
            + Script.each("peek % 0 = NO", "0", "1", "2", "3", "4", "5"));
    }

    private static void station() {
        Script.check(c, "promise 2: BAD: x", Script.each("station % 0 = -2", OFF_THE_PLANE) + """
            station 0 0 = 0
            station 31 0 = 1
            """);
        Script.check(c, "promise 2: BAD: y", Script.each("station 0 % = -2", OFF_THE_PLANE) + """
            station 0 0 = 0
            station 0 31 = 1
            """);
        Script.check(c, "promise 2: STATE: there is one at that place", """
            reads 0,0;31,31 = 2
            station 0 0 = -3
            station 31 31 = -3
            station 0 31 = 2
            station 31 0 = 3
            move 0 1 0 = 1
            station 0 0 = 4
            station 1 0 = -3
            """);
        Script.check(c, "promise 2: FULL: 8", """
            reads 0,0;1,0;2,0;3,0;4,0;5,0;6,0 = 7
            image = 7
            station 30 30 = 7
            station 31 30 = -4
            undo = 7
            station 31 30 = 7
            station 30 30 = -4
            """);
        Script.check(c, "promise 2: BAD ahead of FULL, STATE ahead of FULL", EIGHT + """
            station 32 0 = -2
            station 0 -1 = -2
            station 7 0 = -3
            station 0 0 = -3
            station 8 0 = -4
            """);
    }

    private static void rule() {
        String[] noRules = {"MIN", "-256", "-3", "-1", "3", "4", "32", "256", "MAX"};
        Script.check(c, "promise 3: NONE", Script.each("rule % 1 1 = -1", noRules) + """
            rule 0 1 1 = 1
            rule 2 1 1 = 1
            """);
        Script.check(c, "promise 3: BAD: NEAR",
            Script.each("rule 2 % 1 = -2", "MIN", "-40", "-1", "41", "42", "64", "256", "MAX") + """
            rule 2 0 1 = 1
            rule 2 40 1 = 1
            rule 2 0 1 = 4001
            """);
        Script.check(c, "promise 3: BAD: GAP",
            Script.each("rule 0 1 % = -2", "MIN", "-4", "-1", "0", "5", "6", "257", "MAX") + """
            rule 0 0 4 = 1
            rule 0 0 1 = 4
            rule 0 0 2 = 1
            rule 0 0 3 = 2
            rule 0 0 1 = 3
            """);
        Script.check(c, "promise 3: NONE ahead of BAD; NEAR alone or GAP alone do not come", """
            rule 3 41 1 = -1
            rule -1 1 0 = -1
            rule MAX MAX MAX = -1
            rule 1 5 2 = 1
            rule 1 6 5 = -2
            rule 1 41 3 = -2
            rule 1 41 5 = -2
            rule 1 7 3 = 502
            """);
        Script.check(c, "promise 3: 100 times NEAR that was, and GAP that was, of each RULE", """
            rule 0 40 4 = 1
            rule 1 1 1 = 1
            rule 2 9 2 = 1
            rule 0 0 1 = 4004
            rule 1 0 1 = 101
            rule 2 0 1 = 902
            rule 2 0 1 = 1
            """);
    }

    private static void channel() {
        Script.check(c, "promise 4: NONE", "reads 0,0;1,0 = 2\n" + Script.each("channel % 3 = -1", NOT_OF_TWO)
            + Script.each("channel % -1 = -1", NOT_OF_TWO) + """
            channel 0 3 = -5
            channel 1 4 = -5
            """);
        Script.check(c, "promise 4: the last of eight", EIGHT + """
            channel 7 19 = -5
            channel 7 -1 = 19
            """ + Script.each("channel % 1 = -1", NOT_OF_EIGHT));
        Script.check(c, "promise 4: BAD", "reads 0,0 = 1\n"
            + Script.each("channel 0 % = -2", "MIN", "-256", "-20", "-2", "20", "21", "32", "255", "256", "MAX") + """
            channel 0 0 = -5
            channel 0 19 = 0
            channel 0 -1 = 19
            """);
        Script.check(c, "promise 4: -5: none", """
            reads 0,0;1,0=0 = 2
            channel 0 -1 = -5
            channel 0 0 = -5
            channel 0 0 = 0
            channel 1 5 = 0
            channel 0 -1 = 0
            channel 0 -1 = -5
            """);
        Script.check(c, "promise 4: STATE: it is FIXED (but by -1)", """
            reads 0,0=5!;1,0=6 = 2
            channel 0 5 = -3
            channel 0 0 = -3
            channel 0 19 = -3
            channel 1 0 = 6
            channel 0 -1 = 5
            channel 0 19 = -5
            """);
        Script.check(c, "promise 4: -1: it isn't FIXED then", """
            reads 0,0=5!;1,0=6! = 2
            channel 0 -1 = 5
            of 0 3 = 0
            of 1 3 = 1
            told 8 = 2
            channel 0 5 = -5
            of 0 3 = 0
            """);
        Script.check(c, "promise 4: NONE ahead of BAD, BAD ahead of STATE", """
            reads 0,0=5! = 1
            channel 1 20 = -1
            channel -1 -2 = -1
            channel 0 20 = -2
            channel 0 -2 = -2
            channel 0 MAX = -2
            """);
    }

    private static void fix() {
        Script.check(c, "promise 5: NONE", "reads 0,0=1;1,0=2 = 2\n" + Script.each("fix % true = -1", NOT_OF_TWO)
            + Script.each("fix % false = -1", NOT_OF_TWO) + "told 8 = 0\n");
        Script.check(c, "promise 5: the last of eight", EIGHT + """
            channel 7 0 = -5
            fix 7 true = 0
            told 8 = 128
            """ + Script.each("fix % true = -1", NOT_OF_EIGHT));
        Script.check(c, "promise 5: STATE: it has no CHANNEL", """
            reads 0,0;1,0=0 = 2
            fix 0 true = -3
            fix 0 false = -3
            channel 0 0 = -5
            fix 0 false = 0
            fix 0 true = 0
            channel 0 -1 = 0
            fix 0 true = -3
            fix 1 true = 0
            told 8 = 2
            """);
        Script.check(c, "promise 5: whether it was", """
            reads 0,0=0;1,0=19! = 2
            fix 0 true = 0
            fix 0 true = 1
            fix 0 false = 1
            fix 0 false = 0
            fix 1 true = 1
            fix 1 false = 1
            told 8 = 0
            """);
    }

    private static void move() {
        Script.check(c, "promise 6: NONE", "reads 0,0;1,0 = 2\n" + Script.each("move % 5 5 = -1", NOT_OF_TWO)
            + "at 5 5 = -5\n");
        Script.check(c, "promise 6: BAD", "reads 0,0;1,0 = 2\n" + Script.each("move 1 % 5 = -2", OFF_THE_PLANE)
            + Script.each("move 1 5 % = -2", OFF_THE_PLANE) + """
            move 1 31 0 = 900
            move 1 31 31 = 961
            move 1 0 31 = 961
            """);
        Script.check(c, "promise 6: STATE: another one is there, not itself", """
            reads 0,0;1,0;2,0 = 3
            move 1 0 0 = -3
            move 1 2 0 = -3
            move 1 1 0 = 0
            move 0 3 0 = 9
            move 1 0 0 = 1
            at 0 0 = 1
            at 1 0 = -5
            """);
        Script.check(c, "promise 6: NONE ahead of BAD and STATE", """
            reads 0,0;1,0 = 2
            move 2 32 0 = -1
            move -1 0 -1 = -1
            move 2 0 0 = -1
            move -1 1 0 = -1
            move 0 32 0 = -2
            """);
        Script.check(c, "promise 6: the square of how far, 0 to 1922", """
            reads 0,0=3! = 1
            move 0 0 0 = 0
            move 0 31 31 = 1922
            move 0 0 0 = 1922
            move 0 31 0 = 961
            move 0 0 31 = 1922
            move 0 3 27 = 25
            of 0 2 = 3
            of 0 3 = 1
            """);
        Script.check(c, "promise 6: elsewhere other ones are near", """
            reads 0,0=0;1,0=0;31,31=0 = 3
            rule 0 1 1 = 1
            of 0 7 = 1
            move 1 31 30 = 1800
            apart 0 1 = 0
            apart 1 2 = 1
            of 0 7 = 0
            of 2 7 = 1
            clique 1 = 6
            """);
    }

    private static void feed() {
        Script.check(c, "promise 7: BAD",
            Script.each("feed % = -2", "MIN", "-256", "-128", "-1", "128", "129", "255", "256", "304", "MAX") + """
            count 5 = 0
            feed 0 = 1
            feed 127 = 2
            count 5 = 2
            """);
        Script.check(c, "promise 7: FULL", "text " + "1".repeat(100) + " = 100\n" + """
            feed 49 = -4
            feed 0 = -4
            feed 127 = -4
            """);
        Script.check(c, "promise 7: BAD ahead of FULL", "text " + "1".repeat(100) + " = 100\n" + """
            feed 128 = -2
            feed -1 = -2
            """);
        Script.check(c, "promise 7: it comes behind the others", """
            feed 49 = 1
            feed 44 = 2
            feed 50 = 3
            feed 51 = 4
            read = 1
            of 0 0 = 1
            of 0 1 = 23
            feed 49 = 1
            """);
    }

    private static void read() {
        Script.check(c, "promise 8: THE TEXT is empty then, by a FAULT too", """
            reads 1,1 = 1
            count 5 = 0
            read = -10
            reads 2,2x = -13
            count 5 = 0
            read = -10
            reads 2,2 = 1
            """);
        Script.check(c, "promise 8: -10 less the FAULT, as far as it can be", "text " + "1,1=1!;".repeat(8) + " = 56\n" + """
            read = -65
            told 0 = 0
            """);
        Script.check(c, "promise 8: how many came: none", """
            reads 1,1 = 1
            reads 1,1;1,1=3 = 0
            told 0 = 1
            of 0 2 = -5
            """);
        Script.check(c, "promise 8: a CHANNEL and ! of the text ahead do not stay", """
            reads 1,1=1!;2,2=2!;3,3=3! = 3
            reads 4,4;5,5=5 = 2
            channels = 1 2 3 - 5
            told 8 = 7
            """);
    }

    private static void of() {
        String[] noWhats = {"MIN", "-256", "-1", "8", "9", "32", "256", "MAX"};
        Script.check(c, "promise 9: NONE: a STATION", "reads 0,0=1;1,0=2 = 2\n" + Script.each("of % 0 = -1", NOT_OF_TWO)
            + Script.each("of % 2 = -1", NOT_OF_TWO) + Script.each("of % 4 = -1", NOT_OF_TWO));
        Script.check(c, "promise 9: NONE: the last of eight is none such",
            EIGHT + "of 7 0 = 7\n" + Script.each("of % 0 = -1", NOT_OF_EIGHT));
        Script.check(c, "promise 9: NONE: what", "reads 0,0=1 = 1\n" + Script.each("of 0 % = -1", noWhats) + """
            of 0 0 = 0
            of 0 7 = 0
            of 1 8 = -1
            of 1 7 = -1
            """);
        Script.check(c, "promise 9: CHANNEL (-5), whether FIXED", """
            reads 3,4;5,6=0!;7,8=19 = 3
            of 0 2 = -5
            of 0 3 = 0
            of 1 2 = 0
            of 1 3 = 1
            of 2 2 = 19
            of 2 3 = 0
            """);
        Script.check(c, "promise 9: how many are ALLOWED, the least of these (-5): 20, 1, 0", """
            reads 0,0;0,1=0;1,0=7;1,1=14 = 4
            of 0 4 = 20
            of 0 5 = 0
            rule 0 2 4 = 1
            of 0 4 = 2               # not 0 to 3, 4 to 10, 11 to 17
            of 0 5 = 18
            channel 3 15 = 14
            of 0 4 = 2
            of 0 5 = 11
            channel 3 16 = 15
            of 0 4 = 2
            channel 2 6 = 7
            channel 3 13 = 16
            of 0 4 = 3
            of 0 5 = 17
            channel 3 -1 = 13
            station 31 31 = 4
            of 4 4 = 20
            """);
    }

    private static void ofClashesAndOthers() {
        Script.check(c, "promise 9: from how many others it is to be APART, how many CLASHES it has: 0 to 7", EIGHT + """
            of 3 6 = 0
            of 3 7 = 0
            rule 0 1 1 = 1
            of 0 6 = 1
            of 3 6 = 2
            of 3 7 = 0
            rule 0 7 1 = 101
            of 0 6 = 7
            of 3 6 = 7
            of 7 6 = 7
            channel 0 4 = -5
            of 0 7 = 0
            channel 1 4 = -5
            of 0 7 = 1
            of 2 7 = 0
            channel 2 4 = -5
            channel 3 4 = -5
            channel 4 4 = -5
            channel 5 4 = -5
            channel 6 4 = -5
            channel 7 4 = -5
            of 0 7 = 7
            of 7 7 = 7
            rule 0 6 1 = 701
            of 0 7 = 6
            of 3 7 = 7
            """);
    }

    private static void apart() {
        Script.check(c, "promise 10: NONE: none such", "reads 0,0;1,0 = 2\nrule 0 1 1 = 1\n"
            + Script.each("apart 0 % = -1", NOT_OF_TWO) + Script.each("apart % 1 = -1", NOT_OF_TWO)
            + Script.each("apart % % = -1", NOT_OF_TWO) + """
            apart 0 1 = 1
            apart 1 0 = 1
            apart MIN MAX = -1
            """);
        Script.check(c, "promise 10: NONE: the same twice", EIGHT + """
            rule 0 40 4 = 1
            apart 0 0 = -1
            apart 7 7 = -1
            apart 0 7 = 4
            apart 7 6 = 4
            apart 7 8 = -1
            """);
        Script.check(c, "promise 10: 0: there is none", """
            apart 0 0 = -1
            reads 0,0;1,0 = 2
            apart 0 1 = 0
            rule 2 1 4 = 1
            apart 0 1 = 4
            rule 2 1 1 = 104
            apart 0 1 = 1
            """);
    }

    private static void at() {
        Script.check(c, "promise 11: BAD", "station 0 0 = 0\n" + Script.each("at % 0 = -2", OFF_THE_PLANE)
            + Script.each("at 0 % = -2", OFF_THE_PLANE));
        Script.check(c, "promise 11: -5: none is", """
            at 0 0 = -5
            at 31 31 = -5
            station 31 31 = 0
            at 31 31 = 0
            at 0 31 = -5
            at 31 0 = -5
            at 30 31 = -5
            at 31 30 = -5
            move 0 0 0 = 1922
            at 31 31 = -5
            at 0 0 = 0
            image = 1
            station 5 5 = 1
            undo = 1
            at 5 5 = -5
            """);
    }
}
