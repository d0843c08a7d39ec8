/** Each sentence of the terms 1 that names a boundary, by a run of its own. */
final class EdgesOfTermsTest {
    private static final Checks c = new Checks();
    private static final String EIGHT_IN_A_ROW = "reads 0,0;1,0;2,0;3,0;4,0;5,0;6,0;7,0 = 8\n";

    public static void main(String[] args) {
        stations();
        rules();
        aparts();
        clashes();
        allowed();
        spans();
        assigned();
        ties();
        stuck();
        chains();
        worse();
        texts();
        faults();
        comesOrNot();
        c.end();
    }

    private static void stations() {
        Script.check(c, "STATIONS 0 .. 7, as they come", """
            station 7 7 = 0
            of 0 0 = 7
            of 1 0 = -1
            station 1 0 = 1
            station 2 0 = 2
            station 3 0 = 3
            station 4 0 = 4
            station 5 0 = 5
            station 6 0 = 6
            of 6 0 = 6
            of 7 0 = -1
            station 31 0 = 7
            of 7 0 = 31
            of 8 0 = -1
            station 8 0 = -4
            at 8 0 = -5
            told 0 = 8
            """);
        Script.check(c, "each at a place x, y (0 .. 31)", Script.each("station % 5 = -2", "MIN", "-32", "-1", "32", "MAX")
            + Script.each("station 5 % = -2", "MIN", "-32", "-1", "32", "MAX") + """
            station 0 0 = 0
            station 31 0 = 1
            station 0 31 = 2
            station 31 31 = 3
            of 1 0 = 31
            of 1 1 = 0
            of 2 0 = 0
            of 2 1 = 31
            at 31 31 = 3
            """);
        Script.check(c, "no two at the same place", """
            station 3 4 = 0
            station 3 4 = -3
            station 4 3 = 1
            station 3 3 = 2
            station 4 4 = 3
            move 0 4 4 = -3
            move 0 3 4 = 0
            reads 4,3;5,5 = 1
            at 3 4 = 0
            at 5 5 = 4
            """);
        Script.check(c, "with a CHANNEL 0 .. 19 or none (none at first)", """
            station 3 4 = 0
            of 0 2 = -5
            channel 0 0 = -5
            of 0 2 = 0
            channel 0 19 = 0
            of 0 2 = 19
            channel 0 20 = -2
            channel 0 -2 = -2
            channel 0 -1 = 19
            of 0 2 = -5
            """);
        Script.check(c, "FIXED or not (not at first), also where one was ahead of undo", """
            image = 0
            reads 1,1=3!;2,2=4! = 2
            told 8 = 3
            undo = 0
            station 5 5 = 0
            of 0 2 = -5
            of 0 3 = 0
            told 8 = 0
            station 6 6 = 1
            channel 1 0 = -5
            of 1 3 = 0
            """);
    }

    private static void rules() {
        Script.check(c, "RULES 0 .. 2", """
            rule -1 1 1 = -1
            rule 3 1 1 = -1
            rule 0 1 1 = 1
            rule 1 2 2 = 1
            rule 2 3 3 = 1
            count 1 = 3
            rule 0 0 1 = 101
            rule 1 0 1 = 202
            rule 2 0 1 = 303
            """);
        Script.check(c, "NEAR (0 .. 40)", Script.each("rule 1 % 1 = -2", "MIN", "-40", "-1", "41", "MAX") + """
            rule 1 40 1 = 1
            rule 1 0 1 = 4001
            rule 1 40 1 = 1
            """);
        Script.check(c, "a GAP (1 .. 4)", Script.each("rule 1 1 % = -2", "MIN", "-1", "0", "5", "MAX") + """
            rule 1 1 1 = 1
            rule 1 1 4 = 101
            rule 1 1 1 = 104
            """);
        Script.check(c, "0: it is no RULE, as all are at first; GAP 1 at first", EIGHT_IN_A_ROW + """
            count 1 = 0
            of 0 6 = 0
            rule 0 0 4 = 1
            rule 1 0 4 = 1
            rule 2 0 4 = 1
            count 1 = 0
            of 0 6 = 0
            apart 0 1 = 0
            rule 0 1 4 = 4
            count 1 = 1
            apart 0 1 = 4
            rule 0 0 4 = 104
            count 1 = 0
            apart 0 1 = 0
            """);
    }

    private static void aparts() {
        Script.check(c, "APART: no farther than NEAR, on the edge of 1", """
            reads 5,5;5,6;6,6;7,5 = 4
            rule 0 1 3 = 1
            apart 0 1 = 3
            apart 1 0 = 3
            apart 0 2 = 0
            apart 0 3 = 0
            """);
        Script.check(c, "APART: on the edge of 5", """
            reads 10,10;13,14;15,10;15,11;14,14;10,5;6,7 = 7
            rule 0 5 2 = 1
            apart 0 1 = 2
            apart 0 2 = 2
            apart 0 3 = 0     # 26
            apart 0 4 = 0     # 32
            apart 0 5 = 2
            apart 0 6 = 2
            rule 0 4 2 = 502
            apart 0 1 = 0
            apart 0 2 = 0
            """);
        Script.check(c, "APART: on the edge of 40", """
            reads 0,0;31,25;31,26;28,28;29,28 = 5
            rule 2 40 1 = 1
            apart 0 1 = 1     # 1586
            apart 0 2 = 0     # 1637
            apart 3 0 = 1     # 1568
            apart 0 4 = 0     # 1625
            rule 2 39 1 = 4001
            apart 0 1 = 0
            """);
        Script.check(c, "APART: the greatest GAP of the RULES that reach so far", """
            reads 0,0;2,0;4,0;6,0 = 4
            rule 0 2 2 = 1
            rule 1 4 3 = 1
            rule 2 6 1 = 1
            apart 0 1 = 3
            apart 0 2 = 3
            apart 0 3 = 1
            rule 0 2 4 = 202
            apart 0 1 = 4
            apart 0 2 = 3
            rule 2 6 4 = 601
            apart 0 2 = 4
            apart 0 3 = 4
            rule 2 0 4 = 604
            apart 0 2 = 3
            apart 0 3 = 0
            """);
    }

    private static void clashes() {
        Script.check(c, "A CLASH: nearer each other than APART, up to the gap and no farther", """
            reads 0,0=10;1,0=14 = 2
            rule 0 1 4 = 1
            told 2 = 0
            channel 1 13 = 14
            told 2 = 1
            channel 1 7 = 13
            told 2 = 1
            channel 1 6 = 7
            told 2 = 0
            channel 1 10 = 6
            told 2 = 1
            """);
        Script.check(c, "A CLASH: like ones, by APART 1", """
            reads 0,0=10;1,0=10;9,9=10 = 3
            told 2 = 0
            rule 0 1 1 = 1
            told 2 = 1
            of 0 7 = 1
            of 1 7 = 1
            of 2 7 = 0
            channel 1 11 = 10
            told 2 = 0
            channel 1 9 = 11
            told 2 = 0
            """);
        Script.check(c, "A CLASH: of two STATIONS with CHANNELS, at the ends of the CHANNELS too", """
            reads 0,0=0;1,0;0,1=19 = 3
            rule 0 2 4 = 1
            told 2 = 0
            of 1 7 = 0
            channel 1 3 = -5
            told 2 = 1
            channel 1 4 = 3
            told 2 = 0
            channel 1 16 = 4
            told 2 = 1
            channel 1 15 = 16
            told 2 = 0
            channel 1 19 = 15
            channel 0 19 = 0
            told 2 = 3
            of 0 7 = 2
            channel 2 0 = 19
            channel 1 0 = 19
            channel 0 0 = 19
            told 2 = 3
            """);
        Script.check(c, "CLASHES: of each two once, 28 at most", EIGHT_IN_A_ROW + """
            rule 0 7 1 = 1
            told 2 = 0
            plan 2 1 = 1
            plan 0 0 = 2
            ends 1 = 0
            assign = 0
            told 2 = 0
            rule 0 7 2 = 701
            told 2 = 7
            rule 0 7 3 = 702
            told 2 = 13
            rule 0 7 4 = 703
            told 2 = 18
            channel 7 0 = 7
            channel 6 0 = 6
            channel 5 0 = 5
            channel 4 0 = 4
            channel 3 0 = 3
            channel 2 0 = 2
            channel 1 0 = 1
            told 2 = 28
            of 7 7 = 7
            """);
    }

    private static void allowed() {
        Script.check(c, "ALLOWED: by the ends of the CHANNELS", """
            reads 0,0;1,0 = 2
            rule 0 1 4 = 1
            of 0 4 = 20
            of 0 5 = 0
            channel 1 0 = -5
            of 0 4 = 16
            of 0 5 = 4
            channel 1 1 = 0
            of 0 4 = 15
            of 0 5 = 5
            channel 1 3 = 1
            of 0 4 = 13
            of 0 5 = 7
            channel 1 4 = 3
            of 0 4 = 13
            of 0 5 = 0
            channel 1 16 = 4
            of 0 4 = 13
            of 0 5 = 0
            channel 1 19 = 16
            of 0 4 = 16
            of 0 5 = 0
            """);
        Script.check(c, "ALLOWED: by another one that has one, not by its own", """
            reads 0,0=5;1,0;2,0=5 = 3
            rule 0 1 1 = 1
            of 0 4 = 20
            of 1 4 = 19
            of 1 5 = 0
            channel 1 5 = -5
            of 1 4 = 19
            of 0 4 = 19
            of 1 7 = 2
            channel 0 0 = 5
            of 1 4 = 18
            of 1 5 = 1
            """);
        Script.check(c, "ALLOWED: one, and none", """
            reads 10,10;10,11=3;11,10=10;9,10=18 = 4
            rule 0 1 4 = 1
            of 0 4 = 1
            of 0 5 = 14
            channel 3 17 = 18
            of 0 4 = 0
            of 0 5 = -5
            channel 3 16 = 17
            of 0 4 = 0
            channel 3 15 = 16
            of 0 4 = 1
            of 0 5 = 19
            """);
    }

    private static void spans() {
        Script.check(c, "SPAN: from the least to the greatest, both counted (0: nobody has one)", """
            told 1 = 0
            reads 0,0;1,0;2,0 = 3
            told 1 = 0
            channel 0 0 = -5
            told 1 = 1
            channel 0 19 = 0
            told 1 = 1
            channel 1 19 = -5
            told 1 = 1
            channel 1 18 = 19
            told 1 = 2
            channel 1 0 = 18
            told 1 = 20
            channel 2 7 = -5
            told 1 = 20
            channel 0 -1 = 19
            told 1 = 8
            """);
    }

    private static void assigned() {
        Script.check(c, "ASSIGNED: those not FIXED have none; the least ALLOWED", """
            reads 0,0=19;9,9=7!;20,20=4 = 3
            assign = 0
            channels = 0 7 0
            told 8 = 2
            assign = 0
            channels = 0 7 0
            """);
        Script.check(c, "ASSIGNED: those FIXED stay, also with a CLASH", """
            reads 0,0=7!;1,0=7!;2,0=7! = 3
            rule 0 1 4 = 1
            assign = 0
            channels = 7 7 7
            told 2 = 2
            """);
        Script.check(c, "ASSIGNED: nobody", """
            assign = 0
            told 0 = 0
            """);
        Script.check(c, "ASSIGNED: the least ALLOWED is 0 below a FIXED one's gap, or just behind it", """
            reads 0,0=4!;1,0 = 2
            rule 0 1 4 = 1
            assign = 0
            channels = 4 0
            fix 0 false = 1
            channel 0 3 = 4
            fix 0 true = 0
            assign = 0
            channels = 3 7
            """);
    }

    private static void ties() {
        Script.check(c, "ASSIGNED: for which fewest CHANNELS are ALLOWED, 19 ahead of 20", """
            reads 5,5;6,5;7,5=19!;4,5 = 4
            rule 0 1 1 = 1
            of 0 6 = 2
            of 1 6 = 2
            assign = 0
            channels = 1 0 19 0      # 1 ahead of 0
            """);
        Script.check(c, "ASSIGNED: fewest ALLOWED ahead of most others", """
            reads 1,1;1,0;2,0=19!;0,1;1,2 = 5
            rule 0 1 1 = 1
            of 0 6 = 3
            of 1 6 = 2
            assign = 0
            channels = 1 0 19 0 0    # 1 ahead of 0
            """);
        Script.check(c, "ASSIGNED: fewest ALLOWED, counted anew each time", """
            reads 0,0;1,0;2,0;3,0=0! = 4
            rule 0 1 2 = 1
            assign = 0
            channels = 2 0 2 0       # 2 by 18, then 1 by 17, then 0 by 18
            """);
        Script.check(c, "ASSIGNED: of several that with most others", """
            reads 0,0;1,0;2,0 = 3
            rule 0 1 1 = 1
            assign = 0
            channels = 1 0 1
            move 0 3 0 = 9
            assign = 0
            channels = 1 1 0
            """);
        Script.check(c, "ASSIGNED: most others at all, by whatever GAP", """
            reads 0,0;1,0;3,0;5,0;3,2 = 5
            rule 0 1 4 = 1
            rule 1 2 1 = 1
            apart 0 1 = 4
            of 1 6 = 2
            of 2 6 = 3
            assign = 0
            channels = 5 1 0 1 1     # 2 by three of 1, ahead of 1 by one of 4 and one of 1
            """);
        Script.check(c, "ASSIGNED: most others, also those that have a CHANNEL", """
            reads 0,0=19!;1,0;2,0;3,0=19!;2,1=19! = 5
            rule 0 1 1 = 1
            of 1 4 = 19
            of 2 4 = 19
            of 1 6 = 2
            of 2 6 = 3
            assign = 0
            channels = 19 1 0 19 19
            """);
        Script.check(c, "ASSIGNED: of several the least number", """
            reads 0,0;1,0;20,20;20,21 = 4
            rule 0 1 3 = 1
            assign = 0
            channels = 0 3 0 3
            """);
    }

    private static void stuck() {
        Script.check(c, "ASSIGNED: if none is ALLOWED, it is STUCK; one is enough", """
            reads 10,10=0;10,11=3!;11,10=10!;9,10=17! = 4
            rule 0 1 4 = 1
            assign = 1
            channels = - 3 10 17
            channel 3 -1 = 17
            channel 3 18 = -5
            fix 3 true = 0
            assign = 0
            channels = 14 3 10 18
            """);
        Script.check(c, "ASSIGNED: those that aren't STUCK go on", """
            reads 10,10;10,11=3!;11,10=10!;9,10=17!;10,9;20,20 = 6
            rule 0 1 4 = 1
            assign = 1
            channels = - 3 10 17 0 0
            of 0 5 = -5
            told 6 = 5
            """);
        Script.check(c, "ASSIGNED: all but one are STUCK, seven of them", """
            reads 0,0;1,0;2,0;3,0;4,0;0,1=3!;1,1=10!;2,1=17! = 8
            rule 0 8 4 = 1
            assign = 5
            channels = - - - - - 3 10 17
            told 1 = 15
            """);
    }

    private static void chains() {
        Script.check(c, "EXCHANGED: a CHAIN of one, and of all", EIGHT_IN_A_ROW + """
            rule 0 1 1 = 1
            assign = 0
            channels = 1 0 1 0 1 0 1 0
            exchange 0 19 = 1
            channels = 19 0 1 0 1 0 1 0
            exchange 0 1 = 1
            exchange 7 1 = 8
            channels = 0 1 0 1 0 1 0 1
            exchange 0 1 = 8
            channels = 1 0 1 0 1 0 1 0
            exchange 3 5 = 1
            exchange 0 0 = 3
            channels = 0 1 0 5 1 0 1 0
            """);
        Script.check(c, "EXCHANGED: whoever is to be APART from one in it", """
            reads 0,0=3;1,0=4;3,0=3;4,0=4 = 4
            rule 0 1 1 = 1
            exchange 0 4 = 2
            channels = 4 3 3 4
            rule 1 2 1 = 1
            exchange 0 3 = 2
            channels = 3 4 3 4
            exchange 0 4 = 4
            channels = 4 3 4 3
            """);
        Script.check(c, "EXCHANGED: who has the other one of the two CHANNELS", """
            reads 0,0=3;1,0=5;2,0=3;0,1=4;0,2=3;1,1 = 6
            rule 0 1 1 = 1
            exchange 0 4 = 3
            channels = 4 5 3 3 4 -
            """);
        Script.check(c, "EXCHANGED: the ends of the CHANNELS", """
            reads 0,0=0;1,0=19 = 2
            rule 0 1 4 = 1
            exchange 0 19 = 2
            channels = 19 0
            exchange 1 19 = 2
            channels = 0 19
            exchange 0 -1 = -2
            exchange 0 20 = -2
            """);
        Script.check(c, "EXCHANGED: if nobody in the CHAIN is FIXED, at its near and far end", """
            reads 0,0=1!;1,0=2;2,0=1;3,0=2;4,0=1! = 5
            rule 0 1 1 = 1
            exchange 2 2 = -5
            exchange 0 2 = -5
            exchange 0 9 = -5
            exchange 4 2 = -5
            fix 0 false = 1
            exchange 1 1 = -5
            fix 4 false = 1
            exchange 1 1 = 5
            channels = 2 1 2 1 2
            fix 2 true = 0
            exchange 1 3 = 1
            exchange 3 3 = 1
            channels = 2 3 2 3 2
            """);
    }

    private static void worse() {
        Script.check(c, "EXCHANGED: more CLASHES than ahead", """
            reads 0,0=0;1,0=4;2,0=9 = 3
            rule 0 1 4 = 1
            exchange 0 1 = -6
            channels = 0 4 9
            exchange 1 6 = -6
            exchange 1 5 = 1
            channels = 0 5 9
            """);
        Script.check(c, "EXCHANGED: as many CLASHES, and fewer", """
            reads 0,0=0;1,0=1;20,20=0 = 3
            rule 0 1 4 = 1
            told 2 = 1
            exchange 0 2 = 1
            told 2 = 1
            channels = 2 1 0
            exchange 0 4 = 1
            told 2 = 1
            exchange 0 5 = 1
            told 2 = 0
            exchange 0 4 = -6
            told 2 = 0
            channels = 5 1 0
            """);
        Script.check(c, "EXCHANGED: one FIXED outside of the CHAIN counts by its CLASHES", """
            reads 0,0=0;1,0=8! = 2
            rule 0 1 4 = 1
            exchange 0 5 = -6
            exchange 0 11 = -6
            exchange 0 12 = 1
            exchange 0 8 = -5
            channels = 12 8
            """);
    }

    private static void texts() {
        Script.check(c, "THE TEXT: 100 bytes at most", "text " + "0".repeat(99) + " = 99\n" + """
            count 5 = 99
            feed 0 = 100
            feed 0 = -4
            count 5 = 100
            read = -12
            count 5 = 0
            feed 0 = 1
            """);
        Script.check(c, "CLAUSES, 1", """
            reads 5,6 = 1
            of 0 1 = 6
            """);
        Script.check(c, "CLAUSES, none", """
            read = -10
            told 0 = 0
            """);
        Script.check(c, "CLAUSES, 8", EIGHT_IN_A_ROW + "told 0 = 8\n");
        Script.check(c, "CLAUSES, 9", """
            reads 0,0;1,0;2,0;3,0;4,0;5,0;6,0;7,0;8,0 = -41
            told 0 = 0
            reads 0,0;1,0;2,0;3,0;4,0;5,0;6,0;7,0; = -41
            told 0 = 0
            """);
        Script.check(c, "CLAUSES as long as they can be", """
            reads 31,31=19!;31,30=19!;31,29=19!;31,28=19!;31,27=19!;31,26=19!;31,25=19!;31,24=19! = 8
            told 8 = 255
            of 7 1 = 24
            of 7 2 = 19
            """);
        Script.check(c, "x , y (1 or 2 digits each, 0 .. 31)", """
            reads 0,31;31,0;00,01;7,09;09,7 = 5
            of 0 0 = 0
            of 0 1 = 31
            of 1 0 = 31
            of 1 1 = 0
            of 2 0 = 0
            of 2 1 = 1
            of 3 0 = 7
            of 3 1 = 9
            of 4 0 = 9
            of 4 1 = 7
            """);
        Script.check(c, "= and a CHANNEL (1 or 2 digits, 0 .. 19), then, perhaps, !", """
            reads 0,0=0;1,0=19;2,0=00!;3,0=09!;4,0=10;5,0=9!;6,0 = 7
            channels = 0 19 0 9 10 9 -
            told 8 = 44
            """);
    }

    private static void faults() {
        Script.check(c, "The FAULT: of a number that is too great its second digit", """
            reads 32,0 = -11
            reads 40,0 = -11
            reads 99 = -11
            reads 0,32 = -13
            reads 1,99=3 = -13
            reads 1,1=20 = -15
            reads 1,1=99! = -15
            reads 1,1;32,1 = -15
            told 0 = 0
            """);
        Script.check(c, "The FAULT: a third digit", """
            reads 000,0 = -12
            reads 310,0 = -12
            reads 0,000 = -14
            reads 0,311 = -14
            reads 1,1=000 = -16
            reads 1,1=199 = -16
            told 0 = 0
            """);
        Script.check(c, "The FAULT: the end of THE TEXT, if it ends too early", """
            reads 1 = -11
            reads 31 = -12
            reads 1, = -12
            reads 1,1= = -14
            reads 1,1; = -14
            reads 1,1=1; = -16
            reads 1,1=1!; = -17
            reads 1,1;3 = -15
            reads 1,1;31, = -17
            told 0 = 0
            """);
        Script.check(c, "The FAULT: ! only behind a CHANNEL, and once", """
            reads 1,1! = -13
            reads 1,1=! = -14
            reads 1!,1 = -11
            reads 1,1=1!! = -16
            reads 1,1=1!=2 = -16
            reads 1,1=1=2 = -15
            told 0 = 0
            """);
        Script.check(c, "The FAULT: no blanks", """
            reads  1,1 = -10
            reads 1 ,1 = -11
            reads 1, 1 = -12
            reads 1,1  = -13
            reads 1,1 =1 = -13
            reads 1,1= 1 = -14
            reads 1,1=1 ! = -15
            reads 1,1; 2,2 = -14
            told 0 = 0
            """);
        Script.check(c, "The FAULT: other bytes, those beside the digits too", """
            feed 0 = 1
            read = -10
            feed 127 = 1
            read = -10
            feed 47 = 1
            read = -10
            feed 58 = 1
            read = -10
            reads 1/ = -11
            reads 1: = -11
            reads 1,/ = -12
            reads 1,: = -12
            reads -1,1 = -10
            reads 1,-1 = -12
            reads 1,,1 = -12
            reads ,1 = -10
            reads ;1,1 = -10
            reads 1,1;;2,2 = -14
            reads 1;1 = -11
            reads 1,1,1 = -13
            reads 1=1 = -11
            told 0 = 0
            """);
        Script.check(c, "The FAULT: the first one; nobody comes of those ahead of it", """
            reads 1,1=1!;2,2=2;a,1;32,1 = -23
            told 0 = 0
            count 5 = 0
            reads 1,1 = 1
            """);
    }

    private static void comesOrNot() {
        Script.check(c, "Each comes, one behind the other; those that would be refused don't: a place", """
            reads 1,1=1;1,1=2;2,2=2!;2,2=3!;01,01=4 = 2
            channels = 1 2
            told 8 = 2
            reads 2,2=5;1,1 = 0
            channels = 1 2
            told 8 = 2
            """);
        Script.check(c, "those that would be refused don't: no room", """
            reads 0,0;1,0;2,0;3,0;4,0;5,0;6,0 = 7
            reads 0,1=1;0,2=2!;0,3=3! = 1
            channels = - - - - - - - 1
            told 8 = 0
            reads 0,4=4! = 0
            told 0 = 8
            """);
    }
}
