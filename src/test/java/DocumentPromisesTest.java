/** The document from promise 1 to its last line, piece by piece, each with a run of its own. */
final class DocumentPromisesTest {
    private static final Checks c = new Checks();
    private static final Document doc = new Document(c, "Promise 1: A new object", "");
    private static final String EIGHT = "reads 0,0=0;1,0=1;2,0=2;3,0=3;4,0=4;5,0=5;6,0=6;7,0=7 = 8\n";

    public static void main(String[] args) {
        aNewObject();
        station();
        rule();
        channel();
        fix();
        move();
        text();
        of();
        apart();
        assign();
        exchange();
        told();
        cliqueAndSorted();
        see();
        fits();
        oddsAndMean();
        plan();
        book();
        judge();
        image();
        count();
        tape();
        item();
        shift();
        doc.passes("Not promised How the state is held inside the object is free, as are the speed of each call, the text"
            + " of toString and the behaviour of equals and hashCode. Use of one object from several threads at once is"
            + " not promised to be safe. Nothing is promised beyond the answers and state changes described above, and"
            + " nothing about an object after its 512th call");
        doc.end();
        c.end();
    }

    private static void aNewObject() {
        doc.passes("Promise 1: A new object `GapStations()");
        doc.says("No STATIONS, no RULES", Script.each("count % = 0", "0", "1", "2", "3", "4", "5") + """
            told 0 = 0
            of 0 0 = -1
            at 0 0 = -5
            rule 0 0 1 = 1
            rule 1 0 1 = 1
            rule 2 0 1 = 1
            undo = -3
            read = -10
            """, """
            reads 0,0;1,0 = 2
            apart 0 1 = 0
            of 0 6 = 0
            assign = 0
            channels = 0 0
            told 2 = 0
            """);
    }

    private static void station() {
        doc.passes("Promise 2: station `int station(int x, int y)");
        doc.says("A STATION: its number", """
            station 4 4 = 0
            station 31 0 = 1
            reads 5,5 = 1
            station 0 31 = 3
            of 3 1 = 31
            told 0 = 4
            """);
        doc.says("BAD: x, y", Script.each("station % 3 = -2\nstation 3 % = -2", "MIN", "-1", "32", "MAX") + EIGHT
            + "station 32 0 = -2\nstation 0 -1 = -2\n");
        doc.says("STATE: there is one at that place", "station 4 4 = 0\nstation 4 4 = -3\nmove 0 5 5 = 2\nstation 5 5 = -3\n"
            + "station 4 4 = 1\n", EIGHT + "station 7 0 = -3\n");
        doc.says("FULL: 8", EIGHT + "station 8 0 = -4\ncount 0 = 8\n");
    }

    private static void rule() {
        doc.passes("Promise 3: rule `int rule(int rule, int near, int gap)");
        doc.says("A RULE's NEAR and GAP become others: 100 times NEAR that was, and GAP that was", """
            reads 0,0;3,0 = 2
            rule 1 3 2 = 1
            apart 0 1 = 2
            rule 1 40 4 = 302
            apart 0 1 = 4
            rule 1 2 3 = 4004
            apart 0 1 = 0
            rule 1 0 3 = 203
            rule 1 0 1 = 3
            rule 0 0 1 = 1
            """);
        doc.says("NONE", Script.each("rule % 1 1 = -1\nrule % 41 5 = -1", "MIN", "-1", "3", "MAX"));
        doc.says("BAD", "rule 2 7 3 = 1\n" + Script.each("rule 2 % 1 = -2", "MIN", "-1", "41", "MAX")
            + Script.each("rule 2 1 % = -2", "MIN", "-1", "0", "5", "MAX") + "rule 2 7 3 = 703\n");
    }

    private static void channel() {
        doc.passes("Promise 4: channel `int channel(int station, int channel)");
        doc.says("A STATION has a CHANNEL (-1: none; it isn't FIXED then): what it had (-5: none", """
            reads 0,0;1,0=7! = 2
            channel 0 4 = -5
            channel 0 19 = 4
            channel 0 0 = 19
            channel 0 0 = 0
            channel 0 -1 = 0
            channel 0 -1 = -5
            channel 1 -1 = 7
            of 1 2 = -5
            of 1 3 = 0
            channel 1 8 = -5
            of 1 3 = 0
            """);
        doc.says("NONE", "reads 0,0=2 = 1\n" + Script.each("channel % 3 = -1\nchannel % -1 = -1\nchannel % 20 = -1",
            "MIN", "-1", "1", "8", "MAX"));
        doc.says("BAD", "reads 0,0=2;1,0=3! = 2\n" + Script.each("channel 0 % = -2\nchannel 1 % = -2", "MIN", "-2", "20",
            "MAX"));
        doc.says("STATE: it is FIXED (but by -1", """
            reads 0,0=2;1,0=3! = 2
            channel 1 3 = -3
            channel 1 4 = -3
            channel 0 4 = 2
            fix 0 true = 0
            channel 0 5 = -3
            fix 0 false = 1
            channel 0 5 = 4
            channel 1 -1 = 3
            """);
    }

    private static void fix() {
        doc.passes("Promise 5: fix `int fix(int station, boolean isFixed)");
        doc.says("A STATION is FIXED, or no more: whether it was", """
            reads 0,0=0;1,0=3! = 2
            fix 0 true = 0
            told 8 = 3
            fix 0 true = 1
            told 8 = 3
            fix 1 false = 1
            told 8 = 1
            fix 1 false = 0
            told 8 = 1
            channels = 0 3
            """);
        doc.says("NONE", "reads 0,0=2 = 1\n" + Script.each("fix % true = -1\nfix % false = -1", "MIN", "-1", "1", "MAX"));
        doc.says("STATE: it has no CHANNEL", """
            reads 0,0;1,0=3! = 2
            fix 0 true = -3
            fix 0 false = -3
            channel 1 -1 = 3
            fix 1 false = -3
            fix 1 true = -3
            channel 0 0 = -5
            fix 0 true = 0
            """);
    }

    private static void move() {
        doc.passes("Promise 6: move `int move(int station, int x, int y)");
        doc.says("A STATION is elsewhere: the square of how far that is", """
            reads 1,2=4!;9,9 = 2
            rule 0 3 2 = 1
            move 0 31 31 = 1741
            move 0 0 31 = 961
            of 0 0 = 0
            of 0 1 = 31
            of 0 2 = 4
            of 0 3 = 1
            at 1 2 = -5
            at 31 31 = -5
            at 0 31 = 0
            apart 0 1 = 0
            move 0 9 12 = 442
            apart 0 1 = 2
            of 1 6 = 1
            of 1 4 = 17
            move 0 9 12 = 0
            """);
        doc.says("NONE", "reads 0,0 = 1\n" + Script.each("move % 5 5 = -1\nmove % 32 5 = -1\nmove % 0 0 = -1", "MIN", "-1",
            "1", "MAX"));
        doc.says("BAD", "reads 0,0 = 1\n" + Script.each("move 0 % 5 = -2\nmove 0 5 % = -2", "MIN", "-1", "32", "MAX"));
        doc.says("STATE: another one is there", """
            reads 0,0;1,0 = 2
            move 0 1 0 = -3
            move 1 0 0 = -3
            move 1 1 0 = 0
            move 1 5 0 = 16
            move 0 1 0 = 1
            """);
    }

    private static void text() {
        doc.passes("Promise 7: feed `int feed(int sign)");
        doc.says("A sign (0 .. 127) comes behind THE TEXT's: how many it has", """
            feed 49 = 1
            feed 44 = 2
            feed 50 = 3
            count 5 = 3
            read = 1
            at 1 2 = 0
            feed 0 = 1
            feed 127 = 2
            count 5 = 2
            read = -10
            """);
        doc.says("BAD", Script.each("feed % = -2", "MIN", "-1", "128", "305", "MAX") + "count 5 = 0\n");
        doc.says("FULL", "text " + "x".repeat(100) + " = 100\nfeed 120 = -4\nfeed 128 = -2\ncount 5 = 100\n");
        doc.passes("Promise 8: read `int read()");
        doc.says("THE TEXT, which is empty then (by a FAULT, too), are STATIONS: how many came", """
            text 1,1;2,2=3;3,3=4! = 16
            read = 3
            count 5 = 0
            channels = - 3 4
            told 8 = 4
            text 4,4;2,2=5 = 9
            read = 1
            channels = - 3 4 -
            reads 4,4 = 0
            reads 5,5x = -13
            count 5 = 0
            reads 5,5 = 1
            """);
        doc.says("-10 less the FAULT", """
            read = -10
            reads x = -10
            reads 1,1;2,2;3,3;4,4;5,5;6,6;7,7;8,8;9,9 = -41
            reads 31,31=19!;31,30=19!;31,29=19!;31,28=19!;31,27=19!;31,26=19!;31,25=19!;31,24=19!; = -89
            told 0 = 0
            """);
    }

    private static void of() {
        doc.passes("Promise 9: of `int of(int station, int what)");
        doc.says("Of a STATION what 0 x, 1 y, 2 CHANNEL (-5), 3 whether FIXED, 4 how many are ALLOWED for it, 5 the least of"
            + " these (-5), 6 from how many others it is to be APART, 7 how many CLASHES it has", """
            reads 10,20=6!;11,20;10,21=5;9,9=6;10,19=7 = 5
            rule 0 1 3 = 1
            of 0 0 = 10
            of 0 1 = 20
            of 0 2 = 6
            of 0 3 = 1
            of 0 4 = 13     # all but 3 to 9
            of 0 5 = 0
            of 0 6 = 3
            of 0 7 = 2
            of 1 2 = -5
            of 1 3 = 0
            of 1 4 = 15
            of 1 5 = 0
            of 1 6 = 1
            of 1 7 = 0
            of 2 7 = 1
            of 3 4 = 20
            of 3 6 = 0
            of 3 7 = 0
            channel 2 2 = 5
            of 0 5 = 10
            """, """
            reads 5,5;4,5=3;6,5=10;5,4=17 = 4
            rule 0 1 4 = 1
            of 0 4 = 0
            of 0 5 = -5
            """);
        doc.says("NONE", "reads 0,0 = 1\n" + Script.each("of % 0 = -1\nof % 8 = -1", "MIN", "-1", "1", "8", "MAX")
            + Script.each("of 0 % = -1", "MIN", "-1", "8", "9", "MAX"));
    }

    private static void apart() {
        doc.passes("Promise 10: apart `int apart(int a, int b)");
        doc.says("APART of two STATIONS", """
            reads 0,0;3,4;31,31 = 3
            rule 2 5 4 = 1
            apart 0 1 = 4
            apart 1 0 = 4
            apart 2 0 = 0
            apart 1 2 = 0
            rule 1 40 1 = 1
            apart 0 1 = 4
            apart 2 0 = 0     # 961 twice is more than 1600
            apart 1 2 = 1
            """);
        doc.says("NONE: none such, or the same twice", "reads 0,0;1,0 = 2\nrule 0 1 1 = 1\n"
            + Script.each("apart 0 % = -1\napart % 1 = -1\napart % % = -1", "MIN", "-1", "2", "7", "8", "MAX")
            + "apart 0 0 = -1\napart 1 1 = -1\n");
        doc.passes("Promise 11: at `int at(int x, int y)");
        doc.says("The STATION at a place (-5: none is", """
            at 0 0 = -5
            reads 0,0;31,30 = 2
            at 0 0 = 0
            at 31 30 = 1
            at 30 31 = -5
            move 1 30 31 = 2
            at 30 31 = 1
            at 31 30 = -5
            """);
        doc.says("BAD", "reads 0,0 = 1\n" + Script.each("at % 0 = -2\nat 0 % = -2", "MIN", "-1", "32", "MAX"));
    }

    private static void assign() {
        doc.passes("Promise 12: assign `int assign()");
        doc.says("ASSIGNED: how many are STUCK", "assign = 0\n", """
            reads 0,0=8;1,0=8;2,0=8!;3,0 = 4     # 1 and 3 have 17 left, 1 is the least
            rule 0 1 2 = 1
            assign = 0
            channels = 2 0 8 0
            told 2 = 0
            """, """
            reads 5,5;4,5=3!;6,5=10!;5,4=17!;5,6;20,20;21,20=3!;20,21=10! = 8
            rule 0 1 4 = 1
            assign = 1      # 5 has 14 to 19 left
            channels = - 3 10 17 0 14 3 10
            fix 1 false = 1
            assign = 0      # 0 has 0 to 6 left, then 1 and 4 have what 0 leaves
            channels = 0 4 10 17 4 14 3 10
            move 5 31 31 = 242
            assign = 0
            channels = 0 4 10 17 4 0 3 10
            """);
    }

    private static void exchange() {
        doc.passes("Promise 13: exchange `int exchange(int station, int channel)");
        doc.says("EXCHANGED: how many are in the CHAIN (-5: one is FIXED; -6: there would be more CLASHES", """
            reads 0,0=2;1,0=5;2,0=2;3,0=8!;9,9=5! = 5
            rule 0 1 3 = 1
            exchange 1 2 = 3
            channels = 5 2 5 8 5
            exchange 0 8 = 1
            channels = 8 2 5 8 5
            exchange 2 8 = -5
            exchange 3 5 = -5
            exchange 4 5 = -3
            exchange 4 6 = -5
            exchange 1 7 = -6
            channels = 8 2 5 8 5
            exchange 1 1 = 1
            """);
        doc.says("NONE: station", "reads 0,0=2 = 1\n" + Script.each("exchange % 3 = -1\nexchange % 20 = -1", "MIN", "-1",
            "1", "8", "MAX"));
        doc.says("BAD: channel", "reads 0,0=2;1,0 = 2\n" + Script.each("exchange 0 % = -2\nexchange 1 % = -2", "MIN", "-1",
            "20", "MAX") + "exchange 0 0 = 1\nexchange 0 19 = 1\n");
        doc.says("STATE: it has none, or that one", """
            reads 0,0=2;1,0;5,5=2! = 3
            exchange 0 2 = -3
            exchange 1 0 = -3
            exchange 1 19 = -3
            exchange 2 2 = -3
            exchange 2 3 = -5
            """);
    }

    private static void told() {
        doc.passes("Promise 14: told `int told(int what)");
        doc.says("What 0 STATIONS, 1 SPAN, 2 CLASHES, 3 BOUND, 4 LEAST (-5), 5 PROVED, 6 how many have a CHANNEL, 7 how many"
            + " unlike CHANNELS there are, 8 who is FIXED (bits", """
            reads 0,0=3;1,0=3;2,0=4!;8,8=15;20,20;30,30=3! = 6
            rule 0 1 2 = 1
            told 0 = 6
            told 1 = 13
            told 2 = 2
            told 3 = 3
            told 4 = 5
            told 5 = 0
            told 6 = 5
            told 7 = 3
            told 8 = 36
            channel 2 -1 = 4
            told 4 = 4      # by 3 of the last one
            channel 5 -1 = 3
            told 4 = 3
            told 5 = 1
            told 8 = 0
            rule 0 40 4 = 102
            told 3 = 17     # 0 and 5 alone are farther from each other
            told 4 = -5
            told 5 = 0
            """);
        doc.says("NONE", "reads 0,0=3! = 1\n" + Script.each("told % = -1", "MIN", "-1", "9", "10", "MAX"));
    }

    private static void cliqueAndSorted() {
        doc.passes("Promise 15: clique `int clique(int gap)");
        doc.says("CLIQUE by a GAP (bits", """
            clique 1 = 0
            reads 0,0;8,8;9,8;9,9;20,20 = 5
            clique 1 = 1
            rule 0 1 4 = 1
            clique 1 = 6
            clique 4 = 6
            rule 1 2 3 = 1
            clique 3 = 14
            clique 4 = 6
            """);
        doc.says("BAD", "reads 0,0 = 1\n" + Script.each("clique % = -2", "MIN", "-1", "0", "5", "MAX"));
        doc.passes("Promise 16: sorted `int sorted(int k)");
        doc.says("Which STATION is k-th by CHANNELS, then by numbers (-5: not so many have one", """
            sorted 0 = -5
            reads 0,0=19;1,0=7;2,0;3,0=0!;4,0=7 = 5
            sorted 0 = 3
            sorted 1 = 1
            sorted 2 = 4
            sorted 3 = 0
            sorted 4 = -5
            sorted 5 = -5
            sorted MAX = -5
            channel 2 19 = -5
            sorted 3 = 0
            sorted 4 = 2
            """);
        doc.says("NONE: k is below 0", "reads 0,0=3 = 1\nsorted -1 = -1\nsorted MIN = -1\nsorted 0 = 0\n");
    }

    private static void see() {
        doc.passes("Promise 17: see `int see(int station, int channel)");
        doc.says("What is SEEN comes: how many there are (station -1: none then, 0, whatever the rest is", """
            see -1 0 = 0
            reads 0,0;1,0 = 2
            see 1 0 = 1
            see 0 19 = 2
            count 2 = 2
            see -1 20 = 0
            count 2 = 0
            fits 0 0 = 40
            see 1 0 = 1
            see -1 -7 = 0
            see -1 MIN = 0
            """);
        doc.says("NONE", "reads 0,0 = 1\n" + Script.each("see % 0 = -1\nsee % 20 = -1", "MIN", "-2", "1", "8", "MAX"));
        doc.says("BAD: channel (0 .. 19", "reads 0,0 = 1\n" + Script.each("see 0 % = -2", "MIN", "-1", "20", "MAX"));
        doc.says("FULL: 5", """
            reads 0,0 = 1
            see 0 0 = 1
            see 0 1 = 2
            see 0 2 = 3
            see 0 3 = 4
            see 0 4 = 5
            see 0 5 = -4
            see 1 5 = -1
            see 0 20 = -2
            count 2 = 5
            see -1 0 = 0
            see 0 0 = 1
            """);
    }

    private static void fits() {
        doc.passes("Promise 18: fits `int fits(int rule, int what)");
        doc.says("FITS: what 0 how many, 1 the least NEAR; -5", """
            fits 0 0 = 40
            fits 2 1 = 1
            reads 0,0;0,7;31,7 = 3      # 7, 31 and a little less than 32 apart
            see 0 1 = 1                 # by 31 alone 1 has most others
            fits 1 0 = 1
            fits 1 1 = 31
            see -1 0 = 0
            see 1 1 = 1
            fits 1 0 = 33               # by 7 to 30, and from 32 on
            fits 1 1 = 7
            see -1 0 = 0
            see 2 2 = 1
            fits 1 0 = 9
            fits 1 1 = 32
            see 2 3 = 2
            fits 1 0 = 0
            fits 1 1 = -5
            rule 1 0 1 = 1
            """);
        doc.says("NONE", Script.each("fits % 0 = -1\nfits % 2 = -1", "MIN", "-1", "3", "MAX")
            + Script.each("fits 0 % = -1", "MIN", "-1", "2", "MAX"));
    }

    private static void oddsAndMean() {
        doc.passes("Promise 19: odds `long odds(int station, int part)");
        doc.says("ODDS; part 0 above, 1 below the line", """
            reads 0,0;1,0=9!;2,0=3 = 3
            rule 0 1 1 = 1
            odds 0 0 = 9
            odds 0 1 = 10
            odds 2 0 = 9
            odds 2 1 = 10
            odds 1 0 = 1
            odds 1 1 = 1
            channels = - 9 3
            told 8 = 2
            """);
        doc.says("NO: station, part", "odds 0 0 = NO\nreads 0,0=2 = 1\n" + Script.each("odds % 0 = NO\nodds % 2 = NO", "MIN",
            "-1", "1", "MAX") + Script.each("odds 0 % = NO", "MIN", "-1", "2", "MAX"));
        doc.passes("Promise 20: mean `long mean(int part)");
        doc.says("MEAN; part likewise", """
            reads 0,0=19;1,0=19;2,0=18;3,0 = 4
            mean 0 = 56
            mean 1 = 3
            channel 2 19 = 18
            mean 0 = 19
            mean 1 = 1
            """);
        doc.says("NO", "mean 0 = NO\nmean 1 = NO\nreads 0,0;1,0=5 = 2\n" + Script.each("mean % = NO", "MIN", "-1", "2", "MAX")
            + "channel 1 -1 = 5\nmean 0 = NO\n");
    }

    private static void plan() {
        doc.passes("Promise 21: plan `int plan(int what, int n)");
        doc.says("A row comes to the PLAN: how many there are (what -1: it is empty then, 0, whatever the rest is", """
            plan -1 0 = 0
            plan 0 0 = 1
            plan 2 40 = 2
            station 0 0 = 0
            plan 1 0 = 3
            plan 3 0 = 4
            count 3 = 4
            plan -1 MIN = 0
            count 3 = 0
            plan -1 41 = 0
            plan 2 0 = 1
            """);
        doc.says("NONE: what (0 .. 3), station (by 1, 3; by 0 n does not matter", "station 0 0 = 0\n"
            + Script.each("plan % 0 = -1", "MIN", "-2", "4", "MAX")
            + Script.each("plan 1 % = -1\nplan 3 % = -1", "MIN", "-1", "1", "8", "MAX")
            + "plan 0 MIN = 1\nplan 0 -1 = 2\nplan 0 41 = 3\nplan 0 MAX = 4\n");
        doc.says("BAD: near (by 2", Script.each("plan 2 % = -2", "MIN", "-1", "41", "MAX") + "plan 2 40 = 1\n");
        doc.says("FULL: 8", "station 0 0 = 0\n" + Script.each("plan 1 0 = %", "1", "2", "3", "4", "5", "6", "7", "8") + """
            plan 0 0 = -4
            plan 2 40 = -4
            plan 3 0 = -4
            plan 3 1 = -1
            plan 2 41 = -2
            plan 4 0 = -1
            plan -1 0 = 0
            """);
        doc.passes("Promise 22: ends `int ends(int what)");
        doc.says("ENDS: what 0 SPAN, 1 CLASHES", """
            ends 0 = 0
            ends 1 = 0
            reads 0,0=3;1,0=5;2,0=6! = 3
            rule 0 0 3 = 1
            plan 2 1 = 1
            ends 0 = 4
            ends 1 = 2
            plan 3 0 = 2
            plan 0 0 = 3
            ends 0 = 7      # 3 and 6 stay, 1 has 9
            ends 1 = 0
            plan 1 2 = 4
            plan 0 0 = 5
            ends 0 = 4      # 3 stays, 1 has 0 then, 2 has 3
            channels = 3 5 6
            told 2 = 0
            """);
        doc.says("NONE", "reads 0,0=3 = 1\n" + Script.each("ends % = -1", "MIN", "-1", "2", "MAX"));
    }

    private static void book() {
        doc.passes("Promise 23: book `int book(int station, int channel)");
        doc.says("A row comes to the BOOK: how many there are (station -1: it is empty then, 0, whatever the rest is", """
            book -1 0 = 0
            reads 0,0=4;1,0 = 2
            book 1 -1 = 1
            book 0 19 = 2
            count 4 = 2
            looked = 1
            book -1 20 = 0
            count 4 = 0
            looked = -5
            book 0 0 = 1
            book -1 MIN = 0
            """);
        doc.says("NONE", "reads 0,0 = 1\n" + Script.each("book % 0 = -1\nbook % 20 = -1", "MIN", "-2", "1", "8", "MAX"));
        doc.says("BAD: channel (-1 .. 19", "reads 0,0 = 1\n" + Script.each("book 0 % = -2", "MIN", "-5", "-2", "20", "MAX"));
        doc.says("FULL: 8", "reads 0,0=4 = 1\n" + Script.each("book 0 4 = %", "1", "2", "3", "4", "5", "6", "7", "8") + """
            book 0 5 = -4
            looked = -5
            book 1 5 = -1
            book 0 20 = -2
            book -1 0 = 0
            book 0 5 = 1
            looked = 0
            """);
        doc.passes("Promise 24: looked `int looked()");
        doc.says("LOOKED at; -5", """
            looked = -5
            reads 0,0=4;1,0;2,0=0 = 3
            book 0 4 = 1
            book 1 -1 = 2
            book 2 0 = 3
            looked = -5
            book 2 -1 = 4
            book 0 5 = 5
            looked = 3
            channel 2 -1 = 0
            looked = 2
            channel 2 0 = -5
            channel 0 5 = 4
            looked = 0
            """);
    }

    private static void judge() {
        doc.passes("Promise 25: judge `int judge(int tape, int i)");
        doc.says("JUDGED from place i of a TAPE on", """
            reads 0,0=4;1,0 = 2
            tape 5 0 60 = 1
            item 5 58 4 = 1
            item 5 59 -1 = 1
            judge 5 58 = -5
            judge 5 59 = 0
            judge 5 57 = 0
            judge 5 60 = 100
            channel 1 0 = -5
            judge 5 58 = 1
            item 5 59 4 = 1
            judge 5 59 = 101
            """);
        doc.says("NONE: tape", "station 0 0 = 0\n" + Script.each("judge % 0 = -1\njudge % -1 = -1", "MIN", "-1", "6", "MAX"));
        doc.says("CAST: it is no row of bytes", "station 0 0 = 0\n" + Script.each("""
            tape 2 % 3 = 1
            judge 2 0 = -12
            judge 2 -1 = -12
            judge 2 3 = -12
            tape 2 % 0 = 1
            judge 2 0 = -12
            """, "1", "2", "3", "4") + "tape 2 0 3 = 1\njudge 2 0 = 0\n");
    }

    private static void image() {
        doc.passes("Promise 26: image `int image()");
        doc.says("THE IMAGE is taken: how many STATIONS there are", """
            image = 0
            reads 0,0=4;1,0 = 2
            undo = 0
            told 0 = 0
            reads 0,0=4;1,0 = 2
            image = 2
            channel 0 5 = 4
            image = 2
            channel 0 6 = 5
            undo = 2
            channels = 5 -
            """, EIGHT + "image = 8\n");
        doc.passes("Promise 27: undo `int undo()");
        doc.says("All is as THE IMAGE (THE TEXT and the TAPES stay as they are): how many STATIONS", """
            reads 0,0=4!;1,0 = 2
            text 7, = 2
            tape 0 0 2 = 1
            image = 2
            text 8 = 3
            item 0 1 9 = 1
            tape 1 3 1 = 1
            channel 0 -1 = 4
            move 0 9 9 = 162
            rule 0 3 3 = 1
            undo = 2
            channels = 4 -
            told 8 = 1
            at 0 0 = 0
            rule 0 0 1 = 1
            count 5 = 3
            items 0 = 0 9
            items 1 = 0
            read = 1
            at 7 8 = 2
            undo = 2
            count 5 = 0
            at 7 8 = -5
            """);
        doc.says("STATE: there is none", "undo = -3\nreads 0,0 = 1\nundo = -3\ntold 0 = 1\nimage = 1\nundo = 1\nundo = 1\n");
    }

    private static void count() {
        doc.passes("Promise 28: count `int count(int what)");
        doc.says("How many: 0 STATIONS, 1 RULES, 2 SEEN, 3 of the PLAN, 4 of the BOOK, 5 bytes of THE TEXT", """
            reads 0,0;1,0;2,0;3,0;4,0;5,0;6,0 = 7
            rule 2 1 1 = 1
            rule 0 40 4 = 1
            see 0 0 = 1
            see 0 0 = 2
            see 0 0 = 3
            plan 0 0 = 1
            plan 0 0 = 2
            plan 0 0 = 3
            plan 0 0 = 4
            book 0 0 = 1
            text 1,1=3 = 5
            count 0 = 7
            count 1 = 2
            count 2 = 3
            count 3 = 4
            count 4 = 1
            count 5 = 5
            rule 0 0 4 = 4004
            count 1 = 1
            """);
        doc.says("BAD", Script.each("count % = -2", "MIN", "-1", "6", "7", "MAX"));
    }

    private static void tape() {
        doc.passes("Promise 29: tape `int tape(int tape, int sort, int n)");
        doc.says("A TAPE becomes a row of n (0 .. 60) of a sort, all 0, or holds nothing (sort -1: n does not matter): 1",
            Script.each("""
            tape 3 % 60 = 1
            peek 3 59 = 0
            peek 3 60 = NO
            item 3 0 1 = 1
            item 3 59 1 = 1
            peek 3 59 = 1
            tape 3 % 60 = 1
            peek 3 0 = 0
            peek 3 59 = 0
            tape 3 % 0 = 1
            peek 3 0 = NO
            item 3 0 1 = -13
            """, "0", "1", "2", "3", "4"), """
            tape 0 3 2 = 1
            item 0 1 7 = 1
            tape 0 -1 61 = 1
            peek 0 1 = NO
            item 0 1 7 = -11
            tape 0 -1 -1 = 1
            tape 0 -1 MIN = 1
            tape 0 -1 MAX = 1
            tape 0 3 2 = 1
            items 0 = 0 0
            """);
        doc.says("NONE: tape", Script.each("tape % 0 1 = -1\ntape % -1 0 = -1\ntape % 5 61 = -1", "MIN", "-1", "6", "MAX"));
        doc.says("BAD: sort, n above 60", "tape 0 2 1 = 1\nitem 0 0 5 = 1\n" + Script.each("tape 0 % 1 = -2\ntape 0 % -1 = -2",
            "MIN", "-2", "5", "MAX") + Script.each("tape 0 % 61 = -2\ntape 0 % MAX = -2", "0", "1", "2", "3", "4")
            + "items 0 = 5\n");
        doc.says("SIZE", "tape 0 2 1 = 1\n" + Script.each("tape 0 % -1 = -14\ntape 0 % MIN = -14", "0", "1", "2", "3", "4")
            + "items 0 = 0\n");
    }

    private static void item() {
        doc.passes("Promise 30: item `int item(int tape, int i, long v)");
        doc.says("Item i of a TAPE becomes v (its lowest bits, as many as an item has; booleans: whether v is not 0): 1",
            Script.each("""
            tape % % 6 = 1
            item % 0 127 = 1
            item % 1 128 = 1
            item % 2 256 = 1
            item % 3 65535 = 1
            item % 4 2147483648 = 1
            item % 5 -4611686018427387904 = 1
            """, "0", "1", "2", "3", "4") + """
            items 0 = 127 -128 0 -1 0 0
            items 1 = 127 128 256 -1 0 0
            items 2 = 127 128 256 65535 -2147483648 0
            items 3 = 127 128 256 65535 2147483648 -4611686018427387904
            items 4 = 1 1 1 1 1 1
            item 4 3 0 = 1
            items 4 = 1 1 1 0 1 1
            """);
        doc.says("NONE", Script.each("item % 0 1 = -1", "MIN", "-1", "6", "MAX"));
        doc.says("NOTHING", "item 5 0 1 = -11\nitem 5 -1 1 = -11\nitem 5 MAX 1 = -11\ntape 5 4 1 = 1\nitem 5 0 1 = 1\n");
        doc.says("PLACE", "tape 5 1 3 = 1\n" + Script.each("item 5 % 1 = -13", "MIN", "-1", "3", "MAX") + "items 5 = 0 0 0\n");
        doc.passes("Promise 31: peek `long peek(int tape, int i)");
        doc.says("Item i of a TAPE", "tape 1 3 3 = 1\nitem 1 2 LMAX = 1\nitem 1 0 -9 = 1\npeek 1 0 = -9\npeek 1 1 = 0\n"
            + "peek 1 2 = LMAX\n");
        doc.says("NO: no such TAPE, nothing there, no such place", Script.each("peek % 0 = NO", "MIN", "-1", "6", "MAX")
            + "peek 1 0 = NO\ntape 1 3 3 = 1\n" + Script.each("peek 1 % = NO", "MIN", "-1", "3", "MAX")
            + "peek 1 0 = 0\ntape 1 -1 0 = 1\npeek 1 0 = NO\n");
    }

    private static void shift() {
        String row = "tape 0 2 6 = 1\nitem 0 0 1 = 1\nitem 0 1 2 = 1\nitem 0 2 3 = 1\nitem 0 3 4 = 1\nitem 0 4 5 = 1\n";
        doc.passes("Promise 32: shift `int shift(int tape, int i, int other, int j, int n)");
        doc.says("n items of a TAPE from i on come to another one (or the same) from j on, as they all were before: n", row + """
            tape 5 2 3 = 1
            shift 0 1 5 0 3 = 3
            items 5 = 2 3 4
            items 0 = 1 2 3 4 5 0
            shift 0 0 0 2 4 = 4
            items 0 = 1 2 1 2 3 4
            shift 0 2 0 1 4 = 4
            items 0 = 1 1 2 3 4 4
            shift 0 6 5 3 0 = 0
            shift 5 0 0 0 3 = 3
            items 0 = 2 3 4 3 4 4
            """);
        doc.says("NONE: tapes", row + Script.each("shift % 0 0 0 1 = -1\nshift 0 0 % 0 1 = -1\nshift % 0 1 0 1 = -1", "MIN",
            "-1", "6", "MAX"));
        doc.says("NOTHING", row + "shift 1 0 0 0 1 = -11\nshift 0 0 1 0 1 = -11\nshift 1 0 1 0 0 = -11\nshift 1 -1 0 0 -1 = -11\n");
        doc.says("CAST: of unlike sorts", row + Script.each("tape 1 % 6 = 1\nshift 0 0 1 0 1 = -12\nshift 1 0 0 0 0 = -12\n"
            + "shift 0 -1 1 0 9 = -12", "0", "1", "3", "4") + "items 0 = 1 2 3 4 5 0\n");
        doc.says("PLACE: n, i or j is below 0, or beyond either's end", row + "tape 1 2 2 = 1\n" + """
            shift 0 0 1 0 3 = -13
            shift 1 0 0 0 3 = -13
            shift 0 5 0 0 2 = -13
            shift 0 0 0 5 2 = -13
            shift 0 0 1 2 1 = -13
            shift 0 7 1 0 0 = -13
            shift 0 0 1 3 0 = -13
            shift 0 0 1 0 -1 = -13
            shift 0 -1 1 0 1 = -13
            shift 0 0 1 -1 1 = -13
            shift 0 -1 1 0 0 = -13
            shift 0 MAX 0 0 1 = -13
            shift 0 0 0 MAX 1 = -13
            shift 0 1 0 1 MAX = -13
            shift 0 0 0 0 MIN = -13
            shift 0 MIN 0 0 1 = -13
            items 1 = 0 0
            items 0 = 1 2 3 4 5 0
            """);
    }
}
