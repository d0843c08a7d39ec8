import java.lang.reflect.Method;
import java.lang.reflect.Modifier;
import java.util.HashSet;
import java.util.Set;

/** The document from its first line to the last ahead of promise 1, piece by piece, each with a run of its own. */
final class DocumentTermsTest {
    private static final Checks c = new Checks();
    private static final Document doc = new Document(c, "GapStations What it is", "Promise 1: A new object");
    private static final String[] FACE = {
        "public int station(int x, int y)", "public int rule(int rule, int near, int gap)",
        "public int channel(int station, int channel)", "public int fix(int station, boolean isFixed)",
        "public int move(int station, int x, int y)", "public int feed(int sign)", "public int read()",
        "public int of(int station, int what)", "public int apart(int a, int b)", "public int at(int x, int y)",
        "public int assign()", "public int exchange(int station, int channel)", "public int told(int what)",
        "public int clique(int gap)", "public int sorted(int k)", "public int see(int station, int channel)",
        "public int fits(int rule, int what)", "public long odds(int station, int part)",
        "public long mean(int part)", "public int plan(int what, int n)", "public int ends(int what)",
        "public int book(int station, int channel)", "public int looked()", "public int judge(int tape, int i)",
        "public int image()", "public int undo()", "public int count(int what)",
        "public int tape(int tape, int sort, int n)", "public int item(int tape, int i, long v)",
        "public long peek(int tape, int i)", "public int shift(int tape, int i, int other, int j, int n)"};

    public static void main(String[] args) {
        whatItIs();
        face();
        stations();
        rules();
        apart();
        clashesAndAllowed();
        assigned();
        exchanged();
        texts();
        faults();
        cliquesAndBounds();
        leastWidths();
        seenAndOdds();
        plans();
        books();
        theImage();
        tapes();
        refusals();
        doc.end();
        c.end();
    }

    private static void whatItIs() {
        doc.passes("GapStations What it is");
        doc.says("Frequency assigner for stations: stations on a plane, rules by which those near each other must be"
            + " apart in channels; orders by who has least left, exchanges along chains of two channels, cliques that"
            + " prove how wide it must be, the least width by search, those that are fixed; clashes told, what is"
            + " allowed, texts, other distances by which it goes as seen, odds, means, plans, books, channels told by"
            + " hand looked at, an image", """
            station 0 0 = 0
            reads 3,0;6,0=0! = 2
            rule 0 3 2 = 1
            assign = 0
            channels = 0 2 0
            exchange 0 3 = -6
            told 2 = 0
            exchange 0 4 = 1
            channels = 4 2 0
            clique 2 = 3
            told 3 = 3
            told 4 = 3
            told 5 = 1
            of 1 4 = 15     # 0, 1 and 3, 4, 5 are ruled out
            of 1 5 = 2
            see 1 2 = 1
            fits 0 0 = 3    # by 3, 4, 5
            odds 1 0 = 4    # all but 0 and 1
            mean 0 = 2
            plan 0 0 = 1
            ends 0 = 3
            book 1 2 = 1
            looked = -5
            tape 0 0 3 = 1
            judge 0 0 = 0
            image = 3
            move 0 9 9 = 162
            undo = 3
            at 9 9 = -5
            """);
        doc.passes("An object is used for at most 512 calls after it has been made");
        lastCalls();
        doc.passes("what later calls answer is free");
    }

    /** 511 calls, and then each that asks, as the last one that is promised. */
    private static void lastCalls() {
        String start = "reads 0,0=3;1,0=5 = 2\nrule 0 1 2 = 1\ntape 0 0 2 = 1\n";
        int made = "0,0=3;1,0=5".length() + 3;
        String turns = "channel 0 4 = 3\nchannel 0 3 = 4\n".repeat((Script.MOST_CALLS - 1 - made) / 2);
        String odd = (Script.MOST_CALLS - 1 - made) % 2 == 0 ? "" : "channel 1 5 = 5\n";
        String[] last = {"of 0 4 = 17", "apart 0 1 = 2", "at 1 0 = 1", "assign = 0", "exchange 0 0 = 1", "told 4 = 3",
            "clique 2 = 3", "sorted 1 = 1", "see 0 0 = 1", "fits 0 0 = 40", "odds 0 1 = 1", "mean 0 = 4",
            "plan 0 0 = 1", "ends 0 = 3", "book 0 3 = 1", "looked = -5", "judge 0 0 = 0", "image = 2", "undo = -3",
            "count 0 = 2", "tape 1 1 1 = 1", "item 0 0 3 = 1", "peek 0 1 = 0", "shift 0 0 0 1 1 = 1", "station 9 9 = 2",
            "rule 1 1 1 = 1", "channel 0 8 = 3", "fix 0 true = 0", "move 0 0 1 = 1", "feed 48 = 1", "read = -10"};
        for (String line : last) {
            Script.answers(c, "the 512th call", start + turns + odd + line, Script.MOST_CALLS);
        }
    }

    private static void face() {
        doc.passes("The public face public final class GapStations {");
        c.due("public final", GapStations.class.getModifiers(), Modifier.PUBLIC | Modifier.FINAL);
        doc.passes("public static final int NONE = -1, BAD = -2, STATE = -3, FULL = -4");
        c.due("NONE", GapStations.NONE, -1);
        c.due("BAD", GapStations.BAD, -2);
        c.due("STATE", GapStations.STATE, -3);
        c.due("FULL", GapStations.FULL, -4);
        doc.passes("public static final long NO = Long.MIN_VALUE");
        c.due("NO", GapStations.NO, -9223372036854775808L);
        doc.passes("public GapStations()");
        c.due("constructors", GapStations.class.getConstructors().length, 1);
        c.due("numbers it takes", GapStations.class.getConstructors()[0].getParameterCount(), 0);
        Set<String> found = new HashSet<>();
        for (Method method : GapStations.class.getDeclaredMethods()) {
            if (Modifier.isPublic(method.getModifiers())) {
                found.add(method.toString().replace("GapStations.", "").replace(",", ", "));
            }
        }
        for (String signature : FACE) {
            doc.passes(signature);
            c.due(signature, found.contains(signature.replaceAll(" \\w+(?=[,)])", "")) ? 1 : 0, 1);
        }
        c.due("so many methods", found.size(), FACE.length);
        doc.passes("} Terms");
    }

    private static void stations() {
        doc.says("1 STATIONS 0 .. 7", Script.each("station % 0 = %", "0", "1", "2", "3", "4", "5", "6", "7") + """
            told 0 = 8
            of 7 0 = 7
            of 8 0 = -1
            station 9 9 = -4
            """);
        doc.says("as they come", """
            station 9 9 = 0
            station 3 1 = 1
            station 20 0 = 2
            at 20 0 = 2
            at 9 9 = 0
            """);
        doc.says("each at a place x, y (0 .. 31", """
            station 0 31 = 0
            station 31 0 = 1
            of 0 0 = 0
            of 0 1 = 31
            of 1 0 = 31
            of 1 1 = 0
            station 32 0 = -2
            station 0 32 = -2
            station -1 0 = -2
            station 0 -1 = -2
            told 0 = 2
            """);
        doc.says("no two at the same", """
            station 7 8 = 0
            station 7 8 = -3
            station 8 7 = 1
            move 1 7 8 = -3
            reads 7,8;8,8 = 1
            at 7 8 = 0
            told 0 = 3
            """);
        doc.says("with a CHANNEL 0 .. 19 or none", """
            station 1 1 = 0
            channel 0 0 = -5
            channel 0 19 = 0
            channel 0 20 = -2
            channel 0 -2 = -2
            of 0 2 = 19
            channel 0 -1 = 19
            of 0 2 = -5
            """);
        doc.says("none at first", "station 1 1 = 0\nof 0 2 = -5\nreads 2,2 = 1\nof 1 2 = -5\ntold 6 = 0\n");
        doc.says("FIXED or not", "reads 1,1=4 = 1\nfix 0 true = 0\nof 0 3 = 1\nfix 0 false = 1\nof 0 3 = 0\n");
        doc.says("not at first", """
            station 1 1 = 0
            of 0 3 = 0
            channel 0 4 = -5
            of 0 3 = 0
            reads 2,2=4 = 1
            of 1 3 = 0
            told 8 = 0
            """);
    }

    private static void rules() {
        doc.says("RULES 0 .. 2", """
            rule 0 1 1 = 1
            rule 1 1 1 = 1
            rule 2 1 1 = 1
            rule 3 1 1 = -1
            rule -1 1 1 = -1
            count 1 = 3
            """);
        doc.says("each with NEAR (0 .. 40", """
            rule 1 40 2 = 1
            rule 1 41 2 = -2
            rule 1 -1 2 = -2
            rule 1 0 2 = 4002
            rule 1 0 2 = 2
            """);
        doc.says("0: it is no RULE, as all are at first", """
            reads 4,4;4,5 = 2
            count 1 = 0
            apart 0 1 = 0
            rule 0 0 4 = 1
            count 1 = 0
            apart 0 1 = 0
            of 0 6 = 0
            rule 0 1 4 = 4
            count 1 = 1
            apart 0 1 = 4
            """);
        doc.says("and a GAP (1 .. 4", """
            rule 2 9 4 = 1
            rule 2 9 5 = -2
            rule 2 9 0 = -2
            rule 2 9 1 = 904
            rule 2 9 1 = 901
            """);
        doc.says("1 at first", "rule 0 3 4 = 1\nrule 1 3 4 = 1\nrule 2 3 4 = 1\n");
    }

    private static void apart() {
        doc.says("APART of two STATIONS: the greatest GAP of the RULES by which they are no farther from each other"
            + " than NEAR", """
            reads 10,10;10,12;10,15;10,19 = 4
            rule 0 2 1 = 1
            rule 1 5 3 = 1
            rule 2 9 2 = 1
            apart 0 1 = 3
            apart 0 2 = 3
            apart 0 3 = 2
            apart 1 2 = 3
            apart 2 3 = 3
            apart 1 3 = 2
            apart 3 1 = 2
            rule 1 5 1 = 503
            apart 0 1 = 2
            apart 2 3 = 2
            """);
        doc.says("the square of how far x are, and of how far y are, together, is no more than NEAR times NEAR", """
            reads 0,0;6,8;7,8;6,9;10,0;0,10;0,11 = 7
            rule 0 10 2 = 1
            apart 0 1 = 2
            apart 0 2 = 0     # 49 and 64
            apart 0 3 = 0     # 36 and 81
            apart 0 4 = 2
            apart 0 5 = 2
            apart 0 6 = 0
            rule 0 9 2 = 1002
            apart 0 1 = 0
            apart 0 4 = 0
            """);
        doc.says("0: there is none", """
            reads 0,0;5,0 = 2
            apart 0 1 = 0
            rule 0 4 3 = 1
            apart 0 1 = 0
            rule 0 5 3 = 403
            apart 0 1 = 3
            """);
    }

    private static void clashesAndAllowed() {
        doc.says("A CLASH: two STATIONS with CHANNELS that are nearer each other than APART", """
            reads 3,3=10;3,4=12;9,9=10;3,5 = 4
            rule 0 1 3 = 1
            told 2 = 1
            of 0 7 = 1
            of 1 7 = 1
            of 2 7 = 0
            of 3 7 = 0
            channel 1 13 = 12
            told 2 = 0
            channel 1 7 = 13
            told 2 = 0
            channel 1 8 = 7
            told 2 = 1
            """);
        doc.says("so like ones, by APART 1", """
            reads 3,3=10;3,4=10;3,5=11 = 3
            rule 0 1 1 = 1
            told 2 = 1
            channel 1 11 = 10
            told 2 = 1
            of 0 7 = 0
            of 2 7 = 1
            """);
        doc.says("ALLOWED for a STATION: CHANNELS by which it has no CLASH with another one that has one", """
            reads 5,5=0;5,6=10;5,7;6,6 = 4
            rule 0 1 3 = 1
            of 0 4 = 15     # all but 8 to 12
            of 0 5 = 0
            of 1 4 = 17     # all but 0 to 2
            of 1 5 = 3
            of 2 4 = 15
            channel 1 2 = 10
            of 0 4 = 15     # all but 0 to 4
            of 0 5 = 5
            channel 1 -1 = 2
            of 0 4 = 20
            """);
        doc.says("SPAN: from the least CHANNEL to the greatest, both counted", """
            reads 0,0=4;1,0=9;2,0 = 3
            told 1 = 6
            channel 2 3 = -5
            told 1 = 7
            channel 1 4 = 9
            told 1 = 2
            channel 2 4 = 3
            told 1 = 1
            """);
        doc.says("0: nobody has one", """
            told 1 = 0
            reads 0,0;1,1 = 2
            told 1 = 0
            channel 0 0 = -5
            told 1 = 1
            channel 0 -1 = 0
            told 1 = 0
            """);
    }

    private static void assigned() {
        doc.says("ASSIGNED: those not FIXED have none", """
            reads 0,0=5!;9,9=7;20,20=9 = 3
            assign = 0
            channels = 5 0 0
            told 8 = 1
            """);
        doc.says("then, again and again, of STATIONS that have none, and aren't STUCK, that for which fewest CHANNELS"
            + " are ALLOWED", """
            reads 5,5;5,6;5,7=1!;4,5;6,5 = 5     # 1 has fewest, 0 has most others
            rule 0 1 1 = 1
            assign = 0
            channels = 1 0 1 0 0
            """, """
            reads 0,3;1,3;0,4;0,2;0,1;0,0=0! = 6     # 4 comes, then 3 has fewer than 0
            rule 0 1 1 = 1
            assign = 0
            channels = 1 0 0 0 1 0
            """);
        doc.says("of several that with most others from which it is to be APART (at all", """
            reads 0,0;1,0;2,0 = 3
            rule 0 1 2 = 1
            assign = 0
            channels = 2 0 2
            """, """
            reads 10,10;11,10;13,10;15,10;13,12 = 5     # 2 has three by 1; 1 has two, by 4 and 1
            rule 0 1 4 = 1
            rule 1 2 1 = 1
            assign = 0
            channels = 5 1 0 1 1
            """);
        doc.says("of several the least number", "reads 0,0;1,0 = 2\nrule 0 1 1 = 1\nassign = 0\nchannels = 0 1\n");
        doc.says("has the least ALLOWED", """
            reads 5,5;4,5=0!;6,5=1!;5,4=3! = 4
            rule 0 1 1 = 1
            assign = 0
            channels = 2 0 1 3
            """);
        doc.says("if none is, it is STUCK", """
            reads 5,5=6;4,5=3!;6,5=10!;5,4=17!;5,6=9 = 5
            rule 0 1 4 = 1
            assign = 1
            channels = - 3 10 17 0
            """);
    }

    private static void exchanged() {
        doc.says("EXCHANGED: a STATION and a CHANNEL c, other than its own: its CHAIN: itself", """
            reads 9,9=4;20,20=7 = 2
            exchange 0 7 = 1
            channels = 7 7
            exchange 0 7 = -3
            exchange 0 4 = 1
            channels = 4 7
            """);
        doc.says("and, on and on, whoever is to be APART from one in it and has the other one of the two CHANNELS (its"
            + " own, c)", """
            reads 0,0=2;1,0=5;2,0=2;3,0=5;4,0=8;5,0=2;9,9=5 = 7
            rule 0 1 1 = 1
            exchange 0 5 = 4
            channels = 5 2 5 2 8 2 5
            """, """
            reads 2,0=2;1,0=5;0,0=2;0,1 = 4     # against the numbers, farther APART than like ones
            rule 0 1 2 = 1
            exchange 0 5 = 3
            channels = 5 2 5 -
            """, """
            reads 0,0=2;1,0=2;2,0=5 = 3     # 2 is not the other one of 2 and 5
            rule 0 1 1 = 1
            exchange 0 5 = 1
            channels = 5 2 5
            """);
        doc.says("If nobody in the CHAIN is FIXED: each in it has the other one of the two", """
            reads 0,0=2;1,0=5;2,0=2! = 3
            rule 0 1 1 = 1
            exchange 0 5 = -5
            exchange 1 2 = -5
            exchange 2 5 = -5
            channels = 2 5 2
            exchange 0 7 = 1
            channels = 7 5 2
            fix 2 false = 1
            exchange 1 2 = 2
            channels = 7 2 5
            """);
        doc.says("but if there are more CLASHES then than ahead, all is as ahead", """
            reads 0,0=2;1,0=5;2,0=9 = 3
            rule 0 1 4 = 1
            told 2 = 1
            exchange 0 9 = 1
            channels = 9 5 9
            told 2 = 0
            exchange 0 2 = -6
            channels = 9 5 9
            channel 0 2 = 9
            exchange 0 3 = 1     # as many as ahead
            channels = 3 5 9
            """);
    }

    private static void texts() {
        doc.says("STATIONS are read from THE TEXT (bytes, 100 at most", "text " + "0,".repeat(50) + """
             = 100
            feed 48 = -4
            count 5 = 100
            read = -13
            count 5 = 0
            """);
        doc.says("CLAUSES, 1 to 8, with ; between", """
            reads 1,1 = 1
            reads 2,1;3,1;4,1;5,1;6,1;7,1;8,1 = 7
            at 8 1 = 7
            """, """
            reads 0,0;1,0;2,0;3,0;4,0;5,0;6,0;7,0; = -41
            reads 0,0;1,0;2,0;3,0;4,0;5,0;6,0;7,0 = 8
            at 7 0 = 7
            """, "reads 1,1 2,2 = -13\nreads 1,1,2,2 = -13\nreads ;1,1 = -10\n");
        doc.says("x , y (1 or 2 digits each, 0 .. 31", """
            reads 0,31;31,0;07,9;09,00 = 4
            at 0 31 = 0
            at 31 0 = 1
            at 7 9 = 2
            at 9 0 = 3
            reads 1,32 = -13
            reads 32,1 = -11
            reads 001,1 = -12
            reads 1,001 = -14
            reads ,1 = -10
            reads 1,;2,2 = -12
            """);
        doc.says("then, perhaps, = and a CHANNEL (1 or 2 digits, 0 .. 19", """
            reads 1,1=0;2,2=19;3,3=07;4,4 = 4
            channels = 0 19 7 -
            reads 5,5=20 = -15
            reads 5,5= = -14
            reads 5,5=1;6,6=190 = -22
            """);
        doc.says("then, perhaps, ! (it is FIXED; only behind a CHANNEL", """
            reads 1,1=3!;2,2=3 = 2
            told 8 = 1
            reads 3,3! = -13
            reads 3,3=! = -14
            reads 3,3=4!! = -16
            told 0 = 2
            reads 3,3=4 = 1
            told 8 = 1
            """);
        doc.says("No blanks", "reads  1,1 = -10\nreads 1 ,1 = -11\nreads 1, 1 = -12\nreads 1,1 ;2,2 = -13\n"
            + "reads 1,1; 2,2 = -14\nreads 1,1 =3 = -13\nreads 1,1= 3 = -14\nreads 1,1=3 ! = -15\n");
    }

    private static void faults() {
        doc.says("The FAULT: the place of the first byte with which none begins so", """
            reads 1;1 = -11
            reads 12,3:4 = -14
            reads 1,1=5;x = -16
            reads 1,1;;2,2 = -14
            reads -1,1 = -10
            """);
        doc.says("the end of THE TEXT, if it ends too early", """
            read = -10
            reads 1 = -11
            reads 12 = -12
            reads 12, = -13
            reads 1,1; = -14
            reads 1,1= = -14
            """);
        doc.says("of a number that is too great its second digit", """
            reads 32,1 = -11
            reads 99,1 = -11
            reads 1,40 = -13
            reads 1,1=20 = -15
            reads 1,1=99! = -15
            """);
        doc.says("Each comes then, one behind the other", """
            reads 5,5=1;4,4=2!;3,3 = 3
            at 5 5 = 0
            at 4 4 = 1
            at 3 3 = 2
            channels = 1 2 -
            told 8 = 2
            reads 2,2 = 1
            at 2 2 = 3
            reads 1,1;9 = -15
            told 0 = 4
            """);
        doc.says("those that would be refused don't", """
            reads 5,5=1 = 1
            reads 5,5=2!;6,6=3;6,6=4! = 1
            channels = 1 3
            told 8 = 0
            reads 1,0;2,0;3,0;4,0;5,0;6,0;7,0=9! = 6
            told 0 = 8
            told 8 = 0
            reads 9,9 = 0
            """);
    }

    private static void cliquesAndBounds() {
        doc.says("2 All that follows is asked, and changes nothing", """
            reads 0,0=3;1,0=5!;2,0=3;9,9 = 4
            rule 0 1 2 = 1
            see 0 3 = 1
            plan 0 0 = 1
            plan 1 1 = 2
            book 0 2 = 1
            clique 2 = 3
            told 3 = 3
            told 4 = 6
            told 5 = 0
            fits 0 0 = 0
            odds 3 0 = 1
            mean 0 = 11
            ends 0 = 1     # 0 is left
            looked = 0
            channels = 3 5 3 -
            """);
        doc.says("CLIQUE by a GAP g (1 .. 4): the most STATIONS of which each two are to be APART by g or more", """
            reads 0,0;9,9;9,10;10,9;20,20;20,21 = 6
            rule 0 2 2 = 1
            clique 1 = 14
            clique 2 = 14
            clique 3 = 1
            rule 1 1 4 = 1
            clique 2 = 14
            clique 3 = 6
            clique 4 = 6
            clique 0 = -2
            clique 5 = -2
            """);
        doc.says("as bits; of several the least", """
            reads 0,0;0,1;9,9;9,10 = 4
            rule 0 1 1 = 1
            clique 1 = 3
            move 0 5 0 = 25
            clique 1 = 12
            clique 2 = 1
            """);
        doc.says("BOUND: the greatest, by g, of: (as many as CLIQUE has, less 1) times g, and 1 more", """
            reads 0,0;2,0;4,0;6,0 = 4
            told 3 = 1
            rule 0 6 1 = 1
            told 3 = 4     # four by 1
            rule 1 4 2 = 1
            told 3 = 5     # three by 2
            rule 2 2 4 = 1
            told 3 = 5     # three by 2, or two by 4
            rule 2 4 4 = 204
            told 3 = 9     # three by 4
            rule 2 4 3 = 404
            told 3 = 7     # three by 3
            """);
        doc.says("0: no STATIONS", "told 3 = 0\nstation 0 0 = 0\ntold 3 = 1\n");
    }

    private static void leastWidths() {
        doc.says("LEAST: the least k (1 .. 12) by which all STATIONS can have CHANNELS 0 .. k less 1 without a CLASH", """
            reads 0,0 = 1
            told 4 = 1
            reads 1,0;2,0 = 2
            rule 0 1 4 = 1
            told 4 = 5      # 0 4 0
            rule 1 2 3 = 1
            told 4 = 8      # 0 7 3
            rule 1 2 4 = 203
            told 4 = 9      # 0 4 8
            reads 1,3 = 1
            rule 2 4 3 = 1
            told 3 = 10
            told 4 = 11     # 0 6 10, and 3
            rule 2 4 4 = 403
            told 4 = -5     # 0 4 8 12
            """, """
            reads 0,0;4,0;0,4;2,2 = 4     # 3 and each other one, 0 and 1, 0 and 2 by 4, 1 and 2 by 3
            rule 0 40 3 = 1
            rule 1 4 4 = 1
            told 4 = 12     # 0 3 7 11
            move 3 9 9 = 98
            told 4 = 10     # 0 and 1, 0 and 2 by 4, all others by 3: 1, 2, 3, 0 have 0 3 6 9
            """);
        doc.says("those FIXED what they have", """
            reads 0,0=6!;9,9 = 2
            told 4 = 7
            fix 0 false = 1
            told 4 = 1
            channel 0 11 = 6
            fix 0 true = 0
            told 4 = 12
            move 1 0 1 = 145
            rule 0 1 4 = 1
            told 4 = 12
            """);
        doc.says("-5: none; 0: no STATIONS", """
            told 4 = 0
            reads 0,0=12! = 1
            told 4 = -5
            channel 0 -1 = 12
            told 4 = 1
            reads 0,2=2!;0,3=2! = 2
            told 4 = 3
            rule 0 1 1 = 1
            told 4 = -5
            """);
        doc.says("PROVED: whether LEAST is BOUND", """
            told 5 = 1
            reads 2,0;4,2;3,4;1,4;0,2 = 5     # a ring of five
            told 5 = 1
            rule 0 3 1 = 1
            told 3 = 2
            told 4 = 3
            told 5 = 0
            rule 0 40 1 = 301
            told 5 = 1
            rule 0 40 4 = 4001
            told 5 = 0     # 17, and none
            """);
    }

    private static void seenAndOdds() {
        doc.says("SEEN told by hand: a STATION, a CHANNEL (5 rows at most", """
            reads 0,0;1,1 = 2
            see 0 3 = 1
            see 1 0 = 2
            see 0 3 = 3
            see 0 4 = 4
            see 1 19 = 5
            see 0 0 = -4
            count 2 = 5
            """);
        doc.says("FITS of a RULE: how many NEAR 1 .. 40 there are by which, were that its NEAR, ASSIGNED all of SEEN"
            + " would be so", """
            reads 0,0;3,0;6,0 = 3     # 0 0 0 up to 2, 1 0 1 up to 5, 0 1 2 from 6 on
            fits 0 0 = 40
            see 1 0 = 1
            fits 0 0 = 5
            see 0 1 = 2
            fits 0 0 = 3
            see 2 1 = 3
            fits 0 0 = 3
            see -1 0 = 0
            see 2 2 = 1
            fits 0 0 = 35
            fits 2 0 = 35
            see 0 1 = 2
            fits 0 0 = 0
            channels = - - -
            """, """
            reads 0,0;4,3 = 2     # 0 0, and 0 1 from 5 on
            see 1 1 = 1
            fits 0 0 = 36
            see -1 0 = 0
            see 1 0 = 1
            fits 0 0 = 4
            """, """
            reads 0,0;3,0;6,0 = 3     # by RULE 1 it is 2 0 2 already
            rule 1 3 2 = 1
            rule 0 9 1 = 1
            see 0 2 = 1
            fits 0 0 = 5     # with 1 APART from 0 and 2 alike by 6 it is 0 2 4
            fits 1 0 = 0     # by 9, 1 it is never 2 for 0
            """);
        doc.says("the least (-5: none", """
            reads 0,0;3,0;6,0 = 3
            fits 0 1 = 1
            see 0 1 = 1
            fits 0 1 = 3
            see 2 2 = 2
            fits 0 1 = -5
            see -1 0 = 0
            see 2 2 = 1
            fits 0 1 = 6
            """);
        doc.says("ODDS of a STATION: were it FIXED at any of CHANNELS 0 .. 9, each alike likely: how likely it is that,"
            + " ASSIGNED, nobody is STUCK, and there is no CLASH", """
            reads 1,0;2,0;3,0=10!;2,1=17! = 4
            rule 0 1 4 = 1
            odds 0 0 = 9     # by 3 the other is STUCK
            odds 0 1 = 10
            odds 1 0 = 7     # 7, 8 and 9 CLASH
            odds 1 1 = 10
            channels = - - 10 17
            """);
        doc.says("a fraction in lowest terms", """
            reads 0,0;1,0=3! = 2
            odds 0 0 = 1
            odds 0 1 = 1
            rule 0 1 3 = 1
            odds 0 0 = 1     # all but 1 to 5
            odds 0 1 = 2
            rule 0 1 4 = 103
            odds 0 0 = 3     # all but 0 to 6
            odds 0 1 = 10
            reads 0,1=10! = 1
            odds 0 0 = 0
            odds 0 1 = 1
            """);
        doc.says("MEAN of CHANNELS, by how many have one", """
            reads 0,0=4;1,0=7;2,0 = 3
            mean 0 = 11
            mean 1 = 2
            channel 2 1 = -5
            mean 0 = 4
            mean 1 = 1
            """, "reads 0,0;1,0=19;2,0 = 3\nmean 0 = 19\nmean 1 = 1\n");
        doc.says("a fraction in lowest terms", """
            reads 0,0=2;1,0=4;2,0=0;3,0=0 = 4
            mean 0 = 3
            mean 1 = 2
            channel 0 0 = 2
            channel 1 0 = 4
            mean 0 = 0
            mean 1 = 1
            """);
        doc.says("NO: nobody has", "mean 0 = NO\nreads 0,0;1,0=0 = 2\nchannel 1 -1 = 0\nmean 0 = NO\nmean 1 = NO\n");
    }

    private static void plans() {
        doc.says("A PLAN told by hand: what goes (0 all are ASSIGNED", """
            reads 0,0=9;1,0=9 = 2
            rule 0 1 1 = 1
            ends 0 = 1
            ends 1 = 1
            plan 0 0 = 1
            ends 0 = 2
            ends 1 = 0
            channels = 9 9
            """);
        doc.says("1 STATION n has no CHANNEL, and isn't FIXED", """
            reads 0,0=9!;1,0=3!;5,5=4 = 3
            plan 1 0 = 1
            ends 0 = 2
            plan 0 0 = 2
            ends 0 = 4     # 0 is assigned 0
            channels = 9 3 4
            told 8 = 3
            """);
        doc.says("2 NEAR of RULE 0 is n", """
            reads 0,0=5;2,0=5 = 2
            rule 0 1 2 = 1
            ends 1 = 0
            plan 2 2 = 1
            ends 1 = 1
            plan 0 0 = 2
            ends 0 = 3
            ends 1 = 0
            plan 2 0 = 3
            plan 0 0 = 4
            ends 0 = 1
            rule 0 1 2 = 102
            """);
        doc.says("3 STATION n, if it has a CHANNEL, is FIXED", """
            reads 0,0=5;2,0 = 2
            plan 3 0 = 1
            plan 3 1 = 2
            plan 0 0 = 3
            ends 0 = 6
            told 8 = 0
            """);
        doc.says("8 rows at most", "station 0 0 = 0\n" + Script.each("plan 0 9 = %", "1", "2", "3", "4", "5", "6", "7",
            "8") + "plan 1 0 = -4\ncount 3 = 8\nends 0 = 1\n");
        doc.says("ENDS: SPAN; CLASHES", """
            reads 0,0=5;2,0=5;4,0=9 = 3
            rule 0 2 1 = 1
            ends 0 = 5
            ends 1 = 1
            plan 2 1 = 1
            ends 0 = 5
            ends 1 = 0
            """);
    }

    private static void books() {
        doc.says("A BOOK told by hand: STATIONS, CHANNELS (-1: none; 8 rows at most", """
            reads 0,0=5;2,0 = 2
            book 1 -1 = 1
            book 0 5 = 2
            book 0 0 = 3
            book 0 19 = 4
            book 0 20 = -2
            book 0 -2 = -2
            book 1 0 = 5
            book 1 0 = 6
            book 1 0 = 7
            book 1 0 = 8
            book 1 0 = -4
            count 4 = 8
            """);
        doc.says("LOOKED at: the number (from 0) of the first of these rows by which it is otherwise now (-5: none", """
            reads 0,0=5;2,0 = 2
            looked = -5
            book 1 -1 = 1
            book 0 5 = 2
            looked = -5
            channel 0 4 = 5
            looked = 1
            channel 1 0 = -5
            looked = 0
            channel 1 -1 = 0
            book 1 -1 = 3
            looked = 1
            channel 0 5 = 4
            looked = -5
            """);
    }

    private static void theImage() {
        doc.says("THE IMAGE: STATIONS, RULES, SEEN, the PLAN, the BOOK", """
            reads 0,0=5!;2,0=9;4,0=6;20,0 = 4
            rule 0 2 2 = 1
            rule 2 4 3 = 1
            see 1 8 = 1
            plan 1 2 = 1
            book 0 5 = 1
            book 3 -1 = 2
            book 1 8 = 3
            image = 4
            channel 0 -1 = 5
            channel 1 3 = 9
            fix 1 true = 0
            move 2 9 9 = 106
            move 3 4 0 = 256
            reads 30,30=1! = 1
            rule 0 0 1 = 202
            rule 1 5 1 = 1
            rule 2 0 4 = 403
            see -1 0 = 0
            see 0 0 = 1
            see 0 0 = 2
            plan -1 0 = 0
            plan 0 0 = 1
            plan 0 0 = 2
            book -1 0 = 0
            book 3 1 = 1
            undo = 4
            channels = 5 9 6 -
            told 8 = 1
            at 4 0 = 2
            at 30 30 = -5
            apart 0 1 = 3
            apart 2 3 = 0
            of 1 6 = 2
            count 1 = 2
            count 2 = 1
            count 3 = 1
            count 4 = 3
            fits 1 0 = 2     # 1 is 0, but for 16 and 17, by which 2 has most others
            fits 1 1 = 16
            ends 0 = 5
            looked = 2
            rule 0 0 1 = 202
            rule 1 0 1 = 1
            rule 2 0 1 = 403
            """);
    }

    private static void tapes() {
        doc.says("3 TAPES 0 .. 5 hold nothing (at first", Script.each("peek % 0 = NO\nitem % 0 1 = -11\n"
            + "shift % 0 % 0 0 = -11", "0", "1", "2", "3", "4", "5") + Script.each("item % 0 1 = -1", "-1", "6"));
        doc.says("or a row of 0 bytes, 1 shorts, 2 ints, 3 longs, 4 booleans (items 0, 1", Script.each("""
            tape % % 2 = 1
            item % 1 1311768467463798655 = 1
            """, "0", "1", "2", "3", "4") + """
            items 0 = 0 127
            items 1 = 0 -129
            items 2 = 0 -1698889857
            items 3 = 0 1311768467463798655
            items 4 = 0 1
            item 4 1 0 = 1
            items 4 = 0 0
            item 4 0 -2 = 1
            items 4 = 1 0
            """);
        doc.says("CHANNELS (-1: none) told by a row of bytes, from a place on, STATION by STATION, are JUDGED", """
            reads 0,0=5;2,0;4,0=6 = 3
            tape 2 0 5 = 1
            item 2 1 5 = 1
            item 2 2 -1 = 1
            item 2 3 6 = 1
            judge 2 1 = -5
            channel 1 0 = -5
            judge 2 1 = 1
            """);
        doc.says("the first that is otherwise (counted from 0 from that place on", """
            reads 0,0=5;2,0;4,0=6 = 3
            tape 2 0 5 = 1
            judge 2 0 = 0
            judge 2 1 = 0
            item 2 1 5 = 1
            judge 2 1 = 1
            judge 2 0 = 0
            item 2 2 -1 = 1
            judge 2 1 = 2
            item 2 3 6 = 1
            judge 2 1 = -5
            """);
        doc.says("-5: none, or there are no STATIONS (wherever the place is, also if the TAPE holds nothing", """
            judge 0 0 = -5
            judge 0 -1 = -5
            judge 5 MAX = -5
            tape 1 0 2 = 1
            judge 1 0 = -5
            judge 1 2 = -5
            judge 1 3 = -5
            judge 1 MIN = -5
            station 0 0 = 0
            judge 0 0 = 100
            judge 1 0 = 0
            item 1 1 -1 = 1
            judge 1 1 = -5
            """);
        doc.says("100 and how many were looked at, if the row ends ahead of that (or the place is below 0, or the TAPE"
            + " holds nothing", """
            reads 0,0=5;2,0;4,0=6 = 3
            judge 0 0 = 100
            tape 0 0 2 = 1
            item 0 0 5 = 1
            item 0 1 -1 = 1
            judge 0 0 = 102
            item 0 1 5 = 1
            judge 0 1 = 101
            judge 0 2 = 100
            judge 0 3 = 100
            judge 0 MAX = 100
            judge 0 -1 = 100
            judge 0 0 = 1     # otherwise ahead of the end
            tape 0 0 0 = 1
            judge 0 0 = 100
            tape 0 -1 0 = 1
            judge 0 0 = 100
            judge 0 -1 = 100
            """);
    }

    private static void refusals() {
        doc.says("The host's refusals: NOTHING (-11): nothing is there", """
            item 0 0 1 = -11
            tape 0 0 1 = 1
            item 0 0 1 = 1
            shift 0 0 1 0 1 = -11
            shift 1 0 0 0 1 = -11
            tape 0 -1 0 = 1
            item 0 0 1 = -11
            """);
        doc.says("CAST (-12): another sort", """
            tape 0 0 2 = 1
            tape 1 1 2 = 1
            shift 0 0 1 0 2 = -12
            shift 0 0 0 1 1 = 1
            station 0 0 = 0
            judge 1 0 = -12
            judge 0 0 = 0
            tape 1 4 2 = 1
            judge 1 0 = -12
            """);
        doc.says("PLACE (-13): no such place", """
            tape 0 2 2 = 1
            item 0 2 1 = -13
            item 0 -1 1 = -13
            item 0 1 1 = 1
            shift 0 1 0 0 2 = -13
            shift 0 0 0 1 2 = -13
            items 0 = 0 1
            """);
        doc.says("SIZE (-14): a size below 0", "tape 0 2 -1 = -14\ntape 0 2 MIN = -14\ntape 0 2 0 = 1\nitem 0 0 0 = -13\n");
        doc.says("Answers: NONE (-1) no such number", "of 0 0 = -1\ntold 9 = -1\nrule 3 1 1 = -1\nsorted -1 = -1\n");
        doc.says("BAD (-2) a number is not as told", "station 32 0 = -2\nclique 5 = -2\nfeed 128 = -2\ncount 6 = -2\n");
        doc.says("STATE (-3) as told", "station 3 3 = 0\nstation 3 3 = -3\nfix 0 true = -3\nexchange 0 0 = -3\nundo = -3\n");
        doc.says("FULL (-4)", "reads 0,0;1,0;2,0;3,0;4,0;5,0;6,0;7,0 = 8\nstation 8 0 = -4\n");
        doc.says("the first that a call's words name", """
            reads 0,0=4!;1,0=5;2,0;3,0;4,0;5,0;6,0;7,0 = 8
            station 32 0 = -2
            station 1 0 = -3
            rule 3 41 0 = -1
            channel 8 20 = -1
            channel 0 20 = -2
            move 8 32 0 = -1
            move 0 32 0 = -2
            exchange 8 20 = -1
            exchange 2 20 = -2
            exchange 2 5 = -3
            tape 6 5 -1 = -1
            tape 0 5 -1 = -2
            item 6 0 0 = -1
            shift 6 0 0 0 -1 = -1
            shift 0 0 0 0 -1 = -11
            """);
        doc.says("What is answered so changes nothing", """
            reads 0,0=4!;1,0=5;2,0 = 3
            rule 0 1 1 = 1
            rule 0 2 5 = -2
            channel 0 7 = -3
            fix 2 true = -3
            move 1 0 0 = -3
            exchange 0 7 = -5
            exchange 1 4 = -5
            see 3 0 = -1
            plan 1 3 = -1
            book 0 20 = -2
            tape 0 0 61 = -2
            """);
        doc.says("what is asked changes nothing", """
            reads 0,0=4!;1,0=5;2,0 = 3
            rule 0 1 1 = 1
            of 0 4 = 19
            apart 0 1 = 1
            at 0 0 = 0
            told 4 = 5
            sorted 0 = 0
            judge 0 0 = 100
            count 5 = 0
            peek 0 0 = NO
            """);
        doc.passes("The constants: `NO = Long.MIN_VALUE`: There is no such number");
        doc.passes("Ahead of the calls `station`, `rule`, `channel`, `fix`, `move`, `feed`, `read`, `of`, `apart`, `at` the"
            + " interface says: ---- stations, rules");
        doc.passes("Ahead of the calls `assign`, `exchange`, `told`, `clique`, `sorted` the interface says: ---- channels");
        doc.passes("Ahead of the calls `see`, `fits`, `odds`, `mean` the interface says: ---- seen, odds");
        doc.passes("Ahead of the calls `plan`, `ends`, `book`, `looked` the interface says: ---- plans, books");
        doc.passes("Ahead of the calls `judge`, `image`, `undo`, `count`, `tape`, `item`, `peek`, `shift` the interface"
            + " says: ---- judging, the image, tapes");
    }
}
