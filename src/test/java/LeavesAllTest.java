/**
 * "What is answered so changes nothing; what is asked changes nothing": where there is something of all that an
 * object holds, each call that asks, with each number that it takes, and each refusal of each call.
 */
final class LeavesAllTest {
    private static final Checks c = new Checks();
    private static final String[] STATIONS = {"0", "1", "2", "3", "4"};
    // Stations, rules, seen, plan, book, an image of others of these, a text and tapes.
    private static final String SOMETHING = """
        reads 0,0=3!;1,0=4;2,0;9,9=5!;5,5 = 5
        rule 0 2 2 = 1
        rule 1 7 1 = 1
        see 1 0 = 1
        plan 2 9 = 1
        book 0 4 = 1
        image = 5
        channel 1 6 = 4
        move 4 6 6 = 2
        rule 2 3 3 = 1
        see -1 0 = 0
        see 0 3 = 1
        see 3 5 = 2
        plan 0 0 = 2
        plan 3 1 = 3
        book -1 0 = 0
        book 0 3 = 1
        book 2 -1 = 2
        book 1 7 = 3
        text 7,7=7!;8,8 = 10
        tape 0 0 3 = 1
        item 0 0 3 = 1
        item 0 1 6 = 1
        item 0 2 -1 = 1
        tape 1 1 2 = 1
        item 1 0 300 = 1
        tape 2 3 2 = 1
        item 2 1 LMAX = 1
        tape 3 4 2 = 1
        item 3 1 1 = 1
        tape 4 0 0 = 1
        """;

    public static void main(String[] args) {
        asksOfStations();
        asksOfChannels();
        asksOfRows();
        asksOfTapes();
        refusesStations();
        refusesChannels();
        refusesRows();
        refusesTapes();
        refusesWithoutAnImage();
        refusesWhereAllIsFull();
        c.end();
    }

    private static void check(String sentence, String lines) {
        Script.check(c, sentence, SOMETHING + lines);
    }

    private static void asksOfStations() {
        for (String station : STATIONS) {
            check("of asks", Script.each("of " + station + " % = ?", "0", "1", "2", "3", "4", "5", "6", "7", "8", "-1")
                + Script.each("apart " + station + " % = ?", STATIONS));
        }
        check("at asks", Script.each("at 0 % = ?", "0", "1", "31", "32", "-1") + "at 6 6 = 4\nat 5 5 = -5\n");
    }

    private static void asksOfChannels() {
        check("told asks", Script.each("told % = ?", "0", "1", "2", "3", "4", "5", "6", "7", "8", "9", "-1"));
        check("clique asks", Script.each("clique % = ?", "1", "2", "3", "4", "0", "5"));
        check("sorted asks", Script.each("sorted % = ?", "0", "1", "2", "3", "-1", "MAX"));
    }

    private static void asksOfRows() {
        check("fits asks", Script.each("fits % 0 = ?\nfits % 1 = ?\nfits % 2 = ?", "0", "1", "2", "3", "-1"));
        check("odds asks", Script.each("odds % 0 = ?\nodds % 1 = ?\nodds % 2 = ?", STATIONS) + "odds 5 0 = NO\n");
        check("mean asks", Script.each("mean % = ?", "0", "1", "2", "-1"));
        check("ends asks", Script.each("ends % = ?", "0", "1", "2", "-1"));
        check("looked asks", "looked = 2\nlooked = 2\n");
        check("count asks", Script.each("count % = ?", "0", "1", "2", "3", "4", "5", "6", "-1"));
    }

    private static void asksOfTapes() {
        check("judge asks", Script.each("judge % 0 = ?\njudge % 1 = ?\njudge % -1 = ?\njudge % MAX = ?",
            "0", "1", "2", "3", "4", "5", "6", "-1"));
        check("peek asks", Script.each("peek % 0 = ?\npeek % 1 = ?\npeek % -1 = ?\npeek % 3 = ?",
            "0", "1", "2", "3", "4", "5", "6", "-1"));
    }

    private static void refusesStations() {
        check("station refuses", """
            station 32 0 = -2
            station 0 -1 = -2
            station 0 0 = -3
            station 6 6 = -3
            """);
        check("rule refuses", Script.each("""
            rule 3 % 2 = -1
            rule -1 % 2 = -1
            rule 0 % 5 = -2
            rule 2 % 0 = -2
            """, "0", "1", "40") + Script.each("rule 1 41 % = -2\nrule 0 -1 % = -2", "1", "3", "4"));
        check("channel refuses", """
            channel 5 3 = -1
            channel -1 -1 = -1
            channel 1 20 = -2
            channel 2 -2 = -2
            channel 0 20 = -2
            channel 0 3 = -3
            channel 3 19 = -3
            """);
        check("fix refuses", """
            fix 5 true = -1
            fix -1 false = -1
            fix 2 true = -3
            fix 4 false = -3
            """);
        check("move refuses", """
            move 5 20 20 = -1
            move -1 20 20 = -1
            move 1 32 20 = -2
            move 1 20 -1 = -2
            move 1 0 0 = -3
            move 0 9 9 = -3
            """);
        check("feed refuses", "feed -1 = -2\nfeed 128 = -2\nfeed 304 = -2\n");
    }

    private static void refusesChannels() {
        check("exchange refuses", """
            exchange 5 3 = -1
            exchange -1 3 = -1
            exchange 1 20 = -2
            exchange 2 -1 = -2
            exchange 2 5 = -3
            exchange 1 6 = -3
            exchange 0 3 = -3
            exchange 0 4 = -5
            exchange 3 1 = -5
            exchange 1 3 = -5
            exchange 1 4 = -6
            exchange 1 2 = -6
            """);
        check("told, clique, sorted refuse", "told 9 = -1\nclique 5 = -2\nsorted -1 = -1\n");
    }

    private static void refusesRows() {
        check("see refuses", """
            see 5 0 = -1
            see -2 0 = -1
            see 0 20 = -2
            see 0 -1 = -2
            """);
        check("plan refuses", """
            plan 4 0 = -1
            plan -2 0 = -1
            plan 1 5 = -1
            plan 3 -1 = -1
            plan 2 41 = -2
            plan 2 -1 = -2
            """);
        check("book refuses", """
            book 5 0 = -1
            book -2 0 = -1
            book 0 20 = -2
            book 0 -2 = -2
            """);
    }

    private static void refusesTapes() {
        check("tape refuses", Script.each("""
            tape 6 % 1 = -1
            tape -1 % 1 = -1
            tape 0 % 61 = -2
            tape 0 % -1 = -14
            tape 5 % MIN = -14
            """, "0", "1", "2", "3", "4") + "tape 0 5 1 = -2\ntape 1 -2 1 = -2\ntape 1 5 -1 = -2\n");
        check("item refuses", """
            item 6 0 9 = -1
            item -1 0 9 = -1
            item 5 0 9 = -11
            item 0 3 9 = -13
            item 0 -1 9 = -13
            item 4 0 9 = -13
            item 2 MAX 9 = -13
            """);
        check("shift refuses", """
            shift 6 0 0 0 1 = -1
            shift 0 0 -1 0 1 = -1
            shift 5 0 0 0 1 = -11
            shift 0 0 5 0 1 = -11
            shift 0 0 1 0 1 = -12
            shift 1 0 2 0 1 = -12
            shift 3 1 2 0 1 = -12
            shift 0 0 4 0 1 = -13
            shift 4 0 0 0 1 = -13
            shift 0 0 0 1 3 = -13
            shift 0 1 0 0 3 = -13
            shift 0 -1 0 0 2 = -13
            shift 0 0 0 -1 2 = -13
            shift 0 1 0 0 -1 = -13
            shift 1 0 1 1 2 = -13
            """);
    }

    private static void refusesWithoutAnImage() {
        Script.check(c, "undo refuses", """
            reads 0,0=3!;1,0=4;2,0 = 3
            rule 0 2 2 = 1
            see 0 3 = 1
            plan 0 0 = 1
            book 0 3 = 1
            text 7,7 = 3
            tape 0 0 2 = 1
            undo = -3
            undo = -3
            """);
    }

    private static void refusesWhereAllIsFull() {
        Script.check(c, "FULL of each", "reads 0,0=0!;4,0=1!;8,0=2!;0,4=3!;0,8=4!;9,9=5!;4,4=6!;8,8=7! = 8\n"
            + Script.each("see % % = ?", "0", "1", "2", "3", "4")
            + Script.each("book % % = ?", "0", "1", "2", "3", "4", "5", "6", "7")
            + Script.each("plan 1 % = ?", "0", "1", "2", "3", "4", "5", "6", "6") + """
            fits 0 0 = 40
            looked = -5
            ends 0 = 1
            station 31 31 = -4
            see 7 6 = -4
            book 7 6 = -4
            book 7 -1 = -4
            plan 1 7 = -4
            plan 0 0 = -4
            plan 3 7 = -4
            """);
    }
}
