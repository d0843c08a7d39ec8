/** Promises 25 to 32, and the terms 3: each boundary and each refusal, by a run of its own. */
final class EdgesOfTapesTest {
    private static final Checks c = new Checks();
    private static final String EIGHT = "reads 0,0;1,0;2,0;3,0;4,0;5,0;6,0;7,0 = 8\n";
    private static final String[] NO_TAPES = {"MIN", "-256", "-32", "-1", "6", "7", "8", "32", "256", "MAX"};
    private static final String[] TAPES = {"0", "1", "2", "3", "4", "5"};
    private static final String[] FAR_OFF = {"MIN", "-256", "-1", "256", "MAX"};

    public static void main(String[] args) {
        judgeRefuses();
        judgeNobody();
        judgeWhereTheRowEnds();
        judgeTheFirst();
        judgeBytes();
        image();
        undoOfEachPart();
        undoLeavesTheRest();
        count();
        countMost();
        tapeSorts();
        tapeSizes();
        tapeRefuses();
        item();
        itemBits();
        peek();
        shift();
        shiftRefuses();
        shiftPlaces();
        shiftWrapsNowhere();
        c.end();
    }

    /** The lines that make a tape a row of a sort with some items. */
    private static String row(int tape, int sort, String... items) {
        StringBuilder lines = new StringBuilder("tape " + tape + " " + sort + " " + items.length + " = 1\n");
        for (int i = 0; i < items.length; i++) {
            lines.append("item ").append(tape).append(' ').append(i).append(' ').append(items[i]).append(" = 1\n");
        }
        return lines.toString();
    }

    private static void judgeRefuses() {
        Script.check(c, "promise 25: NONE: tape", "reads 0,0=3 = 1\n" + row(0, 0, "3") + row(5, 0, "3")
            + Script.each("judge % 0 = -1", NO_TAPES) + """
            judge 0 0 = -5
            judge 5 0 = -5
            """);
        Script.check(c, "promise 25: CAST: it is no row of bytes", "reads 0,0=1 = 1\n" + row(0, 0, "1") + row(1, 1, "1")
            + row(2, 2, "1") + row(3, 3, "1") + row(4, 4, "1") + """
            judge 0 0 = -5
            judge 1 0 = -12
            judge 2 0 = -12
            judge 3 0 = -12
            judge 4 0 = -12
            """);
        Script.check(c, "promise 25: CAST, whatever the place, and of no items", "reads 0,0=1 = 1\n" + row(1, 1, "1")
            + Script.each("judge 1 % = -12", "MIN", "-1", "1", "2", "MAX") + """
            tape 1 2 0 = 1
            judge 1 0 = -12
            tape 1 0 0 = 1
            judge 1 0 = 100
            tape 1 -1 0 = 1
            judge 1 0 = 100
            """);
        Script.check(c, "promise 25: CAST: it is no row of bytes, also where there are no STATIONS", row(1, 1, "1") + """
            judge 1 0 = -12
            judge 1 -1 = -12
            """);
    }

    private static void judgeNobody() {
        Script.check(c, "JUDGED: -5: there are no STATIONS (also if the TAPE holds nothing)",
            Script.each("judge % 0 = -5", TAPES) + Script.each("judge 5 % = -5", FAR_OFF) + "judge 6 0 = -1\n");
        Script.check(c, "JUDGED: -5: there are no STATIONS (wherever the place is)", row(0, 0, "3", "4")
            + Script.each("judge 0 % = -5", FAR_OFF) + """
            judge 0 0 = -5
            judge 0 1 = -5
            judge 0 2 = -5
            tape 0 0 0 = 1
            judge 0 0 = -5
            """);
    }

    private static void judgeWhereTheRowEnds() {
        Script.check(c, "JUDGED: 100, the TAPE holds nothing", "reads 0,0=3;1,0 = 2\n"
            + Script.each("judge % 0 = 100", TAPES) + Script.each("judge 0 % = 100", FAR_OFF));
        Script.check(c, "JUDGED: 100, the place is below 0, or at the end or beyond",
            "reads 0,0=3;1,0=4 = 2\n" + row(0, 0, "3", "4", "3") + """
            judge 0 0 = -5
            judge 0 1 = 0
            judge 0 2 = 101
            judge 0 3 = 100
            judge 0 4 = 100
            """ + Script.each("judge 0 % = 100", FAR_OFF));
        Script.check(c, "JUDGED: 100 and how many were looked at: to 7", """
            reads 0,0=0;1,0=0;2,0=0;3,0=0;4,0=0;5,0=0;6,0=0;7,0=0 = 8
            tape 0 0 8 = 1
            judge 0 0 = -5
            judge 0 1 = 107
            judge 0 2 = 106
            judge 0 3 = 105
            judge 0 4 = 104
            judge 0 5 = 103
            judge 0 6 = 102
            judge 0 7 = 101
            judge 0 8 = 100
            tape 0 0 9 = 1
            judge 0 1 = -5
            tape 0 0 0 = 1
            judge 0 0 = 100
            """);
        Script.check(c, "JUDGED: from the last place of 60 on", """
            reads 0,0=0 = 1
            tape 0 0 60 = 1
            judge 0 59 = -5
            judge 0 60 = 100
            station 1 0 = 1
            channel 1 0 = -5
            judge 0 58 = -5
            judge 0 59 = 101
            """);
        Script.check(c, "JUDGED: what is otherwise is told, if the row ends behind it", "reads 0,0=3;1,0=4;2,0=5 = 3\n"
            + row(0, 0, "3", "9") + """
            judge 0 0 = 1
            judge 0 1 = 0
            item 0 1 4 = 1
            judge 0 0 = 102
            """);
    }

    private static void judgeTheFirst() {
        Script.check(c, "JUDGED: the first that is otherwise, counted from 0 from that place on: to 7", EIGHT
            + row(0, 0, "7", "7", "-1", "-1", "-1", "-1", "-1", "-1", "-1", "0") + """
            judge 0 2 = 7
            judge 0 1 = 0
            channel 0 7 = -5
            judge 0 1 = -5
            judge 0 2 = 0
            channel 6 6 = -5
            judge 0 1 = 6
            channel 1 6 = -5
            judge 0 1 = 1
            """);
    }

    private static void judgeBytes() {
        Script.check(c, "JUDGED: -1: none, 0 to 19; others are nobody's", "reads 0,0;1,0=0;2,0=19 = 3\n"
            + row(0, 0, "-1", "0", "19") + """
            judge 0 0 = -5
            item 0 0 255 = 1
            judge 0 0 = -5
            item 0 0 0 = 1
            judge 0 0 = 0
            item 0 0 -5 = 1
            judge 0 0 = 0
            item 0 0 -2 = 1
            judge 0 0 = 0
            item 0 0 -1 = 1
            item 0 1 -1 = 1
            judge 0 0 = 1
            item 0 1 256 = 1
            item 0 2 20 = 1
            judge 0 0 = 2
            item 0 2 -109 = 1
            judge 0 0 = 2
            item 0 2 275 = 1
            judge 0 0 = -5
            """);
    }

    private static void image() {
        Script.check(c, "promise 26: how many STATIONS there are: 0, 1, 8", """
            image = 0
            station 0 0 = 0
            image = 1
            reads 1,0;2,0;3,0;4,0;5,0;6,0;7,0 = 7
            image = 8
            undo = 8
            """);
        Script.check(c, "promise 26: another IMAGE is taken instead", """
            station 0 0 = 0
            image = 1
            station 1 0 = 1
            image = 2
            station 2 0 = 2
            undo = 2
            undo = 2
            """);
        Script.check(c, "promise 27: STATE: there is none", """
            undo = -3
            reads 0,0=3!;1,0 = 2
            undo = -3
            told 0 = 2
            image = 2
            undo = 2
            """);
        Script.check(c, "promise 27: as THE IMAGE of nobody", """
            image = 0
            reads 0,0=3!;1,0 = 2
            rule 0 5 5 = -2
            rule 0 5 4 = 1
            see 0 0 = 1
            plan 0 0 = 1
            book 0 0 = 1
            undo = 0
            told 0 = 0
            told 8 = 0
            count 1 = 0
            count 2 = 0
            count 3 = 0
            count 4 = 0
            rule 0 0 1 = 1
            """);
    }

    private static void undoOfEachPart() {
        Script.check(c, "promise 27: STATIONS: places, CHANNELS, whether FIXED", """
            reads 0,0=0!;9,9=19;20,20 = 3
            image = 3
            move 0 1 1 = 2
            channel 0 -1 = 0
            channel 1 -1 = 19
            channel 2 5 = -5
            fix 2 true = 0
            station 0 0 = 3
            undo = 3
            channels = 0 19 -
            told 8 = 1
            at 0 0 = 0
            at 1 1 = -5
            station 1 1 = 3
            """);
        Script.check(c, "promise 27: RULES: NEAR and GAP, and who is APART by them", """
            reads 0,0;1,0 = 2
            rule 0 1 2 = 1
            rule 2 40 1 = 1
            image = 2
            rule 0 0 4 = 102
            rule 1 3 3 = 1
            rule 2 0 1 = 4001
            apart 0 1 = 3
            undo = 2
            apart 0 1 = 2
            count 1 = 2
            rule 0 0 1 = 102
            rule 1 0 1 = 1
            rule 2 0 1 = 4001
            """);
        Script.check(c, "promise 27: from how many others each is to be APART, and who is ASSIGNED first", """
            reads 0,0;1,0;2,0 = 3
            rule 0 1 1 = 1
            image = 3
            station 0 1 = 3
            move 1 30 30 = 1741
            rule 0 0 1 = 101
            undo = 3
            of 0 6 = 1
            of 1 6 = 2
            of 2 6 = 1
            assign = 0
            channels = 1 0 1
            station 0 1 = 3
            of 0 6 = 2
            of 3 6 = 1
            """);
        Script.check(c, "promise 27: SEEN", """
            reads 0,0;1,0 = 2
            see 0 0 = 1
            see 1 1 = 2
            rule 0 1 1 = 1
            image = 2
            see -1 0 = 0
            see 1 0 = 1
            see 1 0 = 2
            see 1 0 = 3
            fits 0 0 = 0
            undo = 2
            count 2 = 2
            fits 0 0 = 40
            """);
        Script.check(c, "promise 27: the PLAN", """
            reads 0,0=3;1,0=5 = 2
            plan 1 1 = 1
            image = 2
            plan -1 0 = 0
            plan 1 0 = 1
            plan 1 1 = 2
            ends 0 = 0
            undo = 2
            count 3 = 1
            ends 0 = 1
            """);
        Script.check(c, "promise 27: the BOOK", """
            reads 0,0=3;1,0=5 = 2
            book 0 3 = 1
            book 1 4 = 2
            image = 2
            book -1 0 = 0
            book 1 4 = 1
            looked = 0
            undo = 2
            count 4 = 2
            looked = 1
            """);
        Script.check(c, "promise 27: empty rows come back empty", """
            reads 0,0=3 = 1
            image = 1
            see 0 0 = 1
            plan 1 0 = 1
            book 0 4 = 1
            undo = 1
            count 2 = 0
            count 3 = 0
            count 4 = 0
            looked = -5
            ends 0 = 1
            fits 0 1 = 1
            """);
    }

    private static void undoLeavesTheRest() {
        Script.check(c, "promise 27: THE TEXT and the TAPES stay as they are", "text 5, = 2\n" + row(0, 0, "1")
            + row(1, 2, "2") + "image = 0\ntext 6;7 = 5\n" + row(0, 1, "300", "4") + """
            tape 1 -1 0 = 1
            undo = 0
            count 5 = 5
            items 0 = 300 4
            peek 1 0 = NO
            text ,8=9 = 9
            read = 2
            undo = 0
            count 5 = 0
            items 0 = 300 4
            """);
        Script.check(c, "promise 27: THE IMAGE stays, whatever comes behind", """
            reads 0,0=3 = 1
            image = 1
            channel 0 4 = 3
            undo = 1
            of 0 2 = 3
            channel 0 5 = 3
            station 1 0 = 1
            rule 0 1 1 = 1
            undo = 1
            of 0 2 = 3
            count 1 = 0
            move 0 9 9 = 162
            undo = 1
            at 0 0 = 0
            """);
    }

    private static void count() {
        Script.check(c, "promise 28: BAD",
            Script.each("count % = -2", "MIN", "-256", "-2", "-1", "6", "7", "32", "256", "MAX")
            + Script.each("count % = 0", "0", "1", "2", "3", "4", "5"));
        Script.check(c, "promise 28: one of each, told apart", """
            reads 0,0 = 1
            rule 0 1 1 = 1
            rule 1 40 1 = 1
            see 0 0 = 1
            see 0 0 = 2
            see 0 0 = 3
            plan 0 0 = 1
            plan 0 0 = 2
            plan 0 0 = 3
            plan 0 0 = 4
            book 0 0 = 1
            book 0 0 = 2
            book 0 0 = 3
            book 0 0 = 4
            book 0 0 = 5
            text 123456 = 6
            count 0 = 1
            count 1 = 2
            count 2 = 3
            count 3 = 4
            count 4 = 5
            count 5 = 6
            """);
    }

    private static void countMost() {
        Script.check(c, "promise 28: as many as there can be", EIGHT + Script.each("see 7 7 = %", "1", "2", "3", "4", "5")
            + Script.each("plan 3 7 = %", "1", "2", "3", "4", "5", "6", "7", "8")
            + Script.each("book 7 7 = %", "1", "2", "3", "4", "5", "6", "7", "8") + """
            rule 0 1 1 = 1
            rule 1 1 1 = 1
            rule 2 1 1 = 1
            count 0 = 8
            count 1 = 3
            count 2 = 5
            count 3 = 8
            count 4 = 8
            """);
        Script.check(c, "promise 28: 100 bytes of THE TEXT, and none behind read", "text " + "7".repeat(100) + " = 100\n" + """
            count 5 = 100
            read = -11
            count 5 = 0
            """);
    }

    private static void tapeSorts() {
        Script.check(c, "promise 29: sorts 0 to 4, all 0, and -1: nothing", Script.each("tape 0 % 3 = 1\nitems 0 = 0 0 0\n"
            + "item 0 0 1 = 1\nitem 0 2 1 = 1\nitems 0 = 1 0 1\ntape 0 % 4 = 1\nitems 0 = 0 0 0 0\n"
            + "item 0 0 1 = 1\nitem 0 3 1 = 1", "0", "1", "2", "3", "4") + """
            tape 0 -1 3 = 1
            peek 0 0 = NO
            item 0 0 1 = -11
            tape 0 0 3 = 1
            items 0 = 0 0 0
            """);
        Script.check(c, "promise 29: sort -1: n does not matter",
            Script.each("tape 3 0 1 = 1\ntape 3 -1 % = 1\npeek 3 0 = NO\nitem 3 0 1 = -11",
                "MIN", "-1", "0", "1", "60", "61", "MAX") + "tape 3 -1 61 = 1\n");
        Script.check(c, "promise 29: each TAPE by itself", Script.each("tape % 1 1 = 1", TAPES)
            + Script.each("item % 0 5% = 1", TAPES) + Script.each("items % = 5%", TAPES) + """
            tape 2 -1 0 = 1
            items 1 = 51
            items 3 = 53
            item 2 0 1 = -11
            """);
    }

    private static void tapeSizes() {
        Script.check(c, "promise 29: n (0 .. 60)", """
            tape 1 3 60 = 1
            peek 1 59 = 0
            item 1 59 7 = 1
            peek 1 59 = 7
            item 1 60 7 = -13
            peek 1 60 = NO
            tape 1 3 61 = -2
            peek 1 59 = 7
            tape 1 3 60 = 1
            peek 1 59 = 0
            tape 1 3 1 = 1
            peek 1 0 = 0
            peek 1 1 = NO
            """);
        Script.check(c, "promise 29: n 0: a row without items is something", """
            tape 1 3 0 = 1
            item 1 0 0 = -13
            peek 1 0 = NO
            shift 1 0 1 0 0 = 0
            tape 2 2 0 = 1
            shift 1 0 2 0 0 = -12
            tape 2 -1 0 = 1
            item 2 0 0 = -11
            shift 1 0 2 0 0 = -11
            """);
    }

    private static void tapeRefuses() {
        Script.check(c, "promise 29: NONE: tape", Script.each("tape % 0 1 = -1", NO_TAPES)
            + Script.each("tape % -1 0 = -1", NO_TAPES) + """
            tape 0 0 1 = 1
            tape 5 0 1 = 1
            """);
        Script.check(c, "promise 29: BAD: sort", row(2, 2, "9")
            + Script.each("tape 2 % 1 = -2", "MIN", "-256", "-2", "5", "6", "32", "255", "256", "MAX") + "items 2 = 9\n");
        Script.check(c, "promise 29: BAD: n above 60", row(2, 2, "9")
            + Script.each("tape 2 2 % = -2", "61", "62", "64", "256", "65536", "MAX") + "items 2 = 9\n");
        Script.check(c, "promise 29: SIZE: a size below 0", row(2, 2, "9")
            + Script.each("tape 2 2 % = -14", "MIN", "-256", "-60", "-2", "-1") + "items 2 = 9\n");
        Script.check(c, "promise 29: NONE ahead of BAD and SIZE, BAD ahead of SIZE", row(2, 2, "9") + """
            tape 6 5 1 = -1
            tape -1 0 61 = -1
            tape 6 0 -1 = -1
            tape -1 -2 -1 = -1
            tape 2 5 -1 = -2
            tape 2 -2 -1 = -2
            tape 2 -2 MIN = -2
            tape 2 5 61 = -2
            items 2 = 9
            """);
    }

    private static void item() {
        Script.check(c, "promise 30: NONE", row(0, 3, "9") + Script.each("item % 0 1 = -1", NO_TAPES) + """
            item 5 0 1 = -11
            items 0 = 9
            """);
        Script.check(c, "promise 30: NOTHING", Script.each("item % 0 1 = -11", TAPES) + row(4, 3, "9") + """
            tape 4 -1 0 = 1
            item 4 0 1 = -11
            """);
        Script.check(c, "promise 30: PLACE", row(4, 3, "9", "8")
            + Script.each("item 4 % 1 = -13", "MIN", "-256", "-1", "2", "3", "60", "256", "MAX") + """
            items 4 = 9 8
            item 4 0 1 = 1
            item 4 1 2 = 1
            items 4 = 1 2
            tape 4 3 0 = 1
            item 4 0 1 = -13
            """);
        Script.check(c, "promise 30: NONE ahead of NOTHING, NOTHING ahead of PLACE", """
            item 6 -1 1 = -1
            item -1 60 1 = -1
            item 5 -1 1 = -11
            item 5 60 1 = -11
            item 5 MAX 1 = -11
            """);
    }

    private static void itemBits() {
        Script.check(c, "promise 30: its lowest bits: bytes", row(0, 0, "127", "128", "-128", "-129", "255", "256", "-256",
            "257", "LMIN", "LMAX", "4294967297") + "items 0 = 127 -128 -128 127 -1 0 0 1 0 -1 1\n");
        Script.check(c, "promise 30: its lowest bits: shorts", row(0, 1, "32767", "32768", "-32768", "-32769", "65535",
            "65536", "128", "LMIN", "LMAX", "65537") + "items 0 = 32767 -32768 -32768 32767 -1 0 128 0 -1 1\n");
        Script.check(c, "promise 30: its lowest bits: ints", row(0, 2, "2147483647", "2147483648", "-2147483648",
            "-2147483649", "4294967295", "4294967296", "32768", "LMIN", "LMAX", "4294967297")
            + "items 0 = 2147483647 -2147483648 -2147483648 2147483647 -1 0 32768 0 -1 1\n");
        Script.check(c, "promise 30: longs", row(0, 3, "LMAX", "-9223372036854775807", "4294967296", "-1", "0")
            + "items 0 = 9223372036854775807 -9223372036854775807 4294967296 -1 0\nitem 0 0 LMIN = 1\npeek 0 0 = LMIN\n"
            + "peek 0 1 = -9223372036854775807\n");
        Script.check(c, "promise 30: booleans: whether v is not 0", row(0, 4, "1", "0", "2", "-1", "256", "4294967296", "LMIN",
            "LMAX") + "items 0 = 1 0 1 1 1 1 1 1\nitem 0 7 0 = 1\npeek 0 7 = 0\n");
    }

    private static void peek() {
        Script.check(c, "promise 31: NO: no such TAPE", row(0, 2, "9") + row(5, 2, "8")
            + Script.each("peek % 0 = NO", NO_TAPES) + """
            peek 0 0 = 9
            peek 5 0 = 8
            """);
        Script.check(c, "promise 31: NO: nothing there", Script.each("peek % 0 = NO", TAPES)
            + Script.each("peek 0 % = NO", "MIN", "-1", "59", "60", "MAX"));
        Script.check(c, "promise 31: NO: no such place", row(1, 2, "9", "8", "7")
            + Script.each("peek 1 % = NO", "MIN", "-256", "-3", "-1", "3", "4", "60", "256", "MAX") + """
            peek 1 0 = 9
            peek 1 2 = 7
            tape 1 2 0 = 1
            peek 1 0 = NO
            peek 1 -1 = NO
            """);
    }

    private static void shift() {
        Script.check(c, "promise 32: n items, as they all were before: up, down, to where they are",
            row(0, 1, "1", "2", "3", "4", "5") + """
            shift 0 0 0 1 4 = 4
            items 0 = 1 1 2 3 4
            shift 0 1 0 0 4 = 4
            items 0 = 1 2 3 4 4
            shift 0 0 0 2 3 = 3
            items 0 = 1 2 1 2 3
            shift 0 2 0 0 3 = 3
            items 0 = 1 2 3 2 3
            shift 0 0 0 0 5 = 5
            items 0 = 1 2 3 2 3
            """);
        Script.check(c, "promise 32: n 0, at either end; all of 60", """
            tape 0 3 60 = 1
            tape 1 3 60 = 1
            item 0 0 7 = 1
            item 0 59 8 = 1
            shift 0 0 1 0 0 = 0
            shift 0 60 1 60 0 = 0
            shift 0 0 1 60 0 = 0
            peek 1 0 = 0
            shift 0 0 1 0 60 = 60
            peek 1 0 = 7
            peek 1 59 = 8
            shift 0 59 1 0 1 = 1
            peek 1 0 = 8
            shift 0 0 1 59 1 = 1
            peek 1 59 = 7
            shift 0 0 0 1 59 = 59
            peek 0 1 = 7
            """);
        Script.check(c, "promise 32: of each sort", Script.each("tape 0 % 2 = 1\ntape 5 % 1 = 1\nitem 0 1 1 = 1\n"
            + "shift 0 1 5 0 1 = 1\nitems 5 = 1\nshift 5 0 0 0 1 = 1\nitems 0 = 1 1", "0", "1", "2", "3", "4"));
    }

    private static void shiftRefuses() {
        Script.check(c, "promise 32: NONE: tapes", row(0, 1, "1") + Script.each("shift % 0 0 0 1 = -1", NO_TAPES)
            + Script.each("shift 0 0 % 0 1 = -1", NO_TAPES) + Script.each("shift % 0 % 0 1 = -1", NO_TAPES));
        Script.check(c, "promise 32: NOTHING: either of them", row(0, 1, "1") + """
            shift 1 0 0 0 1 = -11
            shift 0 0 1 0 1 = -11
            shift 1 0 1 0 0 = -11
            shift 1 0 2 0 0 = -11
            """);
        Script.check(c, "promise 32: CAST: of unlike sorts", row(0, 0, "1") + row(1, 1, "2") + row(2, 2, "3")
            + row(3, 3, "4") + row(4, 4, "0") + """
            shift 0 0 1 0 1 = -12
            shift 1 0 0 0 1 = -12
            shift 1 0 2 0 1 = -12
            shift 3 0 2 0 1 = -12
            shift 0 0 4 0 1 = -12
            shift 4 0 0 0 0 = -12
            shift 3 0 4 0 0 = -12
            """);
        Script.check(c, "promise 32: NONE, NOTHING, CAST, PLACE: the first", row(0, 0, "1") + row(1, 1, "1") + """
            shift 6 0 5 0 1 = -1
            shift 5 0 6 0 1 = -1
            shift 6 -1 0 0 1 = -1
            shift 0 9 -1 9 9 = -1
            shift 5 -1 0 0 1 = -11
            shift 0 0 5 9 1 = -11
            shift 5 0 1 0 -1 = -11
            shift 0 -1 1 0 1 = -12
            shift 0 0 1 2 1 = -12
            shift 1 0 0 0 MIN = -12
            shift 0 1 0 0 1 = -13
            """);
    }

    private static void shiftPlaces() {
        String rows = row(0, 1, "1", "2", "3", "4", "5") + row(1, 1, "9", "8", "7");
        Script.check(c, "promise 32: PLACE: n, i or j is below 0", rows + Script.each("""
            shift 0 % 1 0 1 = -13
            shift 0 0 1 % 1 = -13
            shift 0 0 1 0 % = -13
            shift 0 1 1 1 % = -13
            shift 0 % 1 0 0 = -13
            shift 0 0 1 % 0 = -13
            shift 0 % 1 % 1 = -13
            """, "MIN", "-3", "-1"));
        Script.check(c, "promise 32: PLACE: beyond its end", rows + """
            shift 0 4 1 0 1 = 1
            shift 0 5 1 0 1 = -13
            shift 0 4 1 0 2 = -13
            shift 0 3 1 0 2 = 2
            shift 0 6 1 0 0 = -13
            shift 0 5 1 0 0 = 0
            shift 1 0 0 0 3 = 3
            shift 1 0 0 0 4 = -13
            shift 1 1 0 0 3 = -13
            """);
        Script.check(c, "promise 32: PLACE: beyond the other one's end", rows + """
            shift 0 0 1 2 1 = 1
            shift 0 0 1 3 1 = -13
            shift 0 0 1 2 2 = -13
            shift 0 0 1 1 2 = 2
            shift 0 0 1 4 0 = -13
            shift 0 0 1 3 0 = 0
            shift 0 0 1 0 3 = 3
            shift 0 0 1 0 4 = -13
            shift 0 0 0 1 5 = -13
            shift 0 1 0 0 5 = -13
            shift 0 0 0 0 6 = -13
            """);
        Script.check(c, "promise 32: PLACE: of a row without items", row(0, 1, "1") + """
            tape 1 1 0 = 1
            shift 1 0 1 0 0 = 0
            shift 0 0 1 0 0 = 0
            shift 0 1 1 0 0 = 0
            shift 1 0 0 1 0 = 0
            shift 0 0 1 0 1 = -13
            shift 1 0 0 0 1 = -13
            shift 1 1 0 0 0 = -13
            """);
    }

    private static void shiftWrapsNowhere() {
        String rows = row(0, 1, "1", "2", "3", "4", "5") + row(1, 1, "9", "8", "7");
        Script.check(c, "promise 32: PLACE, where i and n together wrap around", rows + """
            shift 0 1 1 0 MAX = -13
            shift 0 MAX 1 0 1 = -13
            shift 0 MAX 1 0 MAX = -13
            shift 0 MIN 1 0 MIN = -13
            shift 0 MIN 1 0 MAX = -13
            shift 0 MAX 1 0 MIN = -13
            shift 0 MAX 1 0 0 = -13
            shift 0 MIN 1 0 0 = -13
            shift 0 -1 1 0 1 = -13
            shift 0 1 1 0 -1 = -13
            shift 0 3 1 0 -2 = -13
            """);
        Script.check(c, "promise 32: PLACE, where j and n together wrap around", rows + """
            shift 1 0 0 1 MAX = -13
            shift 1 0 0 MAX 1 = -13
            shift 1 0 0 MAX 0 = -13
            shift 1 0 0 MIN 0 = -13
            shift 1 0 0 MIN MIN = -13
            shift 1 0 0 -1 1 = -13
            shift 0 MAX 1 MAX 1 = -13
            shift 0 MAX 1 MAX MAX = -13
            shift 0 MIN 1 MIN MIN = -13
            shift 0 1 0 1 MAX = -13
            """);
    }
}
