/** Promises 25 to 32: judging, the image, counts, tapes. */
final class TapesTest {
    private static final int LEAST_INT = Integer.MIN_VALUE, GREATEST_INT = Integer.MAX_VALUE;
    private static final int[] NO_TAPES = {LEAST_INT, -1, 6, GREATEST_INT};
    private static final Checks c = new Checks();

    public static void main(String[] args) {
        judge();
        judgeOfNobody();
        imageAndUndo();
        count();
        tape();
        item();
        peek();
        shift();
        shiftRefuses();
        c.end();
    }

    private static void put(GapStations x, int tape, int sort, long... items) {
        x.tape(tape, sort, items.length);
        for (int i = 0; i < items.length; i++) {
            x.item(tape, i, items[i]);
        }
    }

    private static void dueItems(GapStations x, int tape, long... items) {
        for (int i = 0; i < items.length; i++) {
            c.due("peek(" + tape + ", " + i + ")", x.peek(tape, i), items[i]);
        }
        c.due("peek(" + tape + ", " + items.length + ")", x.peek(tape, items.length), GapStations.NO);
    }

    private static void judge() {
        c.promise("promise 25");
        GapStations x = Checks.of("0,0=0;1,0=19!;2,0");
        for (int out : NO_TAPES) {
            c.due("judge(" + out + ", 0)", x.judge(out, 0), -1);
        }
        c.due("judge(0, 0), the tape holds nothing", x.judge(0, 0), 100);
        c.due("judge(0, -1), the tape holds nothing", x.judge(0, -1), 100);
        put(x, 0, 0, 7, 0, 19, -1, 0, 19, 0, 1, 19, 0, 19);
        int[] due = {0, -5, 0, 0, 2, 0, 1, 0, 0, 102, 0, 100, 100};
        for (int i = 0; i < due.length; i++) {
            c.due("judge(0, " + i + ")", x.judge(0, i), due[i]);
        }
        c.due("judge(0, -1)", x.judge(0, -1), 100);
        c.due("judge(0, least)", x.judge(0, LEAST_INT), 100);
        c.due("judge(0, greatest)", x.judge(0, GREATEST_INT), 100);
        for (int sort = 1; sort < 5; sort++) {
            x.tape(5, sort, 9);
            c.due("judge(5, 0), of sort " + sort, x.judge(5, 0), -12);
            c.due("judge(5, -1), of sort " + sort, x.judge(5, -1), -12);
        }
        x.tape(5, 0, 0);
        c.due("judge(5, 0), no bytes", x.judge(5, 0), 100);
        put(x, 5, 0, 256, 256 + 19, 255);
        c.due("judge(5, 0), lowest bits", x.judge(5, 0), -5);
        x.channel(2, 0);
        c.due("judge(5, 0), 0 is not none", x.judge(5, 0), 2);
    }

    private static void judgeOfNobody() {
        c.promise("promise 25, no stations");
        GapStations x = new GapStations();
        c.due("judge(0, 0)", x.judge(0, 0), -5);
        c.due("judge(5, -1)", x.judge(5, -1), -5);
        c.due("judge(6, 0)", x.judge(6, 0), -1);
        x.tape(0, 0, 2);
        c.due("judge(0, 99)", x.judge(0, 99), -5);
        c.due("judge(0, least)", x.judge(0, LEAST_INT), -5);
        x.tape(0, 1, 2);
        c.due("judge(0, 0), shorts", x.judge(0, 0), -12);
    }

    private static void imageAndUndo() {
        c.promise("promises 26 and 27");
        GapStations x = new GapStations();
        c.due("undo()", x.undo(), -3);
        c.due("image(), of nothing", x.image(), 0);
        Checks.read(x, "0,0=3!;9,9");
        c.due("undo(), to nothing", x.undo(), 0);
        c.due("at(0, 0)", x.at(0, 0), -5);
        Checks.read(x, "0,0=3!;9,9");
        x.rule(0, 13, 2);
        c.due("of(0, 6)", x.of(0, 6), 1);
        x.see(0, 3);
        x.plan(0, 0);
        x.plan(2, 1);
        x.book(0, 3);
        x.book(1, -1);
        x.book(1, 4);
        Checks.feed(x, "1,");
        put(x, 0, 1, 5);
        c.due("image()", x.image(), 2);
        int same = stateOf(x);

        x.station(4, 4);
        x.fix(0, false);
        x.channel(0, 8);
        x.move(1, 8, 8);
        x.rule(0, 0, 4);
        c.due("of(0, 6), no rule", x.of(0, 6), 0);
        x.rule(2, 3, 3);
        x.see(-1, 0);
        x.see(2, 1);
        x.plan(-1, 0);
        x.plan(3, 2);
        x.book(-1, 0);
        Checks.feed(x, "1");
        put(x, 0, 1, 6, 7);
        c.due("undo()", x.undo(), 2);
        c.due("the state", stateOf(x), same);
        c.due("fits(0, 0), what is seen is as it was", x.fits(0, 0), 40);
        c.due("looked(), the book is as it was", x.looked(), 2);
        c.due("ends(0), the plan is as it was", x.ends(0), 4);
        c.due("of(0, 6), as it was", x.of(0, 6), 1);
        c.due("rule(0, 7, 2), as it was", x.rule(0, 7, 2), 1302);
        c.due("rule(2, 0, 1), as it was", x.rule(2, 0, 1), 1);
        c.due("apart(0, 1), as it was", x.apart(0, 1), 0);
        dueItems(x, 0, 6, 7);
        c.due("count(5), the text stays", x.count(5), 3);
        c.due("read(), the text stays", x.read(), 1);
        c.due("undo(), the image stays", x.undo(), 2);
        c.due("station(1, 1) behind it", x.station(1, 1), 2);
        c.due("of(2, 2), a new one has none", x.of(2, 2), -5);
        c.due("image(), another one", x.image(), 3);
        x.move(0, 2, 2);
        c.due("undo()", x.undo(), 3);
        c.due("at(0, 0)", x.at(0, 0), 0);
    }

    private static int stateOf(GapStations x) {
        int sum = x.count(1) + 3 * x.count(2) + 7 * x.count(3) + 13 * x.count(4);
        for (int s = 0; s < x.count(0); s++) {
            for (int what = 0; what < 4; what++) {
                sum = sum * 31 + x.of(s, what);
            }
        }
        return sum;
    }

    private static void count() {
        c.promise("promise 28");
        GapStations x = Checks.of("0,0;1,1;2,2;3,3;4,4;5,5;6,6");
        x.rule(0, 0, 4);
        c.due("count(1), near 0 is no rule", x.count(1), 0);
        x.rule(0, 1, 1);
        x.rule(2, 40, 1);
        c.due("count(1)", x.count(1), 2);
        x.see(0, 0);
        x.plan(0, 0);
        x.plan(0, 0);
        x.plan(0, 0);
        x.book(0, 0);
        x.book(0, 0);
        x.book(0, 0);
        x.book(0, 0);
        Checks.feed(x, "abcde");
        int[] due = {7, 2, 1, 3, 4, 5};
        for (int what = 0; what < due.length; what++) {
            c.due("count(" + what + ")", x.count(what), due[what]);
        }
        int[] outside = {LEAST_INT, -1, 6, GREATEST_INT};
        for (int out : outside) {
            c.due("count(" + out + ")", x.count(out), -2);
        }
        x.rule(0, 0, 1);
        c.due("count(1), one less", x.count(1), 1);
    }

    private static void tape() {
        c.promise("promise 29");
        GapStations x = new GapStations();
        for (int sort = 0; sort < 5; sort++) {
            c.due("tape(" + sort + ", " + sort + ", 2)", x.tape(sort, sort, 2), 1);
            dueItems(x, sort, 0, 0);
            x.item(sort, 1, 1);
            c.due("tape(" + sort + ", " + sort + ", 3), anew", x.tape(sort, sort, 3), 1);
            dueItems(x, sort, 0, 0, 0);
        }
        c.due("tape(5, 0, 60)", x.tape(5, 0, 60), 1);
        c.due("peek(5, 59)", x.peek(5, 59), 0);
        c.due("peek(5, 60)", x.peek(5, 60), GapStations.NO);
        c.due("tape(5, 3, 61)", x.tape(5, 3, 61), -2);
        c.due("tape(5, 3, greatest)", x.tape(5, 3, GREATEST_INT), -2);
        c.due("tape(5, 3, -1)", x.tape(5, 3, -1), -14);
        c.due("tape(5, 3, least)", x.tape(5, 3, LEAST_INT), -14);
        int[] notSorts = {LEAST_INT, -2, 5, GREATEST_INT};
        for (int out : notSorts) {
            c.due("tape(5, " + out + ", 1)", x.tape(5, out, 1), -2);
            c.due("tape(5, " + out + ", -1)", x.tape(5, out, -1), -2);
        }
        for (int out : NO_TAPES) {
            c.due("tape(" + out + ", 5, 61)", x.tape(out, 5, 61), -1);
            c.due("tape(" + out + ", -1, 0)", x.tape(out, -1, 0), -1);
        }
        c.due("peek(5, 59), refused calls change nothing", x.peek(5, 59), 0);
        c.due("tape(5, -1, -9)", x.tape(5, -1, -9), 1);
        c.due("peek(5, 0), nothing is there", x.peek(5, 0), GapStations.NO);
        c.due("tape(5, -1, 61), nothing was there", x.tape(5, -1, 61), 1);
        c.due("tape(5, 3, 0)", x.tape(5, 3, 0), 1);
        c.due("item(5, 0, 0), no items", x.item(5, 0, 0), -13);
    }

    private static void item() {
        c.promise("promise 30");
        GapStations x = new GapStations();
        long[] told = {127, 128, 255, 256, 32767, 32768, 2147483647L, 2147483648L, -1, Long.MIN_VALUE,
            Long.MAX_VALUE, 0, 1L << 32};
        long[][] due = {
            {127, -128, -1, 0, -1, 0, -1, 0, -1, 0, -1, 0, 0},
            {127, 128, 255, 256, 32767, -32768, -1, 0, -1, 0, -1, 0, 0},
            {127, 128, 255, 256, 32767, 32768, 2147483647L, -2147483648L, -1, 0, -1, 0, 0},
            told,
            {1, 1, 1, 1, 1, 1, 1, 1, 1, 1, 1, 0, 1}};
        for (int sort = 0; sort < 5; sort++) {
            put(x, sort, sort, told);
            dueItems(x, sort, due[sort]);
        }
        c.due("item(0, 0, 5)", x.item(0, 0, 5), 1);
        c.due("item(0, 12, 6)", x.item(0, 12, 6), 1);
        c.due("peek(0, 0)", x.peek(0, 0), 5);
        c.due("peek(0, 12)", x.peek(0, 12), 6);
        int[] noPlace = {LEAST_INT, -1, 13, GREATEST_INT};
        for (int out : noPlace) {
            c.due("item(0, " + out + ", 1)", x.item(0, out, 1), -13);
            c.due("item(5, " + out + ", 1), nothing is there", x.item(5, out, 1), -11);
        }
        for (int out : NO_TAPES) {
            c.due("item(" + out + ", 0, 1)", x.item(out, 0, 1), -1);
        }
    }

    private static void peek() {
        c.promise("promise 31");
        GapStations x = new GapStations();
        put(x, 3, 3, 8, -9);
        c.due("peek(3, 0)", x.peek(3, 0), 8);
        c.due("peek(3, 1)", x.peek(3, 1), -9);
        int[] noPlace = {LEAST_INT, -1, 2, GREATEST_INT};
        for (int out : noPlace) {
            c.due("peek(3, " + out + ")", x.peek(3, out), GapStations.NO);
            c.due("peek(2, " + out + "), nothing is there", x.peek(2, out), GapStations.NO);
        }
        for (int out : NO_TAPES) {
            c.due("peek(" + out + ", 0)", x.peek(out, 0), GapStations.NO);
        }
    }

    private static void shift() {
        c.promise("promise 32");
        GapStations x = new GapStations();
        put(x, 0, 2, 1, 2, 3, 4, 5);
        put(x, 1, 2, 9, 9, 9);
        c.due("shift(0, 1, 1, 0, 2)", x.shift(0, 1, 1, 0, 2), 2);
        dueItems(x, 1, 2, 3, 9);
        dueItems(x, 0, 1, 2, 3, 4, 5);
        c.due("shift(0, 0, 0, 1, 4), up", x.shift(0, 0, 0, 1, 4), 4);
        dueItems(x, 0, 1, 1, 2, 3, 4);
        c.due("shift(0, 2, 0, 0, 3), down", x.shift(0, 2, 0, 0, 3), 3);
        dueItems(x, 0, 2, 3, 4, 3, 4);
        c.due("shift(0, 0, 0, 0, 5), to itself", x.shift(0, 0, 0, 0, 5), 5);
        c.due("shift(0, 5, 1, 3, 0), nothing at the ends", x.shift(0, 5, 1, 3, 0), 0);
        dueItems(x, 0, 2, 3, 4, 3, 4);
        dueItems(x, 1, 2, 3, 9);
        for (int sort = 0; sort < 5; sort++) {
            put(x, 4, sort, 0, 1);
            put(x, 5, sort, 0, 0);
            c.due("shift(4, 1, 5, 0, 1), of sort " + sort, x.shift(4, 1, 5, 0, 1), 1);
            dueItems(x, 5, 1, 0);
        }
    }

    private static void shiftRefuses() {
        c.promise("promise 32, refusals");
        GapStations x = new GapStations();
        put(x, 0, 2, 1, 2, 3, 4, 5);
        put(x, 1, 2, 9, 9, 9);
        put(x, 2, 3, 7, 7, 7);
        for (int out : NO_TAPES) {
            c.due("shift(" + out + ", 9, 5, 9, 9)", x.shift(out, 9, 5, 9, 9), -1);
            c.due("shift(5, 9, " + out + ", 9, 9)", x.shift(5, 9, out, 9, 9), -1);
        }
        c.due("shift(0, 9, 5, 9, 9)", x.shift(0, 9, 5, 9, 9), -11);
        c.due("shift(5, 9, 0, 9, 9)", x.shift(5, 9, 0, 9, 9), -11);
        c.due("shift(5, 0, 5, 0, 0)", x.shift(5, 0, 5, 0, 0), -11);
        c.due("shift(0, 9, 2, 9, 9)", x.shift(0, 9, 2, 9, 9), -12);
        c.due("shift(2, 0, 0, 0, 0)", x.shift(2, 0, 0, 0, 0), -12);
        int[] least = {LEAST_INT, -1};
        for (int out : least) {
            c.due("shift(0, " + out + ", 1, 0, 1)", x.shift(0, out, 1, 0, 1), -13);
            c.due("shift(0, 0, 1, " + out + ", 1)", x.shift(0, 0, 1, out, 1), -13);
            c.due("shift(0, 1, 1, 1, " + out + ")", x.shift(0, 1, 1, 1, out), -13);
            c.due("shift(0, " + out + ", 1, 0, 0)", x.shift(0, out, 1, 0, 0), -13);
            c.due("shift(0, 0, 1, " + out + ", 0)", x.shift(0, 0, 1, out, 0), -13);
        }
        int[] most = {6, GREATEST_INT};
        for (int out : most) {
            c.due("shift(0, " + out + ", 1, 0, 0)", x.shift(0, out, 1, 0, 0), -13);
            c.due("shift(0, 0, 1, " + out + ", 0)", x.shift(0, 0, 1, out, 0), -13);
            c.due("shift(0, 0, 0, 0, " + out + ")", x.shift(0, 0, 0, 0, out), -13);
            c.due("shift(0, 1, 0, 1, " + out + ")", x.shift(0, 1, 0, 1, out), -13);
        }
        c.due("shift(0, 0, 1, 0, 4), beyond the other's end", x.shift(0, 0, 1, 0, 4), -13);
        c.due("shift(1, 0, 0, 0, 4), beyond its end", x.shift(1, 0, 0, 0, 4), -13);
        c.due("shift(0, 4, 1, 0, 2), beyond its end", x.shift(0, 4, 1, 0, 2), -13);
        c.due("shift(0, 0, 1, 2, 2), beyond the other's end", x.shift(0, 0, 1, 2, 2), -13);
        dueItems(x, 0, 1, 2, 3, 4, 5);
        dueItems(x, 1, 9, 9, 9);
        dueItems(x, 2, 7, 7, 7);
    }
}
