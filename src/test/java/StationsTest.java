/** Promises 1 to 11: stations, rules. */
final class StationsTest {
    private static final int LEAST_INT = Integer.MIN_VALUE, GREATEST_INT = Integer.MAX_VALUE;
    private static final Checks c = new Checks();

    public static void main(String[] args) {
        aNewObject();
        constants();
        station();
        rule();
        channel();
        fix();
        move();
        feed();
        readsWhatIsRight();
        readTellsFaults();
        readRefuses();
        of();
        apart();
        at();
        c.end();
    }

    private static void aNewObject() {
        c.promise("promise 1");
        GapStations x = new GapStations();
        for (int what = 0; what <= 5; what++) {
            c.due("count(" + what + ")", x.count(what), 0);
        }
        for (int what = 0; what <= 8; what++) {
            c.due("told(" + what + ")", x.told(what), what == 5 ? 1 : 0);
        }
        c.due("of(0, 0)", x.of(0, 0), -1);
        c.due("at(0, 0)", x.at(0, 0), -5);
        c.due("undo()", x.undo(), -3);
        c.due("read()", x.read(), -10);
        c.due("looked()", x.looked(), -5);
        for (int k = 0; k < 6; k++) {
            c.due("item(" + k + ", 0, 0)", x.item(k, 0, 0), -11);
            c.due("peek(" + k + ", 0)", x.peek(k, 0), GapStations.NO);
        }
        for (int r = 0; r < 3; r++) {
            c.due("rule(" + r + ", 0, 1)", x.rule(r, 0, 1), 1);
        }
    }

    private static void constants() {
        c.promise("the constants");
        c.due("NONE", GapStations.NONE, -1);
        c.due("BAD", GapStations.BAD, -2);
        c.due("STATE", GapStations.STATE, -3);
        c.due("FULL", GapStations.FULL, -4);
        c.due("NO", GapStations.NO, Long.MIN_VALUE);
    }

    private static void station() {
        c.promise("promise 2");
        GapStations x = new GapStations();
        int[] outside = {LEAST_INT, -1, 32, GREATEST_INT};
        for (int out : outside) {
            c.due("station(" + out + ", 0)", x.station(out, 0), -2);
            c.due("station(0, " + out + ")", x.station(0, out), -2);
        }
        c.due("station(0, 0)", x.station(0, 0), 0);
        c.due("station(31, 31)", x.station(31, 31), 1);
        c.due("station(0, 31)", x.station(0, 31), 2);
        c.due("station(31, 0)", x.station(31, 0), 3);
        c.due("station(31, 0) again", x.station(31, 0), -3);
        c.due("of(3, 2)", x.of(3, 2), -5);
        c.due("of(3, 3)", x.of(3, 3), 0);
        for (int k = 4; k < 8; k++) {
            c.due("station(" + k + ", 1)", x.station(k, 1), k);
        }
        c.due("station(9, 9) as a ninth", x.station(9, 9), -4);
        c.due("station(7, 1), taken, as a ninth", x.station(7, 1), -3);
        c.due("station(32, 1) as a ninth", x.station(32, 1), -2);
        c.due("count(0)", x.count(0), 8);
    }

    private static void rule() {
        c.promise("promise 3");
        GapStations x = new GapStations();
        c.due("rule(0, 40, 4)", x.rule(0, 40, 4), 1);
        c.due("rule(0, 0, 1)", x.rule(0, 0, 1), 4004);
        c.due("rule(2, 7, 3)", x.rule(2, 7, 3), 1);
        int[] outside = {LEAST_INT, -1, 3, GREATEST_INT};
        for (int out : outside) {
            c.due("rule(" + out + ", 41, 5)", x.rule(out, 41, 5), -1);
        }
        int[] notNear = {LEAST_INT, -1, 41, GREATEST_INT};
        for (int out : notNear) {
            c.due("rule(2, " + out + ", 1)", x.rule(2, out, 1), -2);
        }
        int[] notGap = {LEAST_INT, -1, 0, 5, GREATEST_INT};
        for (int out : notGap) {
            c.due("rule(2, 9, " + out + ")", x.rule(2, 9, out), -2);
        }
        c.due("rule(2, 1, 2)", x.rule(2, 1, 2), 703);
        c.due("rule(1, 1, 1)", x.rule(1, 1, 1), 1);
    }

    private static void channel() {
        c.promise("promise 4");
        GapStations x = Checks.of("0,0;1,0");
        c.due("channel(0, 19)", x.channel(0, 19), -5);
        c.due("channel(0, 0)", x.channel(0, 0), 19);
        c.due("channel(0, 0) again", x.channel(0, 0), 0);
        c.due("channel(0, -1)", x.channel(0, -1), 0);
        c.due("channel(0, -1) again", x.channel(0, -1), -5);
        int[] outside = {LEAST_INT, -1, 2, GREATEST_INT};
        for (int out : outside) {
            c.due("channel(" + out + ", 20)", x.channel(out, 20), -1);
        }
        int[] notChannels = {LEAST_INT, -2, 20, GREATEST_INT};
        for (int out : notChannels) {
            c.due("channel(1, " + out + ")", x.channel(1, out), -2);
        }
        x.channel(1, 7);
        x.fix(1, true);
        c.due("channel(1, 20), fixed", x.channel(1, 20), -2);
        c.due("channel(1, 8), fixed", x.channel(1, 8), -3);
        c.due("channel(1, 7), fixed, its own", x.channel(1, 7), -3);
        c.due("of(1, 2)", x.of(1, 2), 7);
        c.due("channel(1, -1), fixed", x.channel(1, -1), 7);
        c.due("of(1, 3)", x.of(1, 3), 0);
        c.due("channel(1, 8), fixed no more", x.channel(1, 8), -5);
        c.due("of(1, 3), with a channel", x.of(1, 3), 0);
    }

    private static void fix() {
        c.promise("promise 5");
        GapStations x = Checks.of("0,0=0;1,0");
        c.due("fix(0, true)", x.fix(0, true), 0);
        c.due("fix(0, true) again", x.fix(0, true), 1);
        c.due("of(0, 3)", x.of(0, 3), 1);
        c.due("fix(0, false)", x.fix(0, false), 1);
        c.due("fix(0, false) again", x.fix(0, false), 0);
        c.due("of(0, 3)", x.of(0, 3), 0);
        c.due("fix(1, true), without a channel", x.fix(1, true), -3);
        c.due("fix(1, false), without a channel", x.fix(1, false), -3);
        int[] outside = {LEAST_INT, -1, 2, GREATEST_INT};
        for (int out : outside) {
            c.due("fix(" + out + ", true)", x.fix(out, true), -1);
        }
        c.due("told(8)", x.told(8), 0);
    }

    private static void move() {
        c.promise("promise 6");
        GapStations x = Checks.of("0,0=3!;1,0;31,31");
        x.rule(0, 5, 2);
        c.due("apart(0, 1)", x.apart(0, 1), 2);
        c.due("move(1, 4, 4)", x.move(1, 4, 4), 25);
        c.due("apart(0, 1), moved", x.apart(0, 1), 0);
        c.due("move(1, 4, 3)", x.move(1, 4, 3), 1);
        c.due("apart(0, 1), on the edge", x.apart(0, 1), 2);
        c.due("move(1, 4, 3), its own place", x.move(1, 4, 3), 0);
        c.due("move(1, 0, 0), taken", x.move(1, 0, 0), -3);
        int[] outside = {LEAST_INT, -1, 32, GREATEST_INT};
        for (int out : outside) {
            c.due("move(1, " + out + ", 0)", x.move(1, out, 0), -2);
            c.due("move(1, 0, " + out + ")", x.move(1, 0, out), -2);
        }
        int[] nobody = {LEAST_INT, -1, 3, GREATEST_INT};
        for (int out : nobody) {
            c.due("move(" + out + ", 32, 0)", x.move(out, 32, 0), -1);
        }
        c.due("of(1, 0)", x.of(1, 0), 4);
        c.due("of(1, 1)", x.of(1, 1), 3);
        x.move(0, 0, 1);
        c.due("move(2, 0, 0)", x.move(2, 0, 0), 1922);
        c.due("of(0, 2), moved with its channel", x.of(0, 2), 3);
        c.due("of(0, 3), moved fixed", x.of(0, 3), 1);
    }

    private static void feed() {
        c.promise("promise 7");
        GapStations x = new GapStations();
        int[] outside = {LEAST_INT, -1, 128, GREATEST_INT};
        for (int out : outside) {
            c.due("feed(" + out + ")", x.feed(out), -2);
        }
        for (int k = 1; k <= 100; k++) {
            c.due("feed(..) as number " + k, x.feed(k % 2 == 0 ? 0 : 127), k);
        }
        c.due("feed(0), full", x.feed(0), -4);
        c.due("feed(128), full", x.feed(128), -2);
        c.due("count(5)", x.count(5), 100);
        c.due("read()", x.read(), -10);
        c.due("feed(0), empty again", x.feed(0), 1);
    }

    private static void readsWhatIsRight() {
        c.promise("promise 8");
        GapStations x = new GapStations();
        c.due("read 00,31=05!;31,00=19;7,08", Checks.read(x, "00,31=05!;31,00=19;7,08"), 3);
        c.due("count(5)", x.count(5), 0);
        int[][] all = {{0, 31, 5, 1}, {31, 0, 19, 0}, {7, 8, -5, 0}};
        for (int s = 0; s < all.length; s++) {
            for (int what = 0; what < 4; what++) {
                c.due("of(" + s + ", " + what + ")", x.of(s, what), all[s][what]);
            }
        }
        GapStations y = new GapStations();
        String longest = "31,31=19!;31,30=19!;31,29=19!;31,28=19!;31,27=19!;31,26=19!;31,25=19!;31,24=19!";
        c.due("the longest text", Checks.read(y, longest), 8);
        c.due("told(8)", y.told(8), 255);
        c.due("read(), the text is empty", y.read(), -10);
    }

    private static void readTellsFaults() {
        c.promise("promise 8, faults");
        String[] texts = {"", "a", ",", "1", "11", "111", "32", "99", "3;", "1,", "1,,", "1,a", "1,32", "1,40",
            "1,311", "1,2=", "1,2==", "1,2=20", "1,2=99", "1,2=190", "1,2=1;", "1,2!", "1,2=!", "1,2=3!!",
            "1,2=3!4", "1,2;", "1,2;;", " 1,2", "1 ,2", "1,2 ", "1,2=3 ", "-1,2", "1,2,3", "1,2;3", "1,2;33,4",
            "1,2=3!=4", "1,2=3=4", "0,0;1,0;2,0;3,0;4,0;5,0;6,0;7,0;", "0,0;1,0;2,0;3,0;4,0;5,0;6,0;7,0=1;8,0",
            "1,2/", "1,2:", "/", ":"};
        int[] faults = {0, 0, 0, 1, 2, 2, 1, 1, 1, 2, 2, 2, 3, 3,
            4, 4, 4, 5, 5, 6, 6, 3, 4, 6,
            6, 4, 4, 0, 1, 3, 5, 0, 3, 5, 5,
            6, 5, 31, 33,
            3, 3, 0, 0};
        for (int k = 0; k < texts.length; k++) {
            GapStations x = new GapStations();
            c.due("read " + texts[k], Checks.read(x, texts[k]), -10 - faults[k]);
            c.due("count(0) behind a fault", x.count(0), 0);
            c.due("count(5) behind a fault", x.count(5), 0);
        }
    }

    private static void readRefuses() {
        c.promise("promise 8, refusals");
        GapStations x = Checks.of("5,5=1!");
        c.due("two at one place", Checks.read(x, "5,5=2;6,6;6,6=3!;7,7=4"), 2);
        c.dueText("channels", Checks.channels(x), "1 - 4");
        c.due("told(8)", x.told(8), 1);
        c.due("more than there is room for",
            Checks.read(x, "0,1;0,2;0,3;0,4;0,5=9!;0,6=9!;0,7=9!;0,8"), 5);
        c.dueText("channels", Checks.channels(x), "1 - 4 - - - - 9");
        c.due("told(8)", x.told(8), 129);
        c.due("nobody comes any more", Checks.read(x, "9,9"), 0);
        GapStations y = Checks.of("1,1=1!;2,2=2!");
        c.due("a second text", Checks.read(y, "3,3=3;4,4"), 2);
        c.dueText("channels", Checks.channels(y), "1 2 3 -");
        c.due("told(8), what was fixed in the text ahead", y.told(8), 3);
        c.due("a fault", Checks.read(y, "5,5=5!;6,6=6!;7"), -25);
        c.due("a text behind a fault", Checks.read(y, "5,5=5"), 1);
        c.due("told(8), nothing of the faulty text", y.told(8), 3);
    }

    private static void of() {
        c.promise("promise 9");
        GapStations x = Checks.of("10,11=3;12,11=4!;10,31;30,11=3;10,13=1");
        x.rule(0, 3, 3);
        int[] first = {10, 11, 3, 0, 13, 7, 2, 2};
        int[] second = {12, 11, 4, 1, 14, 6, 2, 1};
        int[] third = {10, 31, -5, 0, 20, 0, 0, 0};
        for (int what = 0; what < 8; what++) {
            c.due("of(0, " + what + ")", x.of(0, what), first[what]);
            c.due("of(1, " + what + ")", x.of(1, what), second[what]);
            c.due("of(2, " + what + ")", x.of(2, what), third[what]);
        }
        int[] outside = {LEAST_INT, -1, 8, GREATEST_INT};
        for (int out : outside) {
            c.due("of(0, " + out + ")", x.of(0, out), -1);
            c.due("of(" + out + ", 0)", x.of(out, 0), -1);
        }
        c.due("of(5, 0)", x.of(5, 0), -1);
        GapStations y = Checks.of("0,0;1,0=3!;0,1=10!;1,1=17!");
        y.rule(0, 1, 1);
        y.rule(1, 2, 4);
        c.due("of(0, 4), nothing is allowed", y.of(0, 4), 0);
        c.due("of(0, 5), nothing is allowed", y.of(0, 5), -5);
        c.due("of(0, 7), without a channel", y.of(0, 7), 0);
        c.due("of(1, 7), 7 is no clash by 4", y.of(1, 7), 0);
    }

    private static void apart() {
        c.promise("promise 10");
        GapStations x = Checks.of("0,0;3,4;0,6;31,31");
        c.due("apart(0, 1), no rules", x.apart(0, 1), 0);
        x.rule(0, 5, 2);
        c.due("apart(0, 1), 5 by 5", x.apart(0, 1), 2);
        c.due("apart(0, 2), 6 by 5", x.apart(0, 2), 0);
        x.rule(1, 6, 1);
        c.due("apart(0, 1), the greater", x.apart(0, 1), 2);
        c.due("apart(2, 0)", x.apart(2, 0), 1);
        x.rule(2, 40, 4);
        c.due("apart(0, 3), 1922 is more than 1600", x.apart(0, 3), 0);
        c.due("apart(3, 1)", x.apart(3, 1), 4);
        x.rule(2, 0, 4);
        c.due("apart(3, 1), no rule any more", x.apart(3, 1), 0);
        c.due("apart(1, 1)", x.apart(1, 1), -1);
        int[] outside = {LEAST_INT, -1, 4, GREATEST_INT};
        for (int out : outside) {
            c.due("apart(0, " + out + ")", x.apart(0, out), -1);
            c.due("apart(" + out + ", 0)", x.apart(out, 0), -1);
            c.due("apart(" + out + ", " + out + ")", x.apart(out, out), -1);
        }
    }

    private static void at() {
        c.promise("promise 11");
        GapStations x = Checks.of("0,0;31,30");
        c.due("at(0, 0)", x.at(0, 0), 0);
        c.due("at(31, 30)", x.at(31, 30), 1);
        c.due("at(30, 31)", x.at(30, 31), -5);
        int[] outside = {LEAST_INT, -1, 32, GREATEST_INT};
        for (int out : outside) {
            c.due("at(0, " + out + ")", x.at(0, out), -2);
            c.due("at(" + out + ", 0)", x.at(out, 0), -2);
        }
        x.move(0, 30, 31);
        c.due("at(30, 31), moved", x.at(30, 31), 0);
        c.due("at(0, 0), left", x.at(0, 0), -5);
    }
}
