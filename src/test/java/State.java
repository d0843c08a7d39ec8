/**
 * All that can be learned of an object by calls: two that are alike in it are alike in all that the document
 * promises of them. Learning it spoils the object, as some things are told only by changing them.
 */
final class State {
    // Bytes, shorts, ints, longs and booleans each keep another part of it.
    private static final long UNLIKE_BY_SORT = 1L << 40 | 1L << 20 | 0x180;

    private final GapStations x;
    private final StringBuilder all = new StringBuilder();
    private int calls = 0;

    private State(GapStations x) {
        this.x = x;
    }

    /**
     * What is learned; the calls that were made ahead must leave room for those that are made here. As a broken
     * call that only asks might hide what another one spoilt, it is learned in one of two orders.
     */
    static String of(GapStations x, int ahead, boolean isAskedFirst) {
        State state = new State(x);
        if (isAskedFirst) {
            state.ask();
            state.askTapes();
            state.takeTapesApart();
            state.takeRules();
            state.add("read", x.read());
            state.askStations();
            state.add("undo", x.undo());
            state.ask();
            state.takeRules();
        } else {
            state.takeRules();
            state.askStations();
            state.add("undo", x.undo());
            state.takeRules();
            state.add("looked", x.looked());
            state.add("ends", x.ends(0));
            state.add("read", x.read());
            state.askStations();
            state.takeTapesApart();
        }
        if (ahead + state.calls > Script.MOST_CALLS) {
            throw new IllegalStateException("too many calls: " + ahead + " and " + state.calls);
        }
        return state.all.toString();
    }

    private void add(String name, long answer) {
        all.append(name).append('=').append(answer).append(' ');
        calls++;
    }

    private void ask() {
        for (int what = 0; what <= 5; what++) {
            add("count" + what, x.count(what));
        }
        for (int what = 1; what <= 8; what++) {
            add("told" + what, x.told(what));
        }
        askStations();
        for (int rule = 0; rule < 3; rule++) {
            add("fits" + rule, x.fits(rule, 0));
            add("fits" + rule, x.fits(rule, 1));
        }
        add("ends0", x.ends(0));
        add("ends1", x.ends(1));
        add("looked", x.looked());
    }

    private void askStations() {
        int size = x.count(0);
        add("size", size);
        for (int s = 0; s < size; s++) {
            for (int what = 0; what <= 7; what++) {
                add("of" + s + what, x.of(s, what));
            }
            for (int other = 0; other < s; other++) {
                add("apart" + s + other, x.apart(s, other));
            }
        }
    }

    private void askTapes() {
        for (int tape = 0; tape < 6; tape++) {
            long item = 0;
            for (int i = 0; item != GapStations.NO; i++) {
                item = x.peek(tape, i);
                add("peek" + tape, item);
            }
        }
    }

    private void takeTapesApart() {
        for (int tape = 0; tape < 6; tape++) {
            for (int other = 0; other < tape; other++) {
                add("shift" + tape + other, x.shift(tape, 0, other, 0, 0));
            }
            add("judge" + tape, x.judge(tape, 0));
            add("item" + tape, x.item(tape, 0, UNLIKE_BY_SORT));
            add("peek" + tape, x.peek(tape, 0));
        }
    }

    private void takeRules() {
        for (int rule = 0; rule < 3; rule++) {
            add("rule" + rule, x.rule(rule, 0, 1));
        }
    }
}
