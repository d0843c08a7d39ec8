import java.util.Random;

/** Long runs of calls, drawn with fixed seeds, are answered as the model answers them. */
final class ModelTest {
    private static final int RUNS = 500, CALL_SORTS = 32;
    // What an object answers behind its 512th call is free, and one step makes fewer than 90.
    private static final int CALLS = 512, MOST_OF_A_STEP = 90;
    private static final Checks c = new Checks();

    public static void main(String[] args) {
        for (int run = 0; run < RUNS; run++) {
            new ModelTest(run).go();
        }
        c.end();
    }

    private final GapStations x = new GapStations();
    private final Model model = new Model();
    private final Random random;
    private final int side;
    private int made = 0;

    private ModelTest(int run) {
        random = new Random(run);
        side = new int[] {3, 6, 12, 32}[run % 4];
        c.promise("run " + run);
    }

    private void go() {
        while (made + MOST_OF_A_STEP <= CALLS) {
            int sort = random.nextInt(CALL_SORTS);
            if (sort == 6) {
                feedText();
            } else {
                one(sort);
            }
        }
        c.due("at most so many calls", made <= CALLS ? 1 : 0, 1);
    }

    /** A number from least to most, or now and then one beside or far off. */
    private int some(int least, int most) {
        int odd = random.nextInt(40);
        if (odd == 0) {
            int[] wild = {Integer.MIN_VALUE, Integer.MAX_VALUE, least - 1, most + 1, -1, -2};
            return wild[random.nextInt(wild.length)];
        }
        return least + random.nextInt(most - least + 1);
    }

    private int who() {
        int size = Math.max(1, model.count(0));
        return some(0, random.nextInt(12) == 0 ? 7 : size - 1);
    }

    private int place() {
        return some(0, side - 1);
    }

    private int near() {
        return some(0, random.nextInt(3) == 0 ? 40 : side);
    }

    private int channel(int least) {
        return some(least, random.nextBoolean() ? 19 : 6);
    }

    private void feedText() {
        StringBuilder text = new StringBuilder();
        int clauses = 1 + random.nextInt(3) + (random.nextInt(8) == 0 ? 6 : 0);
        for (int k = 0; k < clauses; k++) {
            text.append(k == 0 ? "" : ";").append(random.nextInt(side)).append(',').append(random.nextInt(side));
            if (random.nextBoolean()) {
                text.append('=').append(random.nextInt(random.nextInt(9) == 0 ? 25 : 20));
                text.append(random.nextInt(3) == 0 ? "!" : "");
            }
        }
        int spoilt = random.nextInt(3) == 0 ? random.nextInt(text.length()) : -1;
        if (spoilt >= 0) {
            String signs = "0123456789,;=! a";
            text.setCharAt(spoilt, signs.charAt(random.nextInt(signs.length())));
        }
        for (int k = 0; k < text.length(); k++) {
            due("feed(" + text.charAt(k) + ")", x.feed(text.charAt(k)), model.feed(text.charAt(k)));
        }
        if (random.nextInt(10) != 0) {
            due("read() of " + text, x.read(), model.read());
        }
    }

    private void due(String name, long got, long want) {
        made++;
        c.due(name, got, want);
    }

    private void one(int sort) {
        int a;
        int b;
        int d;
        switch (sort) {
            case 0: a = place(); b = place(); due("station " + a + " " + b, x.station(a, b), model.station(a, b)); break;
            case 1: a = some(0, 2); b = near(); d = some(1, 4);
                due("rule " + a + " " + b + " " + d, x.rule(a, b, d), model.rule(a, b, d)); break;
            case 2: a = who(); b = channel(-1); due("channel " + a + " " + b, x.channel(a, b), model.channel(a, b)); break;
            case 3: a = who(); boolean is = random.nextBoolean(); due("fix " + a + " " + is, x.fix(a, is), model.fix(a, is)); break;
            case 4: a = who(); b = place(); d = place();
                due("move " + a + " " + b + " " + d, x.move(a, b, d), model.move(a, b, d)); break;
            case 5: a = some(0, 127); due("feed " + a, x.feed(a), model.feed(a)); break;
            case 7: a = who(); b = some(0, 7); due("of " + a + " " + b, x.of(a, b), model.of(a, b)); break;
            case 8: a = who(); b = who(); due("apart " + a + " " + b, x.apart(a, b), model.apart(a, b)); break;
            case 9: a = place(); b = place(); due("at " + a + " " + b, x.at(a, b), model.at(a, b)); break;
            case 10: due("assign", x.assign(), model.assign()); break;
            case 11: a = who(); b = channel(0); due("exchange " + a + " " + b, x.exchange(a, b), model.exchange(a, b)); break;
            case 12: a = some(0, 8); due("told " + a, x.told(a), model.told(a)); break;
            case 13: a = some(1, 4); due("clique " + a, x.clique(a), model.clique(a)); break;
            case 14: a = some(0, 7); due("sorted " + a, x.sorted(a), model.sorted(a)); break;
            case 15: a = random.nextInt(30) == 0 ? -1 : who(); b = channel(0);
                due("see " + a + " " + b, x.see(a, b), model.see(a, b)); break;
            case 16: a = some(0, 2); b = some(0, 1); due("fits " + a + " " + b, x.fits(a, b), model.fits(a, b)); break;
            case 17: a = who(); b = some(0, 1); due("odds " + a + " " + b, x.odds(a, b), model.odds(a, b)); break;
            case 18: a = some(0, 1); due("mean " + a, x.mean(a), model.mean(a)); break;
            case 19: a = random.nextInt(20) == 0 ? -1 : some(0, 3); b = a == 2 ? near() : who();
                due("plan " + a + " " + b, x.plan(a, b), model.plan(a, b)); break;
            case 20: a = some(0, 1); due("ends " + a, x.ends(a), model.ends(a)); break;
            default: other(sort); break;
        }
    }

    private void other(int sort) {
        int a;
        int b;
        int d;
        switch (sort) {
            case 21: a = random.nextInt(20) == 0 ? -1 : who();
                b = random.nextBoolean() && a >= 0 ? Math.max(-1, model.of(a, 2)) : channel(-1);
                due("book " + a + " " + b, x.book(a, b), model.book(a, b)); break;
            case 22: due("looked", x.looked(), model.looked()); break;
            case 23: judgeSome(); break;
            case 24: due("image", x.image(), model.image()); break;
            case 25: if (random.nextInt(4) == 0) { due("undo", x.undo(), model.undo()); } break;
            case 26: a = some(0, 5); due("count " + a, x.count(a), model.count(a)); break;
            case 27: a = some(0, 5); b = some(-1, 4); d = some(0, random.nextBoolean() ? 60 : 9);
                due("tape " + a + " " + b + " " + d, x.tape(a, b, d), model.tape(a, b, d)); break;
            case 28: a = some(0, 5); b = some(0, 9); long v = random.nextLong() >> random.nextInt(64);
                due("item " + a + " " + b + " " + v, x.item(a, b, v), model.item(a, b, v)); break;
            case 29: a = some(0, 5); b = some(0, 9); due("peek " + a + " " + b, x.peek(a, b), model.peek(a, b)); break;
            case 30: shiftSome(); break;
            default: a = some(0, 8); due("told " + a, x.told(a), model.told(a)); break;
        }
    }

    /** Tells the channels, mostly as they are, by a row of bytes, and judges them. */
    private void judgeSome() {
        int t = some(0, 5);
        int from = some(0, 3);
        if (random.nextInt(3) != 0) {
            int n = from + model.count(0) - random.nextInt(2);
            due("tape " + t + " 0 " + n, x.tape(t, 0, n), model.tape(t, 0, n));
            for (int s = 0; s < model.count(0); s++) {
                int v = random.nextInt(20) == 0 ? channel(-1) : Math.max(-1, model.of(s, 2));
                due("item " + t, x.item(t, from + s, v), model.item(t, from + s, v));
            }
        }
        due("judge " + t + " " + from, x.judge(t, from), model.judge(t, from));
    }

    private void shiftSome() {
        int t = some(0, 5);
        int other = random.nextBoolean() ? t : some(0, 5);
        int i = some(0, 6);
        int j = some(0, 6);
        int n = some(0, 6);
        due("shift " + t + " " + i + " " + other + " " + j + " " + n, x.shift(t, i, other, j, n),
            model.shift(t, i, other, j, n));
        for (int k = 0; k < 10; k++) {
            due("peek " + other + " " + k, x.peek(other, k), model.peek(other, k));
        }
    }
}
