import java.util.ArrayList;
import java.util.Arrays;
import java.util.HashSet;
import java.util.List;
import java.util.Set;
import java.util.regex.Matcher;
import java.util.regex.Pattern;

/** The document once more, as plainly as it can be said, without a thought of what a call costs. */
final class Model {
    private static final String NUMBER = "(?:[0-2]?[0-9]|3[01])", CHANNEL = "[01]?[0-9]";
    private static final String CLAUSE = NUMBER + "," + NUMBER + "(?:=" + CHANNEL + "!?)?";
    private static final Pattern TEXT = Pattern.compile(CLAUSE + "(?:;" + CLAUSE + "){0,7}");

    /** A station; a channel of -1 is none. */
    private static final class Station {
        int x, y, channel = -1;
        boolean fixed;

        Station copy() {
            Station other = new Station();
            other.x = x;
            other.y = y;
            other.channel = channel;
            other.fixed = fixed;
            return other;
        }
    }

    /** All that the image holds. */
    private static final class Sheet {
        List<Station> stations = new ArrayList<>();
        int[] near = {0, 0, 0}, gap = {1, 1, 1};
        List<int[]> seen = new ArrayList<>(), plan = new ArrayList<>(), book = new ArrayList<>();

        Sheet copy() {
            Sheet other = new Sheet();
            for (Station s : stations) {
                other.stations.add(s.copy());
            }
            other.near = near.clone();
            other.gap = gap.clone();
            other.seen.addAll(seen);
            other.plan.addAll(plan);
            other.book.addAll(book);
            return other;
        }

        int size() {
            return stations.size();
        }

        int channel(int s) {
            return stations.get(s).channel;
        }

        int apart(int a, int b) {
            double far = Math.hypot(stations.get(a).x - stations.get(b).x, stations.get(a).y - stations.get(b).y);
            int greatest = 0;
            for (int r = 0; r < 3; r++) {
                if (near[r] > 0 && far <= near[r] + 1e-9) {
                    greatest = Math.max(greatest, gap[r]);
                }
            }
            return greatest;
        }

        boolean clash(int a, int b) {
            return a != b && channel(a) >= 0 && channel(b) >= 0
                && Math.abs(channel(a) - channel(b)) < apart(a, b);
        }

        int clashes(int a) {
            int many = 0;
            for (int b = 0; b < size(); b++) {
                many += clash(a, b) ? 1 : 0;
            }
            return many;
        }

        int clashes() {
            int many = 0;
            for (int a = 0; a < size(); a++) {
                for (int b = a + 1; b < size(); b++) {
                    many += clash(a, b) ? 1 : 0;
                }
            }
            return many;
        }

        List<Integer> allowed(int s) {
            List<Integer> all = new ArrayList<>();
            Station it = stations.get(s);
            int had = it.channel;
            for (it.channel = 0; it.channel < 20; it.channel++) {
                if (clashes(s) == 0) {
                    all.add(it.channel);
                }
            }
            it.channel = had;
            return all;
        }

        int others(int s) {
            int many = 0;
            for (int b = 0; b < size(); b++) {
                many += b != s && apart(s, b) > 0 ? 1 : 0;
            }
            return many;
        }

        int span() {
            int least = 99;
            int most = -1;
            for (Station s : stations) {
                if (s.channel >= 0) {
                    least = Math.min(least, s.channel);
                    most = Math.max(most, s.channel);
                }
            }
            return most < 0 ? 0 : most - least + 1;
        }

        int assign() {
            for (Station s : stations) {
                s.channel = s.fixed ? s.channel : -1;
            }
            Set<Integer> stuck = new HashSet<>();
            while (true) {
                int next = -1;
                for (int s = 0; s < size(); s++) {
                    if (channel(s) < 0 && !stuck.contains(s) && (next < 0 || isAhead(s, next))) {
                        next = s;
                    }
                }
                if (next < 0) {
                    return stuck.size();
                }
                List<Integer> may = allowed(next);
                if (may.isEmpty()) {
                    stuck.add(next);
                } else {
                    stations.get(next).channel = may.get(0);
                }
            }
        }

        private boolean isAhead(int a, int b) {
            int fewer = allowed(b).size() - allowed(a).size();
            return fewer > 0 || fewer == 0 && others(a) > others(b);
        }

        int exchange(int first, int c) {
            int own = channel(first);
            List<Integer> chain = new ArrayList<>();
            chain.add(first);
            for (int k = 0; k < chain.size(); k++) {
                int s = chain.get(k);
                for (int b = 0; b < size(); b++) {
                    if (!chain.contains(b) && apart(s, b) > 0 && channel(b) == (channel(s) == own ? c : own)) {
                        chain.add(b);
                    }
                }
            }
            int before = clashes();
            Sheet ahead = copy();
            for (int s : chain) {
                if (stations.get(s).fixed) {
                    stations = ahead.stations;
                    return -5;
                }
                stations.get(s).channel = channel(s) == own ? c : own;
            }
            if (clashes() > before) {
                stations = ahead.stations;
                return -6;
            }
            return chain.size();
        }

        int clique(int g) {
            int best = 0;
            for (int bits = 0; bits < 1 << size(); bits++) {
                boolean all = true;
                for (int a = 0; a < size(); a++) {
                    for (int b = 0; b < a; b++) {
                        all &= (bits >> a & 1) == 0 || (bits >> b & 1) == 0 || apart(a, b) >= g;
                    }
                }
                if (all && Integer.bitCount(bits) > Integer.bitCount(best)) {
                    best = bits;
                }
            }
            return best;
        }

        int bound() {
            int most = 0;
            for (int g = 1; g <= 4 && size() > 0; g++) {
                most = Math.max(most, (Integer.bitCount(clique(g)) - 1) * g + 1);
            }
            return most;
        }

        int least() {
            if (size() == 0) {
                return 0;
            }
            int[][] aparts = new int[size()][size()];
            for (int a = 0; a < size(); a++) {
                for (int b = 0; b < size(); b++) {
                    aparts[a][b] = a == b ? 0 : apart(a, b);
                }
            }
            for (int k = 1; k <= 12; k++) {
                if (canGoOn(new int[size()], 0, k, aparts)) {
                    return k;
                }
            }
            return -5;
        }

        private boolean canGoOn(int[] channels, int s, int k, int[][] aparts) {
            if (s == channels.length) {
                return true;
            }
            Station it = stations.get(s);
            for (int c = 0; c < k; c++) {
                boolean may = !it.fixed || it.channel == c;
                for (int b = 0; b < s && may; b++) {
                    may = Math.abs(channels[b] - c) >= aparts[s][b];
                }
                channels[s] = c;
                if (may && canGoOn(channels, s + 1, k, aparts)) {
                    return true;
                }
            }
            return false;
        }

        boolean isSeen() {
            for (int[] row : seen) {
                if (channel(row[0]) != row[1]) {
                    return false;
                }
            }
            return true;
        }
    }

    private Sheet now = new Sheet();
    private Sheet image = null;
    private String text = "";
    private final int[] sorts = {-1, -1, -1, -1, -1, -1};
    private final long[][] tapes = new long[6][];

    private boolean no(int station) {
        return station < 0 || station >= now.size();
    }

    private static boolean out(int value, int least, int most) {
        return value < least || value > most;
    }

    int station(int x, int y) {
        if (out(x, 0, 31) || out(y, 0, 31)) {
            return -2;
        }
        if (at(x, y) >= 0) {
            return -3;
        }
        if (now.size() == 8) {
            return -4;
        }
        Station s = new Station();
        s.x = x;
        s.y = y;
        now.stations.add(s);
        return now.size() - 1;
    }

    int rule(int rule, int near, int gap) {
        if (out(rule, 0, 2)) {
            return -1;
        }
        if (out(near, 0, 40) || out(gap, 1, 4)) {
            return -2;
        }
        int was = 100 * now.near[rule] + now.gap[rule];
        now.near[rule] = near;
        now.gap[rule] = gap;
        return was;
    }

    int channel(int station, int channel) {
        if (no(station)) {
            return -1;
        }
        if (out(channel, -1, 19)) {
            return -2;
        }
        Station s = now.stations.get(station);
        if (s.fixed && channel >= 0) {
            return -3;
        }
        int was = s.channel < 0 ? -5 : s.channel;
        s.channel = channel;
        if (channel < 0) {
            s.fixed = false;
        }
        return was;
    }

    int fix(int station, boolean isFixed) {
        if (no(station)) {
            return -1;
        }
        Station s = now.stations.get(station);
        if (s.channel < 0) {
            return -3;
        }
        int was = s.fixed ? 1 : 0;
        s.fixed = isFixed;
        return was;
    }

    int move(int station, int x, int y) {
        if (no(station)) {
            return -1;
        }
        if (out(x, 0, 31) || out(y, 0, 31)) {
            return -2;
        }
        if (at(x, y) >= 0 && at(x, y) != station) {
            return -3;
        }
        Station s = now.stations.get(station);
        int square = (s.x - x) * (s.x - x) + (s.y - y) * (s.y - y);
        s.x = x;
        s.y = y;
        return square;
    }

    int feed(int sign) {
        if (out(sign, 0, 127)) {
            return -2;
        }
        if (text.length() == 100) {
            return -4;
        }
        text += (char) sign;
        return text.length();
    }

    int read() {
        String told = text;
        text = "";
        for (int end = 0; end <= told.length(); end++) {
            Matcher matcher = TEXT.matcher(told.substring(0, end));
            boolean isWhole = matcher.matches();
            if (!isWhole && !matcher.hitEnd()) {
                return -10 - (end - 1);
            }
            if (!isWhole && end == told.length()) {
                return -10 - end;
            }
        }
        int came = 0;
        for (String clause : told.split(";")) {
            String[] parts = clause.replace("!", "").split("[,=]");
            int s = station(Integer.parseInt(parts[0]), Integer.parseInt(parts[1]));
            if (s >= 0) {
                came++;
                if (parts.length > 2) {
                    channel(s, Integer.parseInt(parts[2]));
                    fix(s, clause.endsWith("!"));
                }
            }
        }
        return came;
    }

    int of(int station, int what) {
        if (no(station) || out(what, 0, 7)) {
            return -1;
        }
        Station s = now.stations.get(station);
        List<Integer> allowed = now.allowed(station);
        return new int[] {s.x, s.y, s.channel < 0 ? -5 : s.channel, s.fixed ? 1 : 0, allowed.size(),
            allowed.isEmpty() ? -5 : allowed.get(0), now.others(station), now.clashes(station)}[what];
    }

    int apart(int a, int b) {
        return no(a) || no(b) || a == b ? -1 : now.apart(a, b);
    }

    int at(int x, int y) {
        if (out(x, 0, 31) || out(y, 0, 31)) {
            return -2;
        }
        for (int s = 0; s < now.size(); s++) {
            if (now.stations.get(s).x == x && now.stations.get(s).y == y) {
                return s;
            }
        }
        return -5;
    }

    int assign() {
        return now.assign();
    }

    int exchange(int station, int channel) {
        if (no(station)) {
            return -1;
        }
        if (out(channel, 0, 19)) {
            return -2;
        }
        int own = now.channel(station);
        return own < 0 || own == channel ? -3 : now.exchange(station, channel);
    }

    int told(int what) {
        Set<Integer> unlike = new HashSet<>();
        int many = 0;
        int fixed = 0;
        for (int s = 0; s < now.size(); s++) {
            if (now.channel(s) >= 0) {
                unlike.add(now.channel(s));
                many++;
            }
            fixed |= now.stations.get(s).fixed ? 1 << s : 0;
        }
        switch (what) {
            case 0: return now.size();
            case 1: return now.span();
            case 2: return now.clashes();
            case 3: return now.bound();
            case 4: return now.least();
            case 5: return now.least() == now.bound() ? 1 : 0;
            case 6: return many;
            case 7: return unlike.size();
            case 8: return fixed;
            default: return -1;
        }
    }

    int clique(int gap) {
        return out(gap, 1, 4) ? -2 : now.clique(gap);
    }

    int sorted(int k) {
        if (k < 0) {
            return -1;
        }
        List<Integer> all = new ArrayList<>();
        for (int s = 0; s < now.size(); s++) {
            if (now.channel(s) >= 0) {
                all.add(s);
            }
        }
        all.sort((a, b) -> now.channel(a) * 10 + a - now.channel(b) * 10 - b);
        return k < all.size() ? all.get(k) : -5;
    }

    private static int come(List<int[]> rows, int most, int a, int b) {
        if (rows.size() == most) {
            return -4;
        }
        rows.add(new int[] {a, b});
        return rows.size();
    }

    int see(int station, int channel) {
        if (station == -1) {
            now.seen.clear();
            return 0;
        }
        return no(station) ? -1 : out(channel, 0, 19) ? -2 : come(now.seen, 5, station, channel);
    }

    int fits(int rule, int what) {
        if (out(rule, 0, 2) || out(what, 0, 1)) {
            return -1;
        }
        List<Integer> nears = new ArrayList<>();
        for (int near = 1; near <= 40; near++) {
            Sheet sheet = now.copy();
            sheet.near[rule] = near;
            sheet.assign();
            if (sheet.isSeen()) {
                nears.add(near);
            }
        }
        return what == 0 ? nears.size() : nears.isEmpty() ? -5 : nears.get(0);
    }

    private static long part(int above, int below, int part) {
        int by = below;
        while (above % by != 0 || below % by != 0) {
            by--;
        }
        return part == 0 ? above / by : below / by;
    }

    long odds(int station, int part) {
        if (no(station) || out(part, 0, 1)) {
            return Long.MIN_VALUE;
        }
        int good = 0;
        for (int c = 0; c < 10; c++) {
            Sheet sheet = now.copy();
            sheet.stations.get(station).channel = c;
            sheet.stations.get(station).fixed = true;
            good += sheet.assign() == 0 && sheet.clashes() == 0 ? 1 : 0;
        }
        return part(good, 10, part);
    }

    long mean(int part) {
        int sum = 0;
        int many = 0;
        for (Station s : now.stations) {
            if (s.channel >= 0) {
                sum += s.channel;
                many++;
            }
        }
        return out(part, 0, 1) || many == 0 ? Long.MIN_VALUE : part(sum, many, part);
    }

    int plan(int what, int n) {
        if (what == -1) {
            now.plan.clear();
            return 0;
        }
        if (out(what, 0, 3) || (what == 1 || what == 3) && no(n)) {
            return -1;
        }
        return what == 2 && out(n, 0, 40) ? -2 : come(now.plan, 8, what, n);
    }

    int ends(int what) {
        if (out(what, 0, 1)) {
            return -1;
        }
        Sheet sheet = now.copy();
        for (int[] row : now.plan) {
            if (row[0] == 0) {
                sheet.assign();
            } else if (row[0] == 1) {
                sheet.stations.get(row[1]).channel = -1;
                sheet.stations.get(row[1]).fixed = false;
            } else if (row[0] == 2) {
                sheet.near[0] = row[1];
            } else if (sheet.channel(row[1]) >= 0) {
                sheet.stations.get(row[1]).fixed = true;
            }
        }
        return what == 0 ? sheet.span() : sheet.clashes();
    }

    int book(int station, int channel) {
        if (station == -1) {
            now.book.clear();
            return 0;
        }
        return no(station) ? -1 : out(channel, -1, 19) ? -2 : come(now.book, 8, station, channel);
    }

    int looked() {
        for (int k = 0; k < now.book.size(); k++) {
            if (now.channel(now.book.get(k)[0]) != now.book.get(k)[1]) {
                return k;
            }
        }
        return -5;
    }

    int judge(int tape, int i) {
        if (out(tape, 0, 5)) {
            return -1;
        }
        if (sorts[tape] > 0) {
            return -12;
        }
        if (now.size() == 0) {
            return -5;
        }
        if (sorts[tape] < 0 || i < 0) {
            return 100;
        }
        for (int s = 0; s < now.size(); s++) {
            if ((long) i + s >= tapes[tape].length) {
                return 100 + s;
            }
            if (tapes[tape][i + s] != now.channel(s)) {
                return s;
            }
        }
        return -5;
    }

    int image() {
        image = now.copy();
        return now.size();
    }

    int undo() {
        if (image == null) {
            return -3;
        }
        now = image.copy();
        return now.size();
    }

    int count(int what) {
        int rules = 0;
        for (int near : now.near) {
            rules += near > 0 ? 1 : 0;
        }
        return out(what, 0, 5) ? -2 : new int[] {now.size(), rules, now.seen.size(), now.plan.size(),
            now.book.size(), text.length()}[what];
    }

    int tape(int tape, int sort, int n) {
        if (out(tape, 0, 5)) {
            return -1;
        }
        if (out(sort, -1, 4) || sort >= 0 && n > 60) {
            return -2;
        }
        if (sort >= 0 && n < 0) {
            return -14;
        }
        sorts[tape] = sort;
        tapes[tape] = sort < 0 ? null : new long[n];
        return 1;
    }

    int item(int tape, int i, long v) {
        if (out(tape, 0, 5)) {
            return -1;
        }
        if (sorts[tape] < 0) {
            return -11;
        }
        if (out(i, 0, tapes[tape].length - 1)) {
            return -13;
        }
        tapes[tape][i] = new long[] {(byte) v, (short) v, (int) v, v, v != 0 ? 1 : 0}[sorts[tape]];
        return 1;
    }

    long peek(int tape, int i) {
        return out(tape, 0, 5) || sorts[tape] < 0 || out(i, 0, tapes[tape].length - 1) ? Long.MIN_VALUE
            : tapes[tape][i];
    }

    int shift(int tape, int i, int other, int j, int n) {
        if (out(tape, 0, 5) || out(other, 0, 5)) {
            return -1;
        }
        if (sorts[tape] < 0 || sorts[other] < 0) {
            return -11;
        }
        if (sorts[tape] != sorts[other]) {
            return -12;
        }
        if (n < 0 || i < 0 || j < 0 || (long) i + n > tapes[tape].length || (long) j + n > tapes[other].length) {
            return -13;
        }
        long[] items = Arrays.copyOfRange(tapes[tape], i, i + n);
        System.arraycopy(items, 0, tapes[other], j, n);
        return n;
    }
}
