import java.lang.reflect.InvocationTargetException;
import java.lang.reflect.Method;
import java.util.ArrayList;
import java.util.HashMap;
import java.util.List;
import java.util.Map;
import java.util.Set;

/**
 * A run of calls on a new object, a line each: "station 3 4 = 0" is the call and the answer that is due.
 * Other lines: "text 1,2 = 3" feeds signs (the last answer is due), "reads 1,2 = 1" feeds them and reads,
 * "channels = 0 - 3" tells all channels, "items 0 = 1 2 3" a whole tape; what stands behind # is a remark. Where
 * ? is due, what the model answers is due.
 *
 * <p>Each line is looked at four ways: the class answers what is due; so does the model; if the line only asks,
 * or is refused, an object with it and one without it are alike; and the run keeps to as many calls as the
 * document promises.
 */
final class Script {
    static final int MOST_CALLS = 512;
    private static final Set<String> ASKING = Set.of("of", "apart", "at", "told", "clique", "sorted", "fits",
        "odds", "mean", "ends", "looked", "judge", "count", "peek", "channels", "items");
    private static final Set<String> NEVER_REFUSED = Set.of("read", "reads", "text", "image", "assign");
    private static final int NONE_BEFORE = -5;

    private final Checks c;
    private final List<String> calls = new ArrayList<>();
    private final List<String> dues = new ArrayList<>();

    private Script(Checks c, String lines) {
        this.c = c;
        for (String line : lines.split("\n")) {
            String told = line.contains("#") ? line.substring(0, line.indexOf('#')) : line;
            if (!told.isBlank()) {
                int end = (told + " ").lastIndexOf(" = ");
                if (end < 0) {
                    throw new IllegalArgumentException("no answer is due: " + line);
                }
                calls.add(told.substring(0, end).stripLeading());
                dues.add(told.substring(Math.min(told.length(), end + 3)).strip());
            }
        }
    }

    /** Looks whether a sentence of the document holds by a run. */
    static void check(Checks c, String sentence, String lines) {
        c.promise(sentence);
        Script script = new Script(c, lines);
        script.compareAnswers();
        script.compareStates();
    }

    /** Looks only at the answers of a run, which makes as many calls as it is told. */
    static void answers(Checks c, String sentence, String lines, int calls) {
        c.promise(sentence);
        Script script = new Script(c, lines);
        c.due("so many calls", script.compareAnswers(), calls);
    }

    /** A line for each of some words, which stand where the line has a %. */
    static String each(String line, String... words) {
        StringBuilder all = new StringBuilder();
        for (String word : words) {
            all.append(line.replace("%", word)).append('\n');
        }
        return all.toString();
    }

    private int compareAnswers() {
        Caller caller = new Caller(new GapStations());
        Caller model = new Caller(new Model());
        for (int k = 0; k < calls.size(); k++) {
            String told = model.answer(calls.get(k));
            String due = dues.get(k).equals("?") ? told : valueOf(dues.get(k));
            dues.set(k, due);
            c.dueText("line " + k + ": " + calls.get(k), caller.answer(calls.get(k)), due);
            c.dueText("line " + k + " of the model: " + calls.get(k), told, due);
        }
        c.due("so many calls: " + caller.made, caller.made <= MOST_CALLS ? 1 : 0, 1);
        return caller.made;
    }

    private void compareStates() {
        for (int k = 0; k < calls.size(); k++) {
            if (changesNothing(k)) {
                String name = "line " + k + ": all behind " + calls.get(k);
                c.dueText(name, stateBehind(k, true, true), stateBehind(k, false, true));
                c.dueText(name, stateBehind(k, true, false), stateBehind(k, false, false));
            }
        }
    }

    private boolean changesNothing(int k) {
        String name = calls.get(k).split(" ")[0];
        if (ASKING.contains(name) || NEVER_REFUSED.contains(name)) {
            return ASKING.contains(name);
        }
        long answer = Long.parseLong(dues.get(k));
        return answer < 0 && !(name.equals("channel") && answer == NONE_BEFORE);
    }

    private String stateBehind(int k, boolean isWithIt, boolean isAskedFirst) {
        GapStations x = new GapStations();
        Caller caller = new Caller(x);
        for (int i = 0; i < k; i++) {
            caller.answer(calls.get(i));
        }
        if (isWithIt) {
            caller.answer(calls.get(k));
        }
        return State.of(x, caller.made, isAskedFirst);
    }

    private static String valueOf(String word) {
        switch (word) {
            case "MIN": return "" + Integer.MIN_VALUE;
            case "MAX": return "" + Integer.MAX_VALUE;
            case "LMIN":
            case "NO": return "" + Long.MIN_VALUE;
            case "LMAX": return "" + Long.MAX_VALUE;
            default: return word;
        }
    }

    /** Makes the calls that lines tell. */
    private static final class Caller {
        private final Object target;
        private final Map<String, Method> methods = new HashMap<>();
        private int made = 0;

        Caller(Object target) {
            this.target = target;
            for (Method method : target.getClass().getDeclaredMethods()) {
                methods.put(method.getName(), method);
            }
        }

        String answer(String line) {
            String name = line.split(" ")[0];
            String rest = line.length() > name.length() ? line.substring(name.length() + 1) : "";
            switch (name) {
                case "text": return "" + feed(rest);
                case "reads": feed(rest); return "" + call("read");
                case "channels": return channels();
                case "items": return items(rest);
                default: return "" + call(name, rest.isBlank() ? new String[0] : rest.strip().split(" +"));
            }
        }

        private long feed(String signs) {
            long last = 0;
            for (int i = 0; i < signs.length(); i++) {
                last = call("feed", "" + (int) signs.charAt(i));
            }
            return last;
        }

        private String channels() {
            StringBuilder all = new StringBuilder();
            long size = call("count", "0");
            for (int s = 0; s < size; s++) {
                long channel = call("of", "" + s, "2");
                all.append(s == 0 ? "" : " ").append(channel == NONE_BEFORE ? "-" : "" + channel);
            }
            return all.toString();
        }

        private String items(String tape) {
            StringBuilder all = new StringBuilder();
            long item = call("peek", tape, "0");
            for (int i = 1; item != Long.MIN_VALUE; i++) {
                all.append(i == 1 ? "" : " ").append(item);
                item = call("peek", tape, "" + i);
            }
            return all.toString();
        }

        private long call(String name, String... words) {
            Method method = methods.get(name);
            Class<?>[] types = method.getParameterTypes();
            if (types.length != words.length) {
                throw new IllegalArgumentException(name + " takes " + types.length);
            }
            Object[] values = new Object[types.length];
            for (int i = 0; i < types.length; i++) {
                String value = valueOf(words[i]);
                if (types[i] == boolean.class) {
                    values[i] = Boolean.valueOf(value);
                } else if (types[i] == long.class) {
                    values[i] = Long.valueOf(value);
                } else {
                    values[i] = Integer.valueOf(value);
                }
            }
            made++;
            try {
                return ((Number) method.invoke(target, values)).longValue();
            } catch (IllegalAccessException | InvocationTargetException e) {
                throw new IllegalStateException(name + " " + String.join(" ", words), e);
            }
        }
    }
}
