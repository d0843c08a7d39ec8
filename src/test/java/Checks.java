/** Counts the answers that are not as due, and ends a test by them. */
final class Checks {
    private String promise = "";
    private int made = 0;
    private int wrong = 0;

    void promise(String name) {
        promise = name;
    }

    void due(String call, long got, long want) {
        made++;
        if (got != want) {
            wrong++;
            System.out.println(promise + ": " + call + " answered " + got + ", due is " + want);
        }
    }

    void end() {
        System.out.println(made + " answers looked at, " + wrong + " are not as due");
        if (wrong != 0 || made == 0) {
            System.exit(1);
        }
    }

    static void feed(GapStations x, String text) {
        for (int i = 0; i < text.length(); i++) {
            x.feed(text.charAt(i));
        }
    }

    static int read(GapStations x, String text) {
        feed(x, text);
        return x.read();
    }

    static GapStations of(String text) {
        GapStations x = new GapStations();
        read(x, text);
        return x;
    }

    /** The channels of all stations, as "1 - 3" (- for none). */
    static String channels(GapStations x) {
        StringBuilder all = new StringBuilder();
        for (int s = 0; s < x.count(0); s++) {
            all.append(s == 0 ? "" : " ").append(x.of(s, 2) < 0 ? "-" : "" + x.of(s, 2));
        }
        return all.toString();
    }

    void dueText(String call, String got, String want) {
        made++;
        if (!got.equals(want)) {
            wrong++;
            System.out.println(promise + ": " + call + " answered " + got + ", due is " + want);
        }
    }
}
