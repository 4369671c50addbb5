import java.util.Map;

/**
 * Calls written as texts on a new object, with the answers that are due: "toss 0 NEXT = 1 | count 4 = 2".
 * "write TEXT" writes letters, "read TEXT" reads a FLOOR on an empty PAGE, "8 times CALL" makes a call eight times.
 * A second object gets only the calls that are not refused: the two answering alike, a refusal changes nothing.
 */
final class Script {
    private static final int MOST_CALLS = 512;
    private static final Map<String, Integer> NAMES = Map.ofEntries(
        Map.entry("NONE", -1), Map.entry("UNKNOWN", -101), Map.entry("OUTSIDE", -102), Map.entry("STATE", -103), Map.entry("FULL", -104),
        Map.entry("PARCEL", 0), Map.entry("SOFT", 1), Map.entry("HEAVY", 2), Map.entry("GLASS", 3), Map.entry("TIN", 4),
        Map.entry("IN", 0), Map.entry("NEXT", 1), Map.entry("BESIDE", 2),
        Map.entry("LOW", Integer.MIN_VALUE), Map.entry("HIGH", Integer.MAX_VALUE));

    private final ThrownSacks x = new ThrownSacks();
    private final ThrownSacks spared = new ThrownSacks();
    private final Checks checks;
    private final String title;
    private int calls;

    private Script(Checks checks, String title) {
        this.checks = checks;
        this.title = title;
    }

    static void run(Checks checks, String title, String... lines) {
        Script script = new Script(checks, title);
        for (String line : lines) {
            for (String step : line.split(" \\| ")) {
                script.step(step);
            }
        }
        script.compareWhatIsHidden();
        checks.due(title + ": calls above " + MOST_CALLS, Math.max(0, script.calls - MOST_CALLS), 0);
    }

    private void step(String step) {
        int equals = step.lastIndexOf(" = ");
        String call = equals < 0 ? step : step.substring(0, equals);
        if (call.startsWith("write ")) {
            write(call.substring(6));
        } else if (call.startsWith("read ")) {
            String text = call.substring(5);
            make("blank");
            write(text);
            due(call, make("floor"), text.length() / 4);
        } else {
            long got = makeOften(call);
            if (equals >= 0) {
                due(call, got, number(step.substring(equals + 3)));
            }
        }
    }

    private void write(String text) {
        for (char c : text.toCharArray()) {
            long got = make("letter " + (int) c);
            due("letter " + c + " is taken", got < 0 ? got : 1, 1);
        }
    }

    private long makeOften(String call) {
        int times = call.indexOf(" times ");
        if (times < 0) {
            return make(call);
        }
        long got = 0;
        for (int i = 0; i < number(call.substring(0, times)); i++) {
            got = make(call.substring(times + 7));
        }
        return got;
    }

    private long make(String call) {
        long got = answer(x, call);
        calls++;
        if (isRefusal(got)) {
            calls++;
            due("after the refused " + call + ", digest", x.digest(), spared.digest());
        } else {
            due(call + " of the one that was spared the refused calls", got, answer(spared, call));
        }
        return got;
    }

    private void due(String call, long got, long want) {
        checks.due(title + ": " + call, got, want);
    }

    /** Of which GLASS is HARMED, and of the IMAGE, no call tells: so TINS come to all sacks, now and at the IMAGE. */
    private void compareWhatIsHidden() {
        String[] starts = {"digest", "restore"};
        long hooks = make("count 0");
        for (String start : starts) {
            make(start);
            for (int round = 0; round < 3; round++) {
                make("parcel TIN 0");
                for (int hook = 0; hook < hooks; hook++) {
                    make("carry " + hook);
                }
                make("count 5");
            }
        }
    }

    static boolean isRefusal(long answer) {
        return answer <= -101 && answer >= -104;
    }

    static int number(String text) {
        return NAMES.containsKey(text) ? NAMES.get(text) : Integer.parseInt(text);
    }

    static long answer(ThrownSacks x, String call) {
        String[] parts = call.split(" ");
        int a = parts.length > 1 ? number(parts[1]) : 0;
        int b = parts.length > 2 ? number(parts[2]) : 0;
        int c = parts.length > 3 ? number(parts[3]) : 0;
        switch (parts[0]) {
            case "letter": return x.letter(a);
            case "blank": return x.blank();
            case "fault": return x.fault();
            case "floor": return x.floor();
            case "hook": return x.hook(a, b);
            case "parcel": return x.parcel(a, b);
            case "belt": return x.belt(a, b);
            case "as": return x.as(a, b);
            case "toss": return x.toss(a, b);
            case "carry": return x.carry(a);
            case "change": return x.change(a);
            case "exchange": return x.exchange(a, b);
            case "odds": return x.odds(a, b, c);
            case "hanging": return x.hanging(a);
            case "found": return x.found(a, b);
            case "forget": return x.forget();
            case "hung": return x.hung();
            case "where": return x.where(a);
            case "shifts": return x.shifts(a, b, c);
            case "image": return x.image();
            case "restore": return x.restore();
            case "count": return x.count(a);
            case "digest": return x.digest();
            default: throw new IllegalArgumentException("no such call: " + call);
        }
    }
}
