import java.util.Random;

/** Runs by chance (of fixed seeds) on two objects, one of which is spared all calls that the other refuses: they answer alike. */
final class RefusedChangesNothingTest {
    private static final int RUNS = 600, CALLS = 240;
    private static final String[] CALLED = {"letter 0-140", "blank", "floor", "parcel -1-5 -1-6", "parcel 0-4 0-2", "parcel 3-4 0-2",
        "toss -1-6 -1-3", "toss 0-2 0-2", "carry -1-6", "carry 0-2", "change -1-6", "exchange -1-6 -1-6", "exchange 0-2 0-2",
        "found -1-6 -1-6", "found 0-2 0-2", "forget", "image", "restore", "hook -1-6 -1-7", "belt -1-8 -1-3", "as -1-8 -1-5",
        "odds -1-5 -1-6 -1-6", "hanging -1-16", "hung", "where -1-6", "shifts -1-61 -1-9 -1-3", "count -1-9", "digest", "fault"};
    private static final Checks CHECKS = new Checks();

    private final Random chance;
    private final int run;
    private final ThrownSacks x = new ThrownSacks();
    private final ThrownSacks spared = new ThrownSacks();

    private RefusedChangesNothingTest(int run) {
        this.run = run;
        this.chance = new Random(run);
    }

    public static void main(String[] args) {
        for (int run = 1; run <= RUNS && CHECKS.wrongOnes() == 0; run++) {
            new RefusedChangesNothingTest(run).walk();
        }
        CHECKS.end();
    }

    private void walk() {
        for (int call = 0; call < CALLS; call++) {
            if (call == 0 && run % 10 > 0 || chance.nextInt(80) == 0) {
                readFloor();
            }
            make(call(CALLED[chance.nextInt(CALLED.length)]));
        }
        CHECKS.due("run " + run + ": digest at the end", x.digest(), spared.digest());
    }

    /** Room is small here, so that sacks are full often. */
    private void readFloor() {
        StringBuilder text = new StringBuilder("11");
        int hooks = 3 + chance.nextInt(4);
        for (int hook = 1; hook < hooks; hook++) {
            text.append(',').append(1 + chance.nextInt(8)).append(1 + chance.nextInt(3));
        }
        text.append(';').append("31415926".substring(0, hooks));
        make("blank");
        for (char c : text.toString().toCharArray()) {
            make("letter " + (int) c);
        }
        make("floor");
    }

    /** "toss -1-6 0-2" is a call of toss with a number from -1 to 6 and one from 0 to 2. */
    private String call(String ranges) {
        StringBuilder made = new StringBuilder();
        for (String part : ranges.split(" ")) {
            int dash = part.lastIndexOf('-');
            if (dash < 0) {
                made.append(part);
            } else {
                int least = Integer.parseInt(part.substring(0, dash));
                int most = Integer.parseInt(part.substring(dash + 1));
                made.append(' ').append(least + chance.nextInt(most - least + 1));
            }
        }
        return made.toString();
    }

    private void make(String call) {
        long got = Script.answer(x, call);
        if (!Script.isRefusal(got)) {
            CHECKS.due("run " + run + ": " + call + " (due is what the one answers that was spared)", got, Script.answer(spared, call));
        }
    }
}
