/** Counts what is checked, and tells of each answer that is not the one due. */
final class Checks {
    private int checked;
    private int wrong;

    void due(String call, long got, long want) {
        checked++;
        if (got != want) {
            wrong++;
            System.out.println(call + " answered " + got + ", due is " + want);
        }
    }

    int wrongOnes() {
        return wrong;
    }

    void end() {
        System.out.println(checked + " answers checked, " + wrong + " wrong");
        System.exit(checked == 0 || wrong > 0 ? 1 : 0);
    }
}
