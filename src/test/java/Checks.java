/** Counts what is not as due; each test ends with it. */
final class Checks {
    private int done = 0;
    private int wrong = 0;

    void due(String call, long got, long want) {
        done++;
        if (got != want) {
            wrong++;
            if (wrong <= 50) {
                System.out.println(call + " answered " + got + ", due is " + want);
            }
        }
    }

    void holds(String what, boolean so) {
        due(what, so ? 1 : 0, 1);
    }

    void end() {
        System.out.println((done - wrong) + " answers as due, " + wrong + " not");
        if (wrong != 0 || done == 0) {
            System.exit(1);
        }
    }
}
