/** Counts the answers that are not as due and ends the program with exit code 1 if there was one. */
final class Check {
    private final String test;
    private int checked = 0;
    private int wrong = 0;

    Check(String test) {
        this.test = test;
    }

    void due(String what, Object got, Object want) {
        checked++;
        if (!want.equals(got)) {
            wrong++;
            System.out.println(test + ": " + what + " answered " + got + ", due is " + want);
        }
    }

    boolean isClean() {
        return wrong == 0;
    }

    void finish() {
        System.out.println(test + ": " + checked + " answers looked at, " + wrong + " not as due");
        if (wrong != 0 || checked == 0) {
            System.exit(1);
        }
    }
}
