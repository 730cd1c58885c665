// Counts and prints the answers that are not as due.
final class Check {
    private int wrong = 0;
    private int asked = 0;
    private String heading = "";

    // The sentence that the next answers are about.
    void under(String text) {
        heading = text + ": ";
    }

    int asked() {
        return asked;
    }

    void due(String what, long got, long want) {
        due(what, "" + got, "" + want);
    }

    void due(String what, boolean got, boolean want) {
        due(what, "" + got, "" + want);
    }

    void due(String what, String got, String want) {
        asked++;
        if (!got.equals(want)) {
            wrong++;
            System.out.println(heading + what + ": answered " + got + ", due is " + want);
        }
    }

    void finish() {
        if (asked == 0 || wrong != 0) {
            System.out.println(wrong + " of " + asked + " answers are not as due");
            System.exit(1);
        }
        System.out.println("all " + asked + " answers are as due");
    }
}
