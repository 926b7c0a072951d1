/** Counts the answers of one test, and prints those that are not due. */
final class Due {
    private final String of;
    private int answers;
    private int wrong;

    Due(String of) {
        this.of = of;
    }

    void is(String call, long got, long want) {
        answers++;
        if (got != want) {
            wrong++;
            System.out.println(of + ": " + call + " answered " + got + ", due is " + want);
        }
    }

    int answers() {
        return answers;
    }

    void holds(String claim, boolean truth) {
        is(claim, truth ? 1 : 0, 1);
    }

    /** Says how it went; ends the program with 1 if an answer was wrong, or none was asked for. */
    void end() {
        System.out.println(of + ": " + (answers - wrong) + " of " + answers + " answers as due");
        if (wrong != 0 || answers == 0) {
            System.exit(1);
        }
    }
}
