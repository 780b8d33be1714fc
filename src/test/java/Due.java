/** Counts and prints the answers that are not the due ones. */
final class Due {
    private final String title;
    private int wrong = 0;

    Due(String title) {
        this.title = title;
    }

    void is(String call, long got, long want) {
        if (got != want) {
            wrong++;
            System.out.println(title + ": " + call + " answered " + got + ", due is " + want);
        }
    }

    void holds(String what, boolean does) {
        if (!does) {
            wrong++;
            System.out.println(title + ": does not hold: " + what);
        }
    }

    /** Ends the program, with exit code 1 if any answer was wrong. */
    void end() {
        System.exit(wrong == 0 ? 0 : 1);
    }
}
