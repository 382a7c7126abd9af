/** Counts and prints the answers that are not as due. */
final class Checks {
    private final String name;
    private String about = "";
    private int madeBefore = -1;
    private int made;
    private int wrong;

    Checks(String name) {
        this.name = name;
    }

    /** The promise (0: the terms) and the words of the document that the next answers are about. */
    void about(int promise, String words) {
        endOfWords();
        madeBefore = made;
        about = (promise == 0 ? "terms" : "promise " + promise) + ", \"" + words + "\": ";
    }

    /** Words that were quoted without a look at anything have no test. */
    private void endOfWords() {
        if (made == madeBefore) {
            wrong++;
            System.out.println(name + ": " + about + "nothing was looked at");
        }
    }

    void same(String what, long got, long due) {
        made++;
        if (got != due) {
            wrong++;
            System.out.println(name + ": " + about + what + " answered " + got + ", due is " + due);
        }
    }

    void yes(String what, boolean got) {
        same(what, got ? 1 : 0, 1);
    }

    void no(String what, boolean got) {
        same(what, got ? 1 : 0, 0);
    }

    /** Ends the program with exit code 1 if an answer was wrong, or if nothing was looked at. */
    void end() {
        endOfWords();
        System.out.println(name + ": " + (made - wrong) + " of " + made + " answers are as due");
        if (wrong > 0 || made == 0) {
            System.exit(1);
        }
    }
}
