/** Counts and prints the answers that are not the ones that are due. */
final class Check {
    int wrong = 0;
    int asked = 0;

    void due(String what, double got, double want) {
        asked++;
        if (got != want) {
            tell(what, got, want);
        }
    }

    /** For the many questions of the long runs: the words are only put together for a wrong answer. */
    void due(String when, String what, int first, int second, double got, double want) {
        asked++;
        if (got != want) {
            tell(when + ": " + what + " of " + first + ", " + second, got, want);
        }
    }

    private void tell(String what, double got, double want) {
        wrong++;
        if (wrong <= 40) {
            System.out.println(what + " answered " + got + ", due is " + want);
        }
    }

    void end(String test) {
        System.out.println(test + ": " + asked + " answers, " + wrong + " of them wrong");
        if (wrong != 0) {
            System.exit(1);
        }
    }
}
