/** Counts the answers that are not the ones due; every test of the project ends through it. */
final class Checks {
    private String named = "";
    private int sentences = 0;
    private int asked = 0;
    private int wrong = 0;

    /** Runs the test of one sentence of the document; all that goes wrong in it is told with the promise and the sentence. */
    void sentence(String promise, String words, Runnable test) {
        int before = asked;
        named = promise + ", \"" + words + "\": ";
        try {
            test.run();
        } catch (RuntimeException thrown) {
            holds("no call throws, but there was " + thrown, false);
        }
        // A test that asks nothing would pass whatever the class does.
        if (asked == before) {
            holds("the sentence has a check", false);
        }
        sentences++;
        named = "";
    }

    void due(String call, long got, long want) {
        asked++;
        if (got != want) {
            wrong++;
            System.out.println(named + call + " answered " + got + ", due is " + want);
        }
    }

    void holds(String what, boolean held) {
        asked++;
        if (!held) {
            wrong++;
            System.out.println(named + "does not hold: " + what);
        }
    }

    int wrong() {
        return wrong;
    }

    void end() {
        String about = sentences == 0 ? "" : sentences + " sentences, ";
        System.out.println(about + asked + " checks, " + wrong + " wrong");
        if (wrong != 0) {
            System.exit(1);
        }
    }
}
