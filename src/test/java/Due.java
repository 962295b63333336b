/** Counts the answers that are not as due, and tells each of them. */
final class Due {
    private String sentence = "";
    private int toldAtSentence;
    private int sentences;
    private int told;
    private int wrong;

    /** Names what the answers from now on hold to, as the document says it; one answer at least must. */
    void sentence(String words) {
        endSentence();
        sentence = words;
        sentences++;
        toldAtSentence = told;
    }

    private void endSentence() {
        if (sentences > 0 && told == toldAtSentence) {
            wrong++;
            System.out.println("nothing holds to: " + sentence);
        }
    }

    void is(String call, long got, long want) {
        told++;
        if (got != want) {
            wrong++;
            System.out.println((sentence.isEmpty() ? "" : sentence + " | ") + call + " answered " + got
                    + ", due is " + want);
        }
    }

    void is(String call, boolean so) {
        is(call, so ? 1 : 0, 1);
    }

    /** Ends the test, with exit code 1 if an answer was wrong. */
    void end() {
        endSentence();
        String by = sentences == 0 ? "" : ", by " + sentences + " sentences";
        System.out.println(wrong == 0 ? told + " answers are as due" + by : wrong + " answers are not as due");
        if (wrong != 0) {
            System.exit(1);
        }
    }

    /** Feeds a whole tape and has it read. */
    static int tell(StairTunes x, String tape) {
        feed(x, tape);
        return x.town();
    }

    static void feed(StairTunes x, String tape) {
        for (int i = 0; i < tape.length(); i++) {
            x.feed(tape.charAt(i));
        }
    }

    static StairTunes townOf(String tape) {
        StairTunes x = new StairTunes();
        tell(x, tape);
        return x;
    }
}
