/** Counts the answers that are not as due, and tells each of them. */
final class Due {
    private int told;
    private int wrong;

    void is(String call, long got, long want) {
        told++;
        if (got != want) {
            wrong++;
            System.out.println(call + " answered " + got + ", due is " + want);
        }
    }

    /** Ends the test, with exit code 1 if an answer was wrong. */
    void end() {
        System.out.println(wrong == 0 ? told + " answers are as due" : wrong + " answers are not as due");
        if (wrong != 0) {
            System.exit(1);
        }
    }

    /** Feeds a whole tape and has it read. */
    static int tell(StairTunes x, String tape) {
        for (int i = 0; i < tape.length(); i++) {
            x.feed(tape.charAt(i));
        }
        return x.town();
    }

    static StairTunes townOf(String tape) {
        StairTunes x = new StairTunes();
        tell(x, tape);
        return x;
    }
}
