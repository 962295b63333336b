/** Promises 6 to 9, sentence by sentence: the edges of the tape, of TOKENS, of FAULTS, and of ACTS. */
public final class ToldEdgeTest {
    private static final int STATE = StairTunes.STATE, FULL = StairTunes.FULL;
    private static final String GOOD = "t0,0;p0;z0,0,1,0;";
    private static final String EIGHT = "t0,0;p0;p1;p2;p3;p4;p5;p6;p7;";
    private static final String FIVE = "z0,0,1,0;z0,0,1,0;z0,0,1,0;z0,0,1,0;z0,0,1,0;";
    /** As long as a tape can be: 100 bytes. */
    private static final String LONGEST = "t15,9;p09;p08;p07;p06;p05;p04;p03;p02;"
            + "z07,00,03,20;z07,00,03,20;z07,00,03,20;z07,00,03,20;z7,0,3,20;";
    private static final String LONG = "t15,09;p09;p08;p07;p06;p05;p04;p03;p02;"
            + "z07,00,3,20;z07,00,3,20;z07,00,3,20;z07,00,3,20;z07,00,3,20;";
    private static final Due DUE = new Due();

    public static void main(String[] args) {
        promise6();
        promise7TheLongestTape();
        promise7Numbers();
        promise7Law();
        promise7Treads();
        promise7Walkers();
        tokensThatAreNone();
        tokensThatCannotStandThere();
        aRunOfThreeFigures();
        theEnd();
        moreThanThereIsRoomFor();
        theFirstTokenAndTheLeastFault();
        promise7TheTapeIsEmptyThen();
        promise7WhatStays();
        promise7InPlace();
        promise8();
        promise9Acts();
        promise9TheOldestIsForgotten();
        promise9NothingBecomesAnother();
        promise9NoActs();
        DUE.end();
    }

    private static void good(String tape, int treads) {
        StairTunes x = new StairTunes();
        DUE.is("town of " + tape, Due.tell(x, tape), treads);
        DUE.is("fault of " + tape, x.fault(), 0);
        DUE.is("bytes behind " + tape, x.count(7), 0);
    }

    private static void fault(String tape, int place, int number) {
        StairTunes x = new StairTunes();
        DUE.is("town of " + tape, Due.tell(x, tape), -1000100 - place);
        DUE.is("fault of " + tape, x.fault(), number);
        DUE.is("bytes behind " + tape, x.count(7), 0);
        DUE.is("treads behind " + tape, x.count(1), 0);
    }

    private static void promise6() {
        StairTunes x = new StairTunes();
        DUE.sentence("Promise 6: how many it has, up to 100");
        for (int k = 1; k <= 100; k++) {
            DUE.is("feed " + k, x.feed(k == 1 ? 0 : k == 2 ? 255 : 't'), k);
        }
        DUE.is("count(7)", x.count(7), 100);
        DUE.sentence("Promise 6: FULL: at most 100 bytes");
        DUE.is("feed 101", x.feed('t'), FULL);
        DUE.is("feed 102", x.feed(0), FULL);
        DUE.is("count(7)", x.count(7), 100);
        DUE.sentence("Promise 7: The tape is empty then, also a full one, also behind a FAULT");
        DUE.is("town", x.town(), -1000100);
        DUE.is("count(7)", x.count(7), 0);
        DUE.is("feed", x.feed('t'), 1);
    }

    private static void promise7TheLongestTape() {
        DUE.sentence("THE TAPE has at most 100 bytes: a TOWN of 100 is read");
        DUE.is("bytes", LONGEST.length(), 100);
        good(LONGEST, 8);
        StairTunes x = Due.townOf(LONGEST);
        DUE.is("last walker, from", x.walker(4, 0), 7);
        DUE.is("last walker, start", x.walker(4, 3), 20);
        DUE.sentence("THE TAPE has at most 100 bytes: the end of a full tape is place 100");
        String first = LONGEST.substring(0, 90);
        fault(first + "z07,0,3,20;", 100, 1);
        DUE.sentence("THE TAPE has at most 100 bytes: a NUMBER at its end ends there");
        fault(first + "z07,00,3,20;", 100, 1);
        fault(first + "z7,00,3,123;", 100, 1);
        fault(first + "z7,00,3,23;", 98, 2);
    }

    private static void promise7Numbers() {
        DUE.sentence("NUMBERS (figures, 2 at most): of one figure and of two");
        good("t1,1;p1;z0,0,1,1;", 1);
        good("t01,01;p01;z00,00,01,01;", 1);
        good("t00,00;p00;z00,00,03,00;", 1);
        StairTunes x = Due.townOf("t15,09;p08;z00,00,02,19;");
        DUE.is("reach", x.count(5), 9);
        DUE.is("note", x.tread(0, 0), 8);
        DUE.is("step", x.walker(0, 2), 2);
        DUE.is("start", x.walker(0, 3), 19);
    }

    private static void promise7Law() {
        for (int wet = 0; wet <= 15; wet++) {
            DUE.sentence("law: WET " + wet + " (0 to 15: bits of DAYS by 4 left over)");
            StairTunes x = Due.townOf("t" + wet + ",0;p0;z0,0,1,0;");
            for (int day = 0; day < 6; day++) {
                DUE.is("wet on day " + day, x.count(4), wet >> day % 4 & 1);
                x.days(1);
            }
        }
        DUE.sentence("law: WET above 15");
        fault("t16,0;p0;z0,0,1,0;", 1, 2);
        fault("t99,0;p0;z0,0,1,0;", 1, 2);
        for (int reach = 0; reach <= 9; reach++) {
            DUE.sentence("law: REACH " + reach + " (0 to 9)");
            DUE.is("reach", Due.townOf("t0," + reach + ";p0;z0,0,1,0;").count(5), reach);
        }
        DUE.sentence("law: REACH above 9");
        fault("t0,10;p0;z0,0,1,0;", 3, 2);
        fault("t15,99;p0;z0,0,1,0;", 4, 2);
    }

    private static void promise7Treads() {
        String sorts = "pslrf";
        for (int k = 0; k < 5; k++) {
            DUE.sentence("tread: SORT " + sorts.charAt(k));
            DUE.is("kind", Due.townOf("t0,0;" + sorts.charAt(k) + "0;z0,0,1,0;").kind(0), k + 1);
        }
        for (int note = 0; note <= 9; note++) {
            DUE.sentence("tread: NOTE " + note + " (0 to 9)");
            DUE.is("note", Due.townOf("t0,0;p" + note + ";z0,0,1,0;").tread(0, 0), note);
        }
        DUE.sentence("tread: NOTE above 9");
        fault("t0,0;p10;z0,0,1,0;", 6, 2);
        fault("t0,0;p99;z0,0,1,0;", 6, 2);
        DUE.sentence("town: law tread { tread }: one at least");
        fault("t0,0;z0,0,1,0;", 5, 1);
        DUE.sentence("TREADS 0 .. 7, 8 at most, from below up");
        for (int treads = 1; treads <= 8; treads++) {
            String tape = EIGHT.substring(0, 5 + 3 * treads) + "z0,0,1,0;";
            good(tape, treads);
            StairTunes x = Due.townOf(tape);
            DUE.is("count(1)", x.count(1), treads);
            for (int t = 0; t < 9; t++) {
                DUE.is("note of " + t, x.tread(t, 0), t < treads ? t : StairTunes.BAD);
            }
        }
    }

    private static void promise7Walkers() {
        DUE.sentence("town: walker { walker }: one at least");
        fault("t0,0;p0;", 8, 1);
        fault(EIGHT, 29, 1);
        DUE.sentence("WALKERS 0 .. 4, 5 at most");
        for (int walkers = 1; walkers <= 5; walkers++) {
            String tape = "t0,0;p0;" + FIVE.substring(0, 9 * walkers);
            good(tape, 1);
            StairTunes x = Due.townOf(tape);
            DUE.is("count(2)", x.count(2), walkers);
            for (int w = 0; w < 6; w++) {
                DUE.is("step of " + w, x.walker(w, 2), w < walkers ? 1 : StairTunes.BAD);
            }
        }
        DUE.sentence("walker: FROM, TO: a TREAD that is there");
        for (int treads = 1; treads <= 8; treads++) {
            String stairs = EIGHT.substring(0, 5 + 3 * treads);
            int last = treads - 1;
            good(stairs + "z" + last + "," + last + ",1,0;", treads);
            fault(stairs + "z" + treads + ",0,1,0;", stairs.length() + 1, 2);
            fault(stairs + "z0," + treads + ",1,0;", stairs.length() + 3, 2);
        }
        DUE.sentence("walker: two TREADS, or one");
        good("t0,0;p0;p1;z0,1,1,0;z1,0,1,0;z1,1,1,0;", 2);
        DUE.sentence("walker: STEP 1 to 3");
        fault("t0,0;p0;z0,0,0,0;", 13, 2);
        good("t0,0;p0;z0,0,1,0;", 1);
        good("t0,0;p0;z0,0,3,0;", 1);
        fault("t0,0;p0;z0,0,4,0;", 13, 2);
        DUE.sentence("walker: START 0 to 20");
        good("t0,0;p0;z0,0,1,20;", 1);
        fault("t0,0;p0;z0,0,1,21;", 15, 2);
        fault("t0,0;p0;z0,0,1,99;", 15, 2);
    }

    private static void tokensThatAreNone() {
        DUE.sentence("TOKENS: letters a to z, NUMBERS, SIGNS , and ; nothing else");
        for (int c = 0; c <= 255; c++) {
            boolean isFigure = c >= '0' && c <= '9';
            if (c != 't') {
                fault((char) c + GOOD, 0, 1);
            }
            if (!isFigure) {
                fault("t" + (char) c + "0,0;p0;z0,0,1,0;", 1, 1);
                fault("t0" + (char) c, c == ',' ? 3 : 2, 1);
            }
        }
        DUE.sentence("TOKENS: letters, each by itself");
        fault("t0,0;pp0;z0,0,1,0;", 6, 1);
        fault("tt0,0;p0;z0,0,1,0;", 1, 1);
        fault("t0,0;p0;zz0,0,1,0;", 9, 1);
        DUE.sentence("TOKENS: no spaces, no capitals, no bytes above");
        fault("T0,0;p0;z0,0,1,0;", 0, 1);
        fault("t0,0;P0;z0,0,1,0;", 5, 1);
        fault("t0,0;p0;Z0,0,1,0;", 8, 1);
        fault("t0,0;p0 ;z0,0,1,0;", 7, 1);
        fault("t0,0;p0;z0,0,1,0;\n", 17, 1);
        fault("t0,0;p0;z0,0,1,0;\u00ff", 17, 1);
        fault("t0,0;p\u00b2;z0,0,1,0;", 6, 1);
    }

    /** Each TOKEN of a good tape in turn gives way to one that cannot stand there. */
    private static void tokensThatCannotStandThere() {
        String tape = "t0,0;p0;z0,0,1,0;";
        for (int place = 0; place < tape.length(); place++) {
            char there = tape.charAt(place);
            DUE.sentence("FAULT 1: it cannot stand there, at " + place + " in place of " + there);
            for (char other : "tpslrfza,;5".toCharArray()) {
                boolean bothFigures = Character.isDigit(there) && Character.isDigit(other);
                boolean runsOn = Character.isDigit(other) && place > 0 && Character.isDigit(tape.charAt(place - 1));
                boolean isTreadToo = place == 5 && "slrf".indexOf(other) >= 0;
                boolean isTreadHere = place == 8 && "pslrf".indexOf(other) >= 0;
                if (other == there || bothFigures || runsOn || isTreadToo || isTreadHere) {
                    continue;
                }
                fault(tape.substring(0, place) + other + tape.substring(place + 1), place, 1);
            }
        }
        DUE.sentence("FAULT 1: a walker's NUMBERS as a tread's");
        fault("t0,0;p0;p0,0,1,0;", 10, 1);
        DUE.sentence("FAULT 1: behind a walker a walker, or the end");
        for (char other : "tpslrfa,;5".toCharArray()) {
            fault(tape + other, 17, 1);
        }
    }

    private static void aRunOfThreeFigures() {
        DUE.sentence("FAULT 1: a run of three figures or more, at its first");
        fault("000", 0, 1);
        fault("t000,0;p0;z0,0,1,0;", 1, 1);
        fault("t001,0;p0;z0,0,1,0;", 1, 1);
        fault("t0,0000;p0;z0,0,1,0;", 3, 1);
        fault("t0,0;p005;z0,0,1,0;", 6, 1);
        fault("t0,0;p0;z000,0,1,0;", 9, 1);
        fault("t0,0;p0;z0,000,1,0;", 11, 1);
        fault("t0,0;p0;z0,0,001,0;", 13, 1);
        fault("t0,0;p0;z0,0,1,020;", 15, 1);
        fault("t0,0;p0;z0,0,1,4294967296;", 15, 1);
        fault("t0,0;p0;z0,0,1,0;000", 17, 1);
        DUE.sentence("FAULT 1: a run of three figures up to the end, at its first");
        fault("t000", 1, 1);
        fault("t0,0;p0;z0,0,1,123", 15, 1);
        fault(LONGEST.substring(0, 90) + "z7,0,3,100", 97, 1);
    }

    private static void theEnd() {
        DUE.sentence("FAULT 1: the end: how many bytes there are");
        for (int bytes = 0; bytes < LONG.length(); bytes++) {
            boolean endsBehindAWalker = bytes >= 51 && LONG.charAt(bytes - 1) == ';';
            if (!endsBehindAWalker) {
                fault(LONG.substring(0, bytes), bytes, 1);
            }
        }
        DUE.sentence("The end behind a walker is none");
        for (int bytes = 51; bytes <= 99; bytes += 12) {
            good(LONG.substring(0, bytes), 8);
        }
    }

    private static void moreThanThereIsRoomFor() {
        DUE.sentence("FAULT 3: a tread more than there is room for (its letter)");
        for (char sort : "pslrf".toCharArray()) {
            fault(EIGHT + sort + "0;z0,0,1,0;", 29, 3);
            fault(EIGHT + sort, 29, 3);
            fault(EIGHT + sort + "99;", 29, 3);
        }
        DUE.sentence("FAULT 3: a walker more than there is room for (its letter)");
        fault("t0,0;p0;" + FIVE + "z0,0,1,0;", 53, 3);
        fault("t0,0;p0;" + FIVE + "z", 53, 3);
        fault("t0,0;p0;" + FIVE + "z9,9,9,99;", 53, 3);
        fault(EIGHT + FIVE + "z", 74, 3);
    }

    private static void theFirstTokenAndTheLeastFault() {
        DUE.sentence("FAULTS, the first TOKEN that has one");
        fault("t16,10;p10;", 1, 2);
        fault("t15,10;p10;", 4, 2);
        fault("t0,0;p10", 6, 2);
        fault("t0,0;p0;z1,1,0,21;", 9, 2);
        fault("t0,0;p0;z0,1,0,21;", 11, 2);
        fault("t0,0;p0;z0,0,0,21;", 13, 2);
        fault("t0,0;p0;z0,0,1,21", 15, 2);
        DUE.sentence("FAULTS, of one TOKEN the least: 1 ahead of 2");
        fault("99", 0, 1);
        fault("t99999,0;", 1, 1);
        fault("t0,0;99;", 5, 1);
        DUE.sentence("FAULTS, of one TOKEN the least: 1 ahead of 3");
        fault(EIGHT + "z0,0,1,0;p0;", 38, 1);
        fault(EIGHT + FIVE + "p0;", 74, 1);
        fault(EIGHT + "x", 29, 1);
        fault("t0,0;p0;" + FIVE + "p", 53, 1);
        fault("t0,0;p0;" + FIVE + ";", 53, 1);
    }

    /** Bytes of the tape before must not be read on behind the end of a shorter one. */
    private static void promise7TheTapeIsEmptyThen() {
        DUE.sentence("Promise 7: The tape, empty then: what stood on it is not read again");
        for (int bytes = 0; bytes < GOOD.length(); bytes++) {
            StairTunes x = Due.townOf(GOOD);
            DUE.is("the first " + bytes + " bytes", Due.tell(x, GOOD.substring(0, bytes)), -1000100 - bytes);
            DUE.is("fault of the first " + bytes + " bytes", x.fault(), 1);
        }
        StairTunes x = Due.townOf(GOOD + "z0,0,1,0;");
        DUE.is("a shorter one", Due.tell(x, GOOD), 1);
        DUE.is("one walker", x.count(2), 1);
        DUE.sentence("Promise 7: The tape, empty then: a NUMBER at the end has no figures of what stood there");
        x = Due.townOf("t15,9;p05;z0,0,1,20;");
        DUE.is("one figure", Due.tell(x, "t1"), -1000102);
        DUE.is("fault", x.fault(), 1);
        Due.tell(x, "t155");
        DUE.is("two figures", Due.tell(x, "t15"), -1000103);
        DUE.is("fault", x.fault(), 1);
        Due.tell(x, "t9999");
        DUE.is("no figure", Due.tell(x, "t"), -1000101);
        DUE.is("fault", x.fault(), 1);
    }

    private static void promise7WhatStays() {
        DUE.sentence("Promise 7: at a FAULT all but the tape, and what fault() tells, stays");
        for (String tape : new String[] {"", "x", "t1", "t1,1;p9;", "t1,1;p9;z0,0,1,", "t1,1;p9;z0,0,1,1;z1",
            "t1,1;p9;z0,0,1,1;z0,0,2,21;", "t1,1;p9;p8;z1,0,1,1;x", EIGHT + "p"}) {
            StairTunes x = Scene.rich();
            StairTunes y = Scene.rich();
            x.town();
            y.town();
            x.image(0);
            y.image(0);
            x.days(2);
            y.days(2);
            int status = x.status();
            DUE.is("town of " + tape, Due.tell(x, tape) <= -1000100);
            DUE.is("fault of " + tape, x.fault() != 0);
            // That FAULT is told by fault(): so the other object has one of its kind, ahead of its TOWN.
            while (y.fault() != x.fault()) {
                Due.tell(y, x.fault() == 1 ? "" : x.fault() == 2 ? "t16" : EIGHT + "p");
            }
            DUE.is("status()", x.status(), status);
            DUE.is("all else", Scene.seen(x).equals(Scene.seen(y)));
        }
        DUE.sentence("Promise 7: at a FAULT no TOWN comes where none was");
        StairTunes x = new StairTunes();
        Due.tell(x, GOOD + "z1");
        DUE.is("count(1)", x.count(1), 0);
        DUE.is("choir(0)", x.choir(0), STATE);
    }

    private static void promise7InPlace() {
        StairTunes x = Due.townOf("t15,2;s9;l8;f7;z0,2,3,20;z2,0,1,4;");
        x.days(24);
        x.image(0);
        x.row(3, 1, 4);
        x.ask(1, 0);
        DUE.sentence("A TOWN that is read stands in place of the one before: fewer TREADS, WALKERS");
        DUE.is("town", Due.tell(x, "t0,1;p3;z0,0,1,0;"), 1);
        DUE.is("kind", x.kind(0), 1);
        DUE.is("note", x.tread(0, 0), 3);
        DUE.is("no second tread", x.tread(1, 0), StairTunes.BAD);
        DUE.is("no second walker", x.walker(1, 0), StairTunes.BAD);
        DUE.is("reach", x.count(5), 1);
        DUE.is("wet", x.count(4), 0);
        DUE.is("step", x.walker(0, 2), 1);
        DUE.is("start", x.walker(0, 3), 0);
        DUE.sentence("A TOWN that is read: DAY 0");
        DUE.is("day", x.count(3), 0);
        DUE.sentence("A TOWN that is read: nothing is WORN");
        DUE.is("worn", x.tread(0, 1), 0);
        Due.tell(x, "t15,2;s9;l8;f7;z0,2,3,20;z2,0,1,4;");
        for (int t = 0; t < 3; t++) {
            DUE.is("worn " + t, x.tread(t, 1), 0);
        }
        DUE.sentence("A TOWN that is read: no ACT can be undone");
        x.reach(5);
        Due.tell(x, "t0,1;p3;z0,0,1,0;");
        DUE.is("count(6)", x.count(6), 0);
        DUE.is("undo", x.undo(), STATE);
        DUE.sentence("A TOWN that is read: IMAGES stay");
        DUE.is("restore(0)", x.restore(0), 1);
        DUE.is("treads", x.count(1), 3);
        DUE.is("day", x.count(3), 24);
        DUE.is("worn", x.tread(2, 1), 48);
        DUE.is("restore(1)", x.restore(1), STATE);
        DUE.sentence("A TOWN that is read: ROWS stay");
        DUE.is("drop(3)", x.drop(3), 4);
    }

    private static void promise8() {
        StairTunes x = new StairTunes();
        DUE.sentence("Promise 8: 0 before one, behind a good TOWN, too");
        DUE.is("fault", x.fault(), 0);
        Due.tell(x, GOOD);
        DUE.is("fault", x.fault(), 0);
        DUE.sentence("Promise 8: The number of the latest FAULT: 1, 2, 3");
        Due.tell(x, "t16,");
        DUE.is("fault", x.fault(), 2);
        Due.tell(x, EIGHT + "p");
        DUE.is("fault", x.fault(), 3);
        Due.tell(x, "");
        DUE.is("fault", x.fault(), 1);
        DUE.sentence("Promise 8: it stays behind a TOWN without one");
        Due.tell(x, "t16,");
        DUE.is("town", Due.tell(x, GOOD), 1);
        DUE.is("fault", x.fault(), 2);
        DUE.sentence("Promise 8: asked, it stays");
        DUE.is("fault", x.fault(), 2);
    }

    private static void promise9Acts() {
        StairTunes x = Due.townOf(GOOD);
        DUE.sentence("Promise 9: STATE: none");
        DUE.is("undo", x.undo(), STATE);
        DUE.sentence("Promise 9: how many can be undone yet, 0 behind the only one");
        x.reach(3);
        DUE.is("undo", x.undo(), 0);
        DUE.is("reach", x.count(5), 0);
        DUE.is("undo", x.undo(), STATE);
        DUE.sentence("Promise 9: The latest ACT is undone, the latest first");
        x.reach(3);
        x.plane(0, 4);
        x.gait(0, 2, 6);
        DUE.is("undo", x.undo(), 2);
        DUE.is("step", x.walker(0, 2), 1);
        DUE.is("note", x.tread(0, 0), 4);
        DUE.is("undo", x.undo(), 1);
        DUE.is("note", x.tread(0, 0), 0);
        DUE.is("reach", x.count(5), 3);
        DUE.sentence("Promise 9: an ACT behind what is undone is the latest");
        x.reach(7);
        DUE.is("undo", x.undo(), 1);
        DUE.is("reach", x.count(5), 3);
        DUE.is("undo", x.undo(), 0);
        DUE.is("reach", x.count(5), 0);
        DUE.sentence("Promise 9: a DAY is undone: WORN at 99, and the DAY");
        x.days(24);
        x.days(24);
        x.days(24);
        x.days(24);
        x.days(4);
        DUE.is("worn", x.tread(0, 1), 99);
        x.undo();
        DUE.is("worn 99 of 99 steps", x.tread(0, 1), 99);
        DUE.is("day", x.count(3), 99);
        x.undo();
        DUE.is("worn 98", x.tread(0, 1), 98);
    }

    private static void promise9TheOldestIsForgotten() {
        DUE.sentence("ACTS: 24 at most are kept: 24 can be undone");
        StairTunes x = Due.townOf(GOOD);
        for (int k = 1; k <= 24; k++) {
            x.plane(0, k % 10);
            DUE.is("acts", x.count(6), k);
        }
        for (int k = 23; k >= 0; k--) {
            DUE.is("undo", x.undo(), k);
            DUE.is("note", x.tread(0, 0), k % 10);
        }
        DUE.is("undo", x.undo(), STATE);
        DUE.sentence("ACTS: of more the oldest is forgotten: of 25 the first one stays done");
        for (int k = 1; k <= 25; k++) {
            x.plane(0, k % 10);
        }
        DUE.is("acts", x.count(6), 24);
        for (int k = 24; k >= 1; k--) {
            DUE.is("undo", x.undo(), k - 1);
            DUE.is("note", x.tread(0, 0), k % 10);
        }
        DUE.is("undo", x.undo(), STATE);
        DUE.is("note", x.tread(0, 0), 1);
        DUE.sentence("ACTS: of days(24) behind one ACT that one is forgotten");
        x.reach(9);
        x.days(24);
        DUE.is("acts", x.count(6), 24);
        for (int k = 0; k < 24; k++) {
            x.undo();
        }
        DUE.is("day", x.count(3), 0);
        DUE.is("reach", x.count(5), 9);
        DUE.sentence("ACTS: days(24) behind 24 DAYS: the first 24 are forgotten");
        x.days(24);
        x.days(24);
        for (int k = 0; k < 24; k++) {
            x.undo();
        }
        DUE.is("day", x.count(3), 24);
        DUE.is("undo", x.undo(), STATE);
    }

    private static void promise9NothingBecomesAnother() {
        StairTunes x = Due.townOf(GOOD);
        DUE.sentence("ACTS: also such by which nothing becomes another: REACH");
        x.reach(0);
        DUE.is("acts", x.count(6), 1);
        DUE.sentence("ACTS: also such by which nothing becomes another: a TREAD is planed");
        x.plane(0, 0);
        DUE.is("acts", x.count(6), 2);
        DUE.sentence("ACTS: also such by which nothing becomes another: FROM, TO");
        x.way(0, 0, 0);
        DUE.is("acts", x.count(6), 3);
        DUE.sentence("ACTS: also such by which nothing becomes another: STEP, START");
        x.gait(0, 1, 0);
        DUE.is("acts", x.count(6), 4);
        for (int k = 3; k >= 0; k--) {
            DUE.is("undo", x.undo(), k);
        }
    }

    /** What tells, foretells, asks, keeps or refuses is no ACT. */
    private static void promise9NoActs() {
        StairTunes x = Due.townOf("t0,0;p0;p1;z0,1,1,0;z1,0,1,0;");
        x.row(0, 0, 1);
        DUE.sentence("ACTS: nothing else is one");
        x.ahead(0, 1, 0);
        x.meet(0, 1);
        x.choir(0);
        x.twins(0);
        x.felt(0, 0, 0);
        x.doors(0);
        x.planed(0);
        x.rise(0, 0, 1, 0);
        x.what(0, 0, 0, 0, 0, 0, 1);
        x.who(0, 0, 0, 0, 0, 0, 1);
        x.rots(0, 0, 5, 0);
        x.drawn(60, 1, 0);
        x.image(0);
        x.as(0, 1);
        x.ask(0, 0);
        x.feed('t');
        x.town();
        DUE.is("acts", x.count(6), 0);
        DUE.sentence("ACTS: what is refused is none");
        x.days(0);
        x.days(25);
        x.plane(2, 0);
        x.plane(0, 10);
        x.reach(10);
        x.way(0, 0, 2);
        x.way(2, 0, 0);
        x.gait(0, 0, 0);
        x.gait(0, 1, 21);
        DUE.is("acts", x.count(6), 0);
        DUE.is("undo", x.undo(), STATE);
    }
}
