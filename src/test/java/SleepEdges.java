/** Promises 20 to 26: the edges of who sleeps. */
final class SleepEdges extends SentenceGroup {
    SleepEdges(Sentences sentences) {
        super(sentences);
    }

    @Override
    void all() {
        creepRefuses();
        creepNowAndToN();
        creepTheLowestPost();
        creepFindsNone();
        creepPast200();
        foundRefuses();
        foundIsFullAtSix();
        foundFrom0To24Hours();
        foundStays();
        forgetOfNothingAndOfSix();
        fitsRefuses();
        fitsFrom0To60();
        fitsNone();
        fitsOfThatManOnly();
        fitsFromNow();
        fitsPast200();
        hadRefuses();
        hadFrom0To200();
        fairOfNoMen();
        fairOfTheGreatestAndTheLeast();
        cowRefuses();
        cowFrom0To9();
        cowIsCalledAt();
        cowInLeastTerms();
    }

    // ---- Promise 20

    private void creepRefuses() {
        at(20, "the POST (1); NONE. BAD.");
        for (Run x : new Run[] {busy(), busyBehindBack()}) {
            x.refuses(BAD, call("creep", 1, 0), 0, 0, -1, 25, LEAST, MOST);
            x.refuses(BAD, call("creep", 1, 0), 1, -1, 2, LEAST, MOST);
        }
        fresh().refuses(BAD, call("creep", 1, 0), 0, 0, 25);
        posted("p0 0;m60;", 1).refuses(BAD, call("creep", 1, 0), 0, 0, 25);
    }

    private void creepDue(Run x, int n, int hours, int post) {
        x.due(hours, "creep", n, 0);
        x.due(post, "creep", n, 1);
    }

    /** The third relief falls asleep in the fourth HOUR of his second watch: 18 and four times 6. */
    private void creepNowAndToN() {
        at(20, "CREEP: behind how many HOURS (0: NOW, to n, 1 .. 24), rota 1, the officer first finds one ASLEEP");
        Run x = posted("p0 0;m40;", 1);
        creepDue(x, 1, 0, 0);
        creepDue(x, 24, 0, 0);
        x = posted("p0 0;m39;", 1);
        creepDue(x, 1, 1, 0);
        creepDue(x, 24, 1, 0);
        x = posted("p0 0;m35;", 1);
        creepDue(x, 1, NONE, NONE);
        creepDue(x, 2, 2, 0);
        x = posted("p0 6;m0;m0;o5;s5;", 1);
        creepDue(x, 23, NONE, NONE);
        creepDue(x, 24, 24, 0);
    }

    private void creepTheLowestPost() {
        at(20, "at which POST, the lowest; NONE");
        creepDue(posted(ALL, 5), 1, 0, 0);
        Run x = posted("p0 0;p0 0;p0 0;p0 0;p0 0;m0;m0;m0;m36;m36;", 5);
        creepDue(x, 1, 1, 3);
        x.does("calls", 3);
        creepDue(x, 1, 1, 4);
        x = posted("p0 0;p0 0;m36;m36;m0;o1;s9;", 2);
        creepDue(x, 1, 1, 1);
    }

    private void creepFindsNone() {
        at(20, "CREEP: HOURS (what = 0), the POST (1); NONE.");
        creepDue(fresh(), 24, NONE, NONE);
        creepDue(told("m60;"), 24, NONE, NONE);
        creepDue(told("p0 0;m60;"), 24, NONE, NONE);
        creepDue(posted("p0 0;m36;m0;o1;s9;", 1), 24, NONE, NONE);
    }

    private void creepPast200() {
        at(20, "(past HOUR 200, too; so wherever HOURS from NOW are asked)");
        creepDue(atTheLastHour(), 1, 1, 0);
        Run x = told("p0 0;m0;o9;").hours(200).does("sends", 0, 0);
        creepDue(x, 8, NONE, NONE);
        creepDue(x, 9, 9, 0);
    }

    // ---- Promise 21

    private void foundRefuses() {
        at(21, "FOUND: how much there is. BAD; FULL.");
        for (Run x : new Run[] {busy(), busyBehindBack()}) {
            x.refuses(BAD, call("found", 0, 0, 0), 0, -1, 4, 6, LEAST, MOST);
            x.refuses(BAD, call("found", 0, 0, 0), 1, -1, 25, LEAST, MOST);
            x.refuses(BAD, call("found", 0, 0, 0), 2, -1, 2, LEAST, MOST);
            x.does(4, call("found", 2, 2, 0));
            x.unchanged(FULL, "found", 2, 0, 1);
        }
        told("p0 0;").unchanged(BAD, "found", 0, 0, 0);
        Run x = told(ALL).does(6, call("found", 5, 0, 0));
        x.refuses(BAD, call("found", 0, 0, 0), 0, -1, 6);
        x.refuses(BAD, call("found", 0, 0, 0), 1, -1, 25);
        x.refuses(BAD, call("found", 0, 0, 0), 2, -1, 2);
        x.unchanged(FULL, "found", 0, 0, 0);
    }

    private void foundIsFullAtSix() {
        at(21, "FOUND (6 at most)");
        Run x = posted(ALL, 5);
        for (int i = 1; i <= 6; i++) {
            x.due(i, "found", i - 1, 4 * i, i & 1);
        }
        x.unchanged(FULL, "found", 0, 0, 0);
        x.unchanged(FULL, "found", 5, 24, 1);
        x.due(6, "count", 4);
        x = told("m0;");
        for (int i = 1; i <= 6; i++) {
            x.due(i, "found", 0, 3, 0);
        }
        x.unchanged(FULL, "found", 0, 3, 0);
        x.due(6, "forget");
        x.due(1, "found", 0, 3, 0);
    }

    private void foundFrom0To24Hours() {
        at(21, "a MAN would be (1), or would not be (0), ASLEEP behind so many HOURS (0 .. 24) from NOW");
        for (int asleep = 0; asleep <= 1; asleep++) {
            Run x = posted("p0 0;m0;", 1);
            x.due(1, "found", 0, 0, asleep);
            x.due(asleep == 1 ? 21 : 40, "fits", 0, 0);
            x = posted("p0 0;m0;", 1);
            x.due(1, "found", 0, 24, asleep);
            x.due(asleep == 1 ? 61 : 0, "fits", 0, 0);
        }
    }

    private void foundStays() {
        at(21, "nothing else (nothing can be UNDONE behind back())");
        Run x = posted("p0 0;m0;", 1).does("keep", 0).does("found", 0, 0, 1);
        x.due(1, "now", 4);
        x.hours(1);
        x.due(1, "undo");
        x.due(21, "fits", 0, 0);
        x.does("back", 0);
        x.due(21, "fits", 0, 0);
        x.due(1, "count", 4);
    }

    // ---- Promise 22

    private void forgetOfNothingAndOfSix() {
        at(22, "Nothing was FOUND: how much there was.");
        fresh().unchanged(0, "forget");
        Run x = told(ALL);
        x.unchanged(0, "forget");
        x.does("found", 0, 0, 1);
        x.due(1, "forget");
        x.unchanged(0, "forget");
        x.does(6, call("found", 0, 0, 1));
        x.due(6, "forget");
        x.due(0, "count", 4);
        x.due(61, "fits", 0, 0);
        x.due(1, "found", 0, 0, 0);
    }

    // ---- Promise 23

    private void fitsRefuses() {
        at(23, "the least (1; NONE). BAD.");
        for (Run x : new Run[] {busy(), busyBehindBack()}) {
            x.refuses(BAD, call("fits", 0, 0), 0, -1, 4, 6, LEAST, MOST);
            x.refuses(BAD, call("fits", 0, 0), 1, -1, 2, LEAST, MOST);
        }
        told("p0 0;").unchanged(BAD, "fits", 0, 0);
        told(ALL).refuses(BAD, call("fits", 0, 0), 0, -1, 6);
    }

    private void fitsDue(Run x, int m, int many, int least) {
        x.due(many, "fits", m, 0);
        x.due(least, "fits", m, 1);
    }

    private void fitsFrom0To60() {
        at(23, "FITS: DEBTS (0 .. 60) of that MAN NOW");
        Run x = posted("p0 0;m60;m60;", 1);
        fitsDue(x, 0, 61, 0);
        fitsDue(x, 1, 61, 0);
        x.does("found", 0, 0, 1);
        fitsDue(x, 0, 21, 40);
        x.does("forget").does("found", 0, 0, 0);
        fitsDue(x, 0, 40, 0);
        x.does("found", 0, 1, 1);
        fitsDue(x, 0, 4, 36);
        x.due(60, "man", 0, 0);
        x = posted("p0 0;m60;", 1).does("found", 0, 8, 0);
        fitsDue(x, 0, 2, 0);
        x = posted("p0 0;m60;", 1).does("found", 0, 9, 0);
        fitsDue(x, 0, 0, NONE);
    }

    private void fitsNone() {
        at(23, "all that was FOUND of him would be so, rota 0: how many; the least; NONE");
        Run x = posted("p0 0;m0;m50;o1;", 1).does("found", 0, 0, 1).does("found", 0, 0, 0);
        fitsDue(x, 0, 0, NONE);
        x = told("p0 0;m60;").does("found", 0, 0, 1);
        fitsDue(x, 0, 0, NONE);
        x = told("p0 0;m60;").does("found", 0, 24, 0);
        fitsDue(x, 0, 61, 0);
        x = posted("p0 0;m0;m0;o1;", 1).does("found", 0, 2, 1);
        fitsDue(x, 0, 29, 32);
        x = posted("p0 0;m0;", 1).does(5, call("found", 0, 0, 1)).does("found", 0, 0, 0);
        fitsDue(x, 0, 0, NONE);
    }

    private void fitsOfThatManOnly() {
        at(23, "of that MAN NOW by which, all else as it is");
        Run x = posted("p0 0;p0 9;m0;m0;m0;", 2).does("found", 0, 0, 1).does("found", 0, 0, 0);
        x.does("found", 1, 1, 1).does("found", 1, 0, 0);
        fitsDue(x, 0, 0, NONE);
        fitsDue(x, 1, 7, 33);
        fitsDue(x, 2, 61, 0);
    }

    private void fitsFromNow() {
        at(23, "ASLEEP behind so many HOURS (0 .. 24) from NOW");
        Run x = posted("p0 0;m0;", 1).does("found", 0, 2, 1);
        fitsDue(x, 0, 29, 32);
        x.hours(1);
        fitsDue(x, 0, 31, 30);
        x.hours(1);
        fitsDue(x, 0, 33, 28);
        x.does("calls", 0);
        fitsDue(x, 0, 0, NONE);
    }

    private void fitsPast200() {
        at(23, "(past HOUR 200, too; so wherever HOURS from NOW are asked)");
        Run x = atTheLastHour().does("found", 0, 1, 1);
        fitsDue(x, 0, 25, 36);
        x.does("forget").does("found", 0, 5, 1);
        fitsDue(x, 0, 41, 20);
        x.does("forget").does("found", 0, 8, 1);
        fitsDue(x, 0, 57, 4);
        x.does("forget").does("found", 0, 9, 1);
        fitsDue(x, 0, 61, 0);
        x.does("forget").does("found", 0, 24, 0);
        fitsDue(x, 0, 0, NONE);
    }

    // ---- Promise 24

    private void hadRefuses() {
        at(24, "HAD: HOURS in all. BAD.");
        for (Run x : new Run[] {busy(), busyBehindBack()}) {
            x.refuses(BAD, call("had", 0, 0), 0, -1, 4, 6, LEAST, MOST);
            x.refuses(BAD, call("had", 0, 0), 1, -1, 3, 5, LEAST, MOST);
        }
        told("m0;").unchanged(BAD, "had", 0, 0);
        told("p0 0;").unchanged(BAD, "had", 0, 0);
        told(ALL).refuses(BAD, call("had", 5, 4), 0, -1, 6);
        told(ALL).refuses(BAD, call("had", 5, 4), 1, -1, 5);
    }

    private void hadFrom0To200() {
        at(24, "HAD: how many HOURS a MAN stood at which POST in all");
        Run x = told(ALL).does("sends", 5, 4).does("sends", 0, 0);
        x.due(0, "had", 5, 4);
        x.hours(1);
        x.due(1, "had", 5, 4);
        x.due(1, "had", 0, 0);
        x.due(0, "had", 5, 3);
        x.due(0, "had", 4, 4);
        x.hours(199);
        x.due(200, "had", 5, 4);
        x.unchanged(STATE, "hour");
        x.due(200, "had", 5, 4);
        x.due(9, "undo");
        x.due(199, "had", 5, 4);
    }

    // ---- Promise 25

    private void fairOfNoMen() {
        at(25, "no MEN: 0");
        fresh().unchanged(0, "fair");
        told("p9 9;").due(0, "fair");
        told("p9 9;").hours(5).due(0, "fair");
        told("m9;m1;").hours(5).due(0, "fair");
        told(ALL).tells("p0 9;").due(0, "fair");
    }

    private void fairOfTheGreatestAndTheLeast() {
        at(25, "FAIR: COLD of POSTS, each as often as a MAN HAD it, together: the greatest of any MAN less the least one");
        Run x = posted("p0 9;m0;", 1).hours(200);
        x.due(0, "fair");
        x = posted("p0 9;m0;m0;", 1).hours(200);
        x.due(1800, "fair");
        x = posted("p0 0;m0;m0;", 1).hours(9);
        x.due(0, "fair");
        x = posted("p0 7;p0 2;m0;m0;", 2).hours(3);
        x.due(15, "fair");
        x.does("calls", 0).does("calls", 1).does("sends", 0, 1).does("sends", 1, 0).hours(3);
        x.due(0, "fair");
        x = told("p0 1;p0 2;p0 3;p0 4;p0 9;m0;m0;m0;m0;m0;m0;").does("sends", 5, 4).does("sends", 0, 0).hours(2);
        x.due(18, "fair");
        x = told("p0 9;m0;m0;m0;").does("sends", 0, 0).hours(1).does("calls", 0).does("sends", 1, 0).hours(1);
        x.due(9, "fair");
        x.does("calls", 0).does("sends", 2, 0).hours(1);
        x.due(0, "fair");
    }

    // ---- Promise 26

    private void cowRefuses() {
        at(26, "in least terms. BAD.");
        for (Run x : new Run[] {busy(), busyBehindBack(), fresh()}) {
            x.refuses(BAD, call("cow", 0, 0, 0), 0, -1, 10, LEAST, MOST);
            x.refuses(BAD, call("cow", 0, 0, 0), 1, -1, 10, LEAST, MOST);
            x.refuses(BAD, call("cow", 0, 0, 0), 2, -1, 2, LEAST, MOST);
        }
    }

    private void cowDue(int c, int d, int upper, int lower) {
        Run x = fresh();
        x.due(upper, "cow", c, d, 0);
        x.due(lower, "cow", c, d, 1);
    }

    private void cowFrom0To9() {
        at(26, "COW by c, d (0 .. 9): by c of 10 what comes is a cow");
        cowDue(0, 0, 0, 1);
        cowDue(0, 9, 0, 1);
        cowDue(9, 0, 0, 1);
        cowDue(9, 9, 81, 91);
        cowDue(1, 1, 1, 91);
        cowDue(1, 9, 1, 11);
        cowDue(9, 1, 9, 19);
    }

    private void cowIsCalledAt() {
        at(26, "a MAN who is not ASLEEP calls at a man always, at a cow by d of 10: what came being called at, that it"
            + " was a cow: a fraction");
        for (int d = 0; d <= 9; d++) {
            cowDue(0, d, 0, 1);
        }
        for (int c = 0; c <= 9; c++) {
            cowDue(c, 0, 0, 1);
        }
        cowDue(9, 9, 81, 91);
    }

    private void cowInLeastTerms() {
        at(26, "COW: upper (what = 0), lower number (1), in least terms.");
        cowDue(5, 4, 2, 7);
        cowDue(5, 5, 1, 3);
        cowDue(8, 5, 2, 3);
        cowDue(5, 0, 0, 1);
        cowDue(6, 7, 21, 41);
        cowDue(7, 3, 7, 17);
    }
}
