/** Promises 20 to 26: when to creep, who sleeps by what was found, who had what, and the cow. */
public final class SleepTest {
    private static final Checks CHECKS = new Checks("SleepTest");
    private static final int LEAST = Integer.MIN_VALUE;
    private static final int MOST = Integer.MAX_VALUE;

    private SleepTest() {
    }

    public static void main(String[] args) {
        creepAnswers();
        creepWithRelief();
        creepRefused();
        foundAndForget();
        foundRefused();
        fitsAnswers();
        fitsOfWhoStandsNowhere();
        fitsFromNowOn();
        fitsRefused();
        hadAnswers();
        fairAnswers();
        cowAnswers();
        cowRefused();
        CHECKS.end();
    }

    private static void due(String what, long want, long got) {
        CHECKS.due(what, want, got);
    }

    private static void creepAnswers() {
        PostRelief x = Checks.told("p0 0;p0 0;m0;m40;o9;");
        due("creep(24, 0) of nobody", -9, x.creep(24, 0));
        due("creep(24, 1) of nobody", -9, x.creep(24, 1));
        x.sends(1, 1);
        due("creep(1, 0): NOW", 0, x.creep(1, 0));
        due("creep(1, 1): the POST", 1, x.creep(1, 1));
        x.calls(1);
        x.sends(0, 0);
        due("creep(7, 0)", -9, x.creep(7, 0));
        due("creep(7, 1)", -9, x.creep(7, 1));
        due("creep(8, 0): to n", -9, x.creep(8, 0));
        due("nothing is changed", 0, x.now(0));
        due("nothing is changed: now(4)", 3, x.now(4));
        x = Checks.told("p0 0;p0 0;p0 0;m30;m32;m32;o9;");
        for (int p = 0; p < 3; p++) {
            x.sends(p, p);
        }
        due("creep(1, 0)", -9, x.creep(1, 0));
        due("creep(2, 0): to n", 2, x.creep(2, 0));
        due("creep(2, 1): the lowest", 1, x.creep(2, 1));
        due("creep(24, 0): the first", 2, x.creep(24, 0));
        due("creep(24, 1): of the first", 1, x.creep(24, 1));
    }

    private static void creepWithRelief() {
        PostRelief x = Checks.told("p0 0;m36;m0;o1;s9;");
        x.sends(0, 0);
        due("who is relieved at the end is not found", -9, x.creep(24, 0));
        x = Checks.told("p0 0;p0 0;m36;m36;m0;o1;s9;");
        x.sends(0, 0);
        x.sends(1, 1);
        due("creep(24, 0)", 1, x.creep(24, 0));
        due("creep(24, 1): POST 0 is relieved first", 1, x.creep(24, 1));
        x = Checks.told("p0 0;m0;o9;");
        Checks.hours(x, 200);
        x.sends(0, 0);
        due("creep(8, 0) from 200 on", -9, x.creep(8, 0));
        due("creep(9, 0) from 200 on", 9, x.creep(9, 0));
    }

    private static void creepRefused() {
        PostRelief x = Checks.told("p0 0;m0;");
        int[][] bad = {{0, 0}, {-1, 0}, {25, 0}, {LEAST, 0}, {MOST, 0}, {1, -1}, {1, 2}, {1, LEAST}, {1, MOST}};
        for (int[] a : bad) {
            due("creep(" + a[0] + ", " + a[1] + ")", -1, x.creep(a[0], a[1]));
        }
    }

    private static void foundAndForget() {
        PostRelief x = Checks.told("p0 0;m0;m0;");
        due("forget() of nothing", 0, x.forget());
        for (int i = 1; i <= 6; i++) {
            due("found(..) number " + i, i, x.found(i & 1, i * 4, i & 1));
        }
        due("found(..) beyond six", -3, x.found(0, 0, 0));
        due("BAD comes first", -1, x.found(2, 0, 0));
        due("count(4)", 6, x.count(4));
        x.hour();
        x.keep(0);
        x.back(0);
        due("hour, keep and back leave them", 6, x.count(4));
        due("forget()", 6, x.forget());
        due("forget() again", 0, x.forget());
        due("found(..) then", 1, x.found(1, 24, 1));
        due("it is not undone", 0, x.now(4));
    }

    private static void foundRefused() {
        PostRelief x = Checks.told("p0 0;m0;m0;");
        int[][] bad = {{-1, 0, 0}, {2, 0, 0}, {6, 0, 0}, {LEAST, 0, 0}, {MOST, 0, 0}, {0, -1, 0}, {0, 25, 0},
            {0, LEAST, 0}, {0, MOST, 0}, {0, 0, -1}, {0, 0, 2}, {0, 0, LEAST}, {0, 0, MOST}};
        for (int[] a : bad) {
            due("found(" + a[0] + ", " + a[1] + ", " + a[2] + ")", -1, x.found(a[0], a[1], a[2]));
        }
        due("nothing was FOUND", 0, x.count(4));
        due("found(0, 0, 0) with nothing told", -1, new PostRelief().found(0, 0, 0));
    }

    private static void fitsDue(PostRelief x, int m, int many, int least) {
        due("fits(" + m + ", 0)", many, x.fits(m, 0));
        due("fits(" + m + ", 1)", least, x.fits(m, 1));
    }

    private static void fitsAnswers() {
        PostRelief x = Checks.told("p0 0;p0 9;m0;m0;m0;");
        x.sends(0, 0);
        x.sends(1, 1);
        fitsDue(x, 0, 61, 0);
        x.found(0, 0, 1);
        fitsDue(x, 0, 21, 40);
        fitsDue(x, 1, 61, 0);
        x.forget();
        x.found(0, 0, 0);
        fitsDue(x, 0, 40, 0);
        x.found(0, 1, 1);
        fitsDue(x, 0, 4, 36);
        x.found(0, 3, 1);
        fitsDue(x, 0, 4, 36);
        x.found(0, 1, 0);
        fitsDue(x, 0, 0, -9);
        x.found(1, 1, 1);
        fitsDue(x, 1, 28, 33);
        x.found(1, 0, 0);
        fitsDue(x, 1, 7, 33);
        due("nothing is changed", 0, x.man(0, 0));
        x.forget();
        x.found(0, 24, 1);
        fitsDue(x, 0, 61, 0);
        x.found(0, 24, 0);
        fitsDue(x, 0, 0, -9);
    }

    private static void fitsOfWhoStandsNowhere() {
        PostRelief x = Checks.told("p0 0;m60;");
        x.found(0, 5, 0);
        fitsDue(x, 0, 61, 0);
        x.found(0, 0, 1);
        fitsDue(x, 0, 0, -9);
    }

    private static void fitsFromNowOn() {
        PostRelief x = Checks.told("p0 0;m0;m0;o1;");
        x.sends(0, 0);
        x.found(0, 2, 1);
        fitsDue(x, 0, 29, 32);
        x.hour();
        fitsDue(x, 0, 31, 30);
        x.hour();
        fitsDue(x, 0, 33, 28);
        x.undo();
        x.undo();
        fitsDue(x, 0, 29, 32);
        Checks.hours(x, 200);
        due("past 200: 200 leaves 8 by 12", 32, x.fits(0, 1));
        x.found(0, 8, 0);
        due("past 200: 38 on in 8 hours", 0, x.fits(0, 0));
    }

    private static void fitsRefused() {
        PostRelief x = Checks.told("p0 0;m0;m0;");
        int[][] bad = {{-1, 0}, {2, 0}, {6, 0}, {LEAST, 0}, {MOST, 0}, {0, -1}, {0, 2}, {0, LEAST}, {0, MOST}};
        for (int[] a : bad) {
            due("fits(" + a[0] + ", " + a[1] + ")", -1, x.fits(a[0], a[1]));
        }
    }

    private static void hadAnswers() {
        PostRelief x = Checks.told("p0 0;p0 0;m0;m0;m0;o1;");
        x.sends(0, 0);
        Checks.hours(x, 3);
        x.calls(0);
        x.sends(0, 1);
        Checks.hours(x, 2);
        x.calls(1);
        x.sends(0, 0);
        x.hour();
        due("had(0, 0): in all", 4, x.had(0, 0));
        due("had(0, 1)", 2, x.had(0, 1));
        due("had(1, 0)", 0, x.had(1, 0));
        x.relieves(0, 1);
        x.hour();
        due("had(1, 0) by relief", 1, x.had(1, 0));
        due("had(0, 0) still", 4, x.had(0, 0));
        x.undo();
        due("had(1, 0) undone", 0, x.had(1, 0));
        int[][] bad = {{-1, 0}, {3, 0}, {6, 0}, {LEAST, 0}, {MOST, 0}, {0, -1}, {0, 2}, {0, 5}, {0, LEAST}, {0, MOST}};
        for (int[] a : bad) {
            due("had(" + a[0] + ", " + a[1] + ")", -1, x.had(a[0], a[1]));
        }
    }

    private static void fairAnswers() {
        due("fair() with nothing told", 0, new PostRelief().fair());
        due("fair() of no MEN", 0, Checks.told("p0 9;").fair());
        due("fair() of no POSTS", 0, Checks.told("m9;m1;").fair());
        PostRelief x = Checks.told("p0 7;p0 2;m0;m0;m0;");
        x.sends(0, 0);
        x.sends(1, 1);
        x.sends(2, 1);
        Checks.hours(x, 3);
        due("fair(): 21 less none", 21, x.fair());
        x.calls(1);
        x.sends(2, 1);
        Checks.hours(x, 2);
        due("fair(): 35 less 4", 31, x.fair());
        x.calls(0);
        x.calls(1);
        x.sends(0, 1);
        x.sends(2, 0);
        x.hour();
        due("fair(): 37 less 6", 31, x.fair());
        x = Checks.told("p0 7;m0;");
        x.sends(0, 0);
        Checks.hours(x, 9);
        due("fair() of one MAN", 0, x.fair());
        x = Checks.told("p0 1;p0 2;p0 3;p0 4;p0 9;m0;m0;m0;m0;m0;m0;");
        x.sends(5, 4);
        x.sends(0, 0);
        Checks.hours(x, 2);
        due("fair(): the last MAN at the last POST", 18, x.fair());
        x.sends(1, 1);
        x.sends(2, 2);
        x.sends(3, 3);
        x.hour();
        due("fair(): 27 less none", 27, x.fair());
    }

    private static void cowDue(int c, int d, int upper, int lower) {
        PostRelief x = new PostRelief();
        due("cow(" + c + ", " + d + ", 0)", upper, x.cow(c, d, 0));
        due("cow(" + c + ", " + d + ", 1)", lower, x.cow(c, d, 1));
    }

    private static void cowAnswers() {
        cowDue(0, 0, 0, 1);
        cowDue(0, 9, 0, 1);
        cowDue(9, 0, 0, 1);
        cowDue(5, 5, 1, 3);
        cowDue(1, 1, 1, 91);
        cowDue(5, 4, 2, 7);
        cowDue(9, 9, 81, 91);
        cowDue(8, 5, 2, 3);
        cowDue(9, 1, 9, 19);
    }

    private static void cowRefused() {
        PostRelief x = new PostRelief();
        int[][] bad = {{-1, 0, 0}, {10, 0, 0}, {LEAST, 0, 0}, {MOST, 0, 0}, {0, -1, 0}, {0, 10, 0}, {0, LEAST, 0},
            {0, MOST, 0}, {0, 0, -1}, {0, 0, 2}, {0, 0, LEAST}, {0, 0, MOST}};
        for (int[] a : bad) {
            due("cow(" + a[0] + ", " + a[1] + ", " + a[2] + ")", -1, x.cow(a[0], a[1], a[2]));
        }
    }
}
