/** Promises 13 to 15: what comes in so many hours, the best round, the best rota. */
public final class ComingTest {
    private static final Checks CHECKS = new Checks("ComingTest");
    private static final int LEAST = Integer.MIN_VALUE;
    private static final int MOST = Integer.MAX_VALUE;

    private ComingTest() {
    }

    public static void main(String[] args) {
        inHoursWithoutRelief();
        inHoursWithRelief();
        inHoursPast200();
        inHoursRefused();
        roundPicksBeginningAndWay();
        roundOfSeveral();
        roundRefused();
        rotaLeastOfTheGreatest();
        rotaOfSeveralTheFirst();
        rotaByTheClock();
        rotaRefused();
        CHECKS.end();
    }

    private static void due(String what, long want, long got) {
        CHECKS.due(what, want, got);
    }

    private static void inHoursWithoutRelief() {
        PostRelief x = Checks.told("p0 0;p0 9;m30;m20;m60;");
        x.sends(0, 0);
        x.sends(1, 1);
        int[] asleep = {0, 0, 0, 3, 3};
        int[] most = {0, 0, 0, 2, 2};
        int[] greatest = {60, 57, 54, 51, 52};
        for (int n = 0; n < asleep.length; n++) {
            due("inHours(" + n + ", 0, 0)", asleep[n], x.inHours(n, 0, 0));
            due("inHours(" + n + ", 0, 1)", most[n], x.inHours(n, 0, 1));
            due("inHours(" + n + ", 0, 2)", greatest[n], x.inHours(n, 0, 2));
        }
        due("nothing is changed", 30, x.man(0, 0));
        due("nothing is changed: now(0)", 0, x.now(0));
        due("nothing is changed: now(4)", 2, x.now(4));
        due("nothing is changed: had", 0, x.had(0, 0));
    }

    private static void inHoursWithRelief() {
        PostRelief x = Checks.told("p0 0;p0 0;m36;m36;m0;o1;s1;");
        x.sends(0, 0);
        x.sends(1, 1);
        due("inHours(1, 1, 0): from POST 0 on, at the end", 2, x.inHours(1, 1, 0));
        due("inHours(1, 0, 0)", 3, x.inHours(1, 0, 0));
        due("inHours(1, 1, 1)", 1, x.inHours(1, 1, 1));
        due("inHours(1, 0, 1)", 2, x.inHours(1, 0, 1));
        due("inHours(2, 1, 0): who came back comes again", 2, x.inHours(2, 1, 0));
        due("inHours(1, 1, 2): who came back counts too", 40, x.inHours(1, 1, 2));
        x = Checks.told("p0 0;m44;m0;o1;s9;");
        x.sends(0, 0);
        due("inHours(1, 1, 0): he is relieved", 0, x.inHours(1, 1, 0));
        due("inHours(1, 1, 1): NOW counts too", 1, x.inHours(1, 1, 1));
        due("inHours(0, 1, 0): nobody is relieved NOW", 1, x.inHours(0, 1, 0));
        due("nobody was relieved", 0, x.post(0, 2));
        due("no MEN", 0, Checks.told("p0 0;").inHours(9, 1, 2));
        x = Checks.told("m1;m2;m60;m3;m4;m59;s1;");
        due("inHours(0, 0, 2) of six MEN", 60, x.inHours(0, 0, 2));
        Checks.type(x, "m1;m2;");
        x.depot();
        due("MEN who were told before are gone", 2, x.inHours(0, 0, 2));
        due("nothing told", 0, new PostRelief().inHours(60, 1, 1));
    }

    private static void inHoursPast200() {
        PostRelief x = Checks.told("p0 0;m0;");
        Checks.hours(x, 200);
        x.sends(0, 0);
        due("200 leaves 8 by 12: six hours of 4 and three of 6", 24 + 18, x.inHours(9, 0, 2));
        due("inHours(60, 0, 2)", 60, x.inHours(60, 0, 2));
        due("now(0)", 200, x.now(0));
    }

    private static void inHoursRefused() {
        PostRelief x = Checks.told("p0 0;m0;");
        int[][] bad = {{-1, 0, 0}, {61, 0, 0}, {LEAST, 0, 0}, {MOST, 0, 0}, {0, -1, 0}, {0, 2, 0}, {0, LEAST, 0},
            {0, MOST, 0}, {0, 0, -1}, {0, 0, 3}, {0, 0, LEAST}, {0, 0, MOST}};
        for (int[] a : bad) {
            due("inHours(" + a[0] + ", " + a[1] + ", " + a[2] + ")", -1, x.inHours(a[0], a[1], a[2]));
        }
        due("inHours(60, 1, 2)", 0, x.inHours(60, 1, 2));
    }

    private static PostRelief threeOnPost(String men) {
        PostRelief x = Checks.told("p0 0;p0 0;p0 0;" + men + "o1;s1;");
        for (int p = 0; p < 3; p++) {
            x.sends(p, p);
        }
        x.hour();
        return x;
    }

    private static void roundPicksBeginningAndWay() {
        PostRelief x = threeOnPost("m0;m30;m5;m1;");
        due("round(0): from POST 1", 11, x.round(0));
        due("round(1): 4 and 0 and 9", 13, x.round(1));
        due("nothing is changed", 1, x.post(1, 2));
        due("nothing is changed: now(4)", 4, x.now(4));
        x = Checks.told("p0 0;p0 0;p0 0;m30;m0;m20;m1;m1;o1;s1;");
        for (int p = 0; p < 3; p++) {
            x.sends(p, p);
        }
        x.hour();
        due("round(0): POSTS 2 and 0 by numbers", 12, x.round(0));
        due("round(1)", 4, x.round(1));
        x = Checks.told("p0 0;p0 0;p0 0;p0 0;m30;m0;m0;m30;m1;m21;o1;s1;");
        for (int p = 0; p < 4; p++) {
            x.sends(p, p);
        }
        x.hour();
        due("round(0): POSTS 3 and 0, which way 1 finds first", 13, x.round(0));
        due("round(1)", 8 + 20, x.round(1));
    }

    private static void roundOfSeveral() {
        PostRelief x = threeOnPost("m0;m0;m0;");
        due("all alike: way 1, POST 0", 10, x.round(0));
        due("all alike: how much", 12, x.round(1));
        x = Checks.told("p0 0;p0 0;");
        due("nobody stands", 10, x.round(0));
        due("nobody stands: how much", 0, x.round(1));
        x = Checks.told("p0 0;p0 0;p0 0;m30;m30;m0;m29;m0;o1;s1;");
        x.sends(0, 0);
        x.sends(1, 1);
        x.sends(2, 2);
        x.hour();
        due("way 1 and the lowest POST of several", 10, x.round(0));
        due("way 1: how much", 4 + 28, x.round(1));
    }

    private static void roundRefused() {
        for (int what : new int[] {-1, 2, LEAST, MOST}) {
            due("round(" + what + ")", -1, Checks.told("p0 0;").round(what));
            due("round(" + what + ") with nothing told: BAD comes first", -1, new PostRelief().round(what));
        }
        due("round(0) with no POSTS", -9, Checks.told("m0;").round(0));
        due("round(1) with no POSTS", -9, Checks.told("m0;").round(1));
    }

    private static void rotaDue(PostRelief x, int much, int... men) {
        due("rota(-1)", much, x.rota(-1));
        for (int p = 0; p < men.length; p++) {
            due("rota(" + p + ")", men[p], x.rota(p));
        }
    }

    private static void rotaLeastOfTheGreatest() {
        rotaDue(Checks.told("p0 9;p0 0;m20;m10;m30;o1;"), 24, 1, 0);
        rotaDue(Checks.told("p0 9;p0 0;m20;m10;m30;o9;"), 60, 0, 1);
        PostRelief x = Checks.told("p0 9;p0 0;m20;m10;m30;o1;");
        x.sends(2, 0);
        x.sends(1, 1);
        rotaDue(x, 24, 1, 0);
        due("nothing is changed", 2, x.post(0, 2));
        due("nothing is changed: now(4)", 2, x.now(4));
        rotaDue(Checks.told("p0 0;p0 3;p0 6;p0 9;p0 9;m20;m16;m12;m8;m4;m60;o4;"), 40, 0, 1, 2, 3, 4);
    }

    private static void rotaOfSeveralTheFirst() {
        rotaDue(Checks.told("p0 0;p0 0;m5;m30;m5;m20;m5;"), 13, 0, 2);
        rotaDue(Checks.told("p0 0;p0 0;m5;m30;m20;m31;"), 28, 0, 2);
        rotaDue(Checks.told("p0 0;p0 0;p0 0;m5;m20;m4;m3;m20;"), 13, 0, 2, 3);
        rotaDue(Checks.told("p0 9;p0 0;m20;m18;m0;o1;"), 22, 2, 1);
    }

    private static void rotaByTheClock() {
        PostRelief x = Checks.told("p0 0;m0;o2;");
        int[] much = {8, 10, 12, 12, 10, 8, 8, 8, 8, 8, 8, 8, 8};
        for (int h = 0; h < much.length; h++) {
            due("rota(-1) at " + h, much[h], x.rota(-1));
            x.hour();
        }
        Checks.hours(x, 200 - much.length);
        due("rota(-1) at 200", 8, x.rota(-1));
    }

    private static void rotaRefused() {
        PostRelief x = Checks.told("p0 0;p0 0;m0;");
        due("fewer MEN than POSTS: rota(-1)", -9, x.rota(-1));
        due("fewer MEN than POSTS: rota(1)", -9, x.rota(1));
        for (int p : new int[] {-2, 2, 5, LEAST, MOST}) {
            due("rota(" + p + ")", -1, x.rota(p));
        }
        x = Checks.told("m0;");
        due("no POSTS: rota(-1)", -9, x.rota(-1));
        due("no POSTS: rota(0)", -1, x.rota(0));
        due("as many MEN as POSTS", 8, Checks.told("p0 0;p0 0;m0;m0;").rota(-1));
    }
}
