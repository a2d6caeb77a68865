/** Promises 16 to 19: which posts can be left out, where two should be, who gets in, the odds. */
public final class SightTest {
    private static final Checks CHECKS = new Checks("SightTest");
    private static final int LEAST = Integer.MIN_VALUE;
    private static final int MOST = Integer.MAX_VALUE;

    private SightTest() {
    }

    public static void main(String[] args) {
        leaveAnswers();
        twoAnswers();
        unseenAnswers();
        unseenByOthers();
        unseenRefused();
        oddsAnswers();
        oddsInLeastTerms();
        oddsRefused();
        CHECKS.end();
    }

    private static void due(String what, long want, long got) {
        CHECKS.due(what, want, got);
    }

    private static void leaveDue(String text, int bits) {
        due("leave() of " + text, bits, Checks.told(text).leave());
    }

    private static void leaveAnswers() {
        leaveDue("", 0);
        leaveDue("m9;", 0);
        leaveDue("p1 0;", 0);
        leaveDue("p0 0;p0 0;", 0);
        leaveDue("p2 0;p1 0;", 1);
        leaveDue("p2 0;p0 0;", 2);
        leaveDue("p2 0;p4 0;p0 0;", 2);
        leaveDue("p2 0;p4 0;p1 0;", 1);
        leaveDue("p0 0;p5 0;p0 0;", 5);
        leaveDue("p31 0;p31 0;p31 0;p31 0;p31 0;", 15);
        leaveDue("p31 0;p0 0;p0 0;p0 0;p0 0;", 30);
        leaveDue("p2 0;p1 0;p8 0;p4 0;p0 0;", 5);
        leaveDue("p2 0;p4 0;p8 0;p16 0;p1 0;", 5);
        PostRelief x = Checks.told("p2 0;p0 0;m60;m60;");
        x.sends(0, 0);
        x.sends(1, 1);
        due("whoever stands", 2, x.leave());
    }

    private static void twoDue(String text, int p) {
        due("two() of " + text, p, Checks.told(text).two());
    }

    private static void twoAnswers() {
        twoDue("", -9);
        twoDue("m1;", -9);
        twoDue("p31 0;", 0);
        twoDue("p0 0;p0 0;", 0);
        twoDue("p0 0;p1 0;", 1);
        twoDue("p2 0;p1 0;", 0);
        twoDue("p2 0;p0 0;p2 0;p1 0;", 3);
        twoDue("p6 0;p5 0;p0 0;p8 0;", 0);
        twoDue("p0 0;p0 0;p0 0;p1 0;p6 0;", 4);
        twoDue("p30 0;p28 0;p28 0;p1 0;p8 0;", 0);
        twoDue("p0 0;p2 0;p2 0;", 2);
        twoDue("p16 0;p4 0;p3 0;", 2);
    }

    private static void unseenAnswers() {
        PostRelief x = Checks.told("p0 0;p0 0;m32;");
        due("unseen(0, 1) of nobody", 1, x.unseen(0, 1));
        due("unseen(0, 12) of nobody", 1, x.unseen(0, 12));
        x.sends(0, 0);
        due("unseen(0, 1): 36 then", 0, x.unseen(0, 1));
        due("unseen(0, 12): seen at the first end", 0, x.unseen(0, 12));
        due("unseen(1, 12)", 1, x.unseen(1, 12));
        x.hour();
        due("NOW he is awake", 1, x.now(3));
        due("unseen(0, 1): NOW is not asked", 1, x.unseen(0, 1));
        due("unseen(0, 12)", 1, x.unseen(0, 12));
        due("nothing is changed", 1, x.now(0));
        due("nothing is changed: now(4)", 2, x.now(4));
    }

    private static void unseenByOthers() {
        PostRelief x = Checks.told("p0 0;p1 0;p2 0;m60;m32;m0;m0;o1;");
        x.sends(0, 0);
        x.sends(1, 1);
        due("unseen(0, 1): from POST 1", 0, x.unseen(0, 1));
        due("unseen(2, 1)", 1, x.unseen(2, 1));
        x.hour();
        due("unseen(0, 3): nobody is relieved", 1, x.unseen(0, 3));
        due("unseen(1, 3)", 1, x.unseen(1, 3));
        x.sends(2, 2);
        due("unseen(1, 3): from POST 2", 0, x.unseen(1, 3));
        due("unseen(0, 3)", 1, x.unseen(0, 3));
    }

    private static void unseenRefused() {
        PostRelief x = Checks.told("p0 0;p0 0;m0;");
        int[][] bad = {{-1, 1}, {2, 1}, {5, 1}, {LEAST, 1}, {MOST, 1}, {0, 0}, {0, -1}, {0, 13}, {0, LEAST}, {0, MOST}};
        for (int[] a : bad) {
            due("unseen(" + a[0] + ", " + a[1] + ")", -1, x.unseen(a[0], a[1]));
        }
        due("unseen(0, 1) with nothing told", -1, new PostRelief().unseen(0, 1));
    }

    private static void oddsDue(PostRelief x, int p, int upper, int lower) {
        due("odds(" + p + ", 0)", upper, x.odds(p, 0));
        due("odds(" + p + ", 1)", lower, x.odds(p, 1));
    }

    private static void oddsAnswers() {
        oddsDue(new PostRelief(), 0, 1, 1);
        oddsDue(Checks.told("p0 0;"), 10, 0, 1);
        PostRelief x = Checks.told("p2 0;p1 0;m60;m60;");
        x.sends(0, 0);
        oddsDue(x, 0, 0, 1);
        oddsDue(x, 3, 3, 10);
        oddsDue(x, 10, 1, 1);
        x.sends(1, 1);
        oddsDue(x, 3, 51, 100);
        oddsDue(x, 5, 3, 4);
        due("nothing is changed", 3, x.now(2));
        x = Checks.told("p0 0;p0 0;m60;m60;");
        x.sends(0, 0);
        oddsDue(x, 10, 0, 1);
        x.sends(1, 1);
        oddsDue(x, 3, 9, 100);
        x = Checks.told("p0 0;p0 0;m60;m39;");
        x.sends(0, 0);
        x.sends(1, 1);
        oddsDue(x, 7, 7, 10);
    }

    private static void oddsInLeastTerms() {
        PostRelief x = Checks.told("p0 0;p0 0;p0 0;p0 0;p0 0;m60;m60;m60;m60;m60;");
        for (int p = 0; p < 5; p++) {
            x.sends(p, p);
        }
        oddsDue(x, 0, 0, 1);
        oddsDue(x, 1, 1, 100000);
        oddsDue(x, 2, 1, 3125);
        oddsDue(x, 9, 59049, 100000);
        oddsDue(x, 10, 1, 1);
        x = Checks.told("p31 0;p0 0;p0 0;p0 0;p15 0;m60;m60;m60;m60;m60;");
        for (int p = 0; p < 5; p++) {
            x.sends(p, p);
        }
        oddsDue(x, 5, 3, 4);
        oddsDue(x, 1, 19, 100);
    }

    private static void oddsRefused() {
        PostRelief x = Checks.told("p0 0;m0;");
        int[][] bad = {{-1, 0}, {11, 0}, {LEAST, 0}, {MOST, 0}, {0, -1}, {0, 2}, {0, LEAST}, {0, MOST}};
        for (int[] a : bad) {
            due("odds(" + a[0] + ", " + a[1] + ")", -1, x.odds(a[0], a[1]));
        }
    }
}
