/** Promises 8 to 12: men sent and called back, hours, reliefs, and all of it undone. */
public final class DoneTest {
    private static final Checks CHECKS = new Checks("DoneTest");
    private static final int LEAST = Integer.MIN_VALUE;
    private static final int MOST = Integer.MAX_VALUE;

    private DoneTest() {
    }

    public static void main(String[] args) {
        sendsAnswers();
        callsAnswers();
        hourGrowsDebts();
        hourByTheClock();
        hourEndsAt200();
        relievesTheFreshest();
        relievesNobodyWhoCameBack();
        relievesBothWays();
        relievesAllRound();
        relievesBehindOnHours();
        relievesRefused();
        undoTakesBackEach();
        undoKnowsTen();
        undoLeavesTheRest();
        CHECKS.end();
    }

    private static void due(String what, long want, long got) {
        CHECKS.due(what, want, got);
    }

    private static void sendsAnswers() {
        PostRelief x = Checks.told("p0 0;p0 0;m1;m2;m3;");
        due("sends(2, 1)", 1, x.sends(2, 1));
        due("he stands there", 2, x.post(1, 2));
        due("sends(0, 1): somebody stands there", -2, x.sends(0, 1));
        due("sends(2, 0): he stands elsewhere", -2, x.sends(2, 0));
        due("sends(2, 1): he stands there already", -2, x.sends(2, 1));
        due("only what was not refused may be undone", 1, x.now(4));
        due("sends(0, 0)", 2, x.sends(0, 0));
        int[][] bad = {{-1, 0}, {3, 0}, {6, 0}, {0, -1}, {0, 2}, {0, 5}, {LEAST, 0}, {MOST, 0}, {0, LEAST}, {0, MOST}};
        for (int[] a : bad) {
            due("sends(" + a[0] + ", " + a[1] + "): BAD comes first", -1, x.sends(a[0], a[1]));
        }
        due("sends(0, 0) with nothing told", -1, new PostRelief().sends(0, 0));
    }

    private static void callsAnswers() {
        PostRelief x = Checks.told("p0 0;p0 0;m1;m2;m3;");
        due("calls(0): nobody", -2, x.calls(0));
        due("nothing may be undone", 0, x.now(4));
        x.sends(2, 0);
        due("calls(1): nobody", -2, x.calls(1));
        due("calls(0)", 2, x.calls(0));
        due("nobody stands then", 0, x.now(1));
        due("he stands nowhere then", -9, x.man(2, 1));
        due("calls(0) again", -2, x.calls(0));
        due("two may be undone", 2, x.now(4));
        for (int p : new int[] {-1, 2, 5, LEAST, MOST}) {
            due("calls(" + p + ")", -1, x.calls(p));
        }
        due("calls(0) with nothing told", -1, new PostRelief().calls(0));
    }

    private static void hourGrowsDebts() {
        PostRelief x = Checks.told("p0 0;p0 2;p0 3;p0 8;p0 9;m0;m0;m0;m36;m33;m2;s3;");
        for (int p = 0; p < 5; p++) {
            x.sends(p, p);
        }
        due("hour(): asleep from 40 on, by a third of COLD, cut", 24, x.hour());
        int[] debts = {4, 4, 5, 42, 40, 0};
        for (int m = 0; m < debts.length; m++) {
            due("man(" + m + ", 0) in an hour", debts[m], x.man(m, 0));
        }
        due("now(2)", 24, x.now(2));
        due("now(0)", 1, x.now(0));
        due("had(4, 4)", 1, x.had(4, 4));
        due("had(4, 3)", 0, x.had(4, 3));
        due("post(4, 3)", 1, x.post(4, 3));
        x = Checks.told("p0 9;m54;m9;s9;");
        x.sends(0, 0);
        due("hour() of a sleeper", 1, x.hour());
        due("debt grows to 60 at most", 60, x.man(0, 0));
        x.calls(0);
        x.hour();
        due("the stove takes 9", 51, x.man(0, 0));
        due("debt falls to 0 at least", 0, x.man(1, 0));
    }

    private static void hourByTheClock() {
        PostRelief x = Checks.told("p0 0;m0;s9;");
        int[] grows = {4, 4, 6, 6, 6, 4, 4, 4, 4, 4, 4, 4};
        for (int h = 0; h < 36; h++) {
            x.sends(0, 0);
            x.hour();
            due("the hour " + h + " adds", grows[h % 12], x.man(0, 0));
            x.undo();
            x.undo();
            x.hour();
        }
    }

    private static void hourEndsAt200() {
        PostRelief x = Checks.told("p0 0;m0;");
        for (int i = 0; i < 200; i++) {
            due("hour() number " + i, 0, x.hour());
        }
        due("now(0)", 200, x.now(0));
        due("hour() at 200", -2, x.hour());
        due("now(0) still", 200, x.now(0));
        due("undo() of the last", 9, x.undo());
        due("now(0) then", 199, x.now(0));
        due("hour() from 199", 0, x.hour());
        due("hour() at 200 again", -2, x.hour());
    }

    private static void relievesTheFreshest() {
        PostRelief x = Checks.told("p0 0;m9;m30;m20;m20;o1;s1;");
        x.sends(0, 0);
        x.hour();
        due("relieves(0, 1)", 1, x.relieves(0, 1));
        due("of least DEBT, of several the lowest", 2, x.post(0, 2));
        due("he stands there anew", 0, x.post(0, 3));
        due("who stood there stands nowhere", -9, x.man(0, 1));
        x = Checks.told("p0 0;p0 0;m50;m0;o1;");
        x.sends(0, 1);
        x.hour();
        due("a POST where nobody stands is passed by", 1, x.relieves(0, 1));
        due("nobody stands there still", -9, x.post(0, 2));
        due("the other one stands", 1, x.post(1, 2));
    }

    private static void relievesNobodyWhoCameBack() {
        PostRelief x = Checks.told("p0 0;p0 0;p0 0;m0;m1;m2;m59;o1;s1;");
        x.sends(0, 0);
        x.sends(1, 1);
        x.sends(2, 2);
        x.hour();
        due("relieves(1, 1): one is free", 1, x.relieves(1, 1));
        due("POST 1 first", 3, x.post(1, 2));
        due("POST 2 stays, he who came back has least DEBT but is not asked", 2, x.post(2, 2));
        due("POST 0 stays", 0, x.post(0, 2));
        due("who stays goes on standing", 1, x.post(0, 3));
        due("relieves(0, 1): the next round he is free", 1, x.relieves(0, 1));
        due("POST 0 then", 1, x.post(0, 2));
        due("relieves(0, 1): who came just now stays", 1, x.relieves(0, 1));
        due("POST 2 by who came back from 0", 0, x.post(2, 2));
        due("relieves(0, 1): all came just now", 0, x.relieves(0, 1));
    }

    private static void relievesBothWays() {
        String text = "p0 0;p0 0;p0 0;p0 0;m0;m0;m0;m0;m50;m55;o1;s1;";
        int[][] by = {
            {0, 1, 4, 5, 2, 3}, {1, 1, 0, 4, 5, 3}, {2, 1, 0, 1, 4, 5}, {3, 1, 5, 1, 2, 4},
            {0, 0, 4, 1, 2, 5}, {1, 0, 5, 4, 2, 3}, {2, 0, 0, 5, 4, 3}, {3, 0, 0, 1, 5, 4}};
        for (int[] a : by) {
            PostRelief x = Checks.told(text);
            for (int p = 0; p < 4; p++) {
                x.sends(p, p);
            }
            x.hour();
            String call = "relieves(" + a[0] + ", " + a[1] + ")";
            due(call, 2, x.relieves(a[0], a[1]));
            for (int p = 0; p < 4; p++) {
                due(call + ": who stands at " + p, a[2 + p], x.post(p, 2));
            }
        }
    }

    private static void relievesAllRound() {
        for (int from = 0; from < 3; from++) {
            for (int way = 0; way <= 1; way++) {
                PostRelief x = Checks.told("p0 0;p0 0;p0 0;m0;m0;m0;m1;m3;m5;o1;s1;");
                for (int p = 0; p < 3; p++) {
                    x.sends(p, p);
                }
                x.hour();
                String call = "relieves(" + from + ", " + way + ") with enough MEN";
                due(call, 3, x.relieves(from, way));
                for (int i = 0; i < 3; i++) {
                    int p = Math.floorMod(way == 1 ? from + i : from - i, 3);
                    due(call + ": who comes to " + p, 3 + i, x.post(p, 2));
                }
            }
        }
        PostRelief x = Checks.told("p0 0;p0 0;p0 0;p0 0;p0 0;m0;m0;m0;m0;m0;m9;o1;");
        for (int p = 0; p < 4; p++) {
            x.sends(p, p);
        }
        x.hour();
        due("five POSTS, from the last on by numbers", 2, x.relieves(4, 1));
        x.undo();
        due("five POSTS, from the first on the other way", 2, x.relieves(0, 0));
    }

    private static void relievesBehindOnHours() {
        for (int on = 1; on <= 9; on++) {
            PostRelief x = Checks.told("p0 0;m0;m0;o" + on + ";");
            x.sends(0, 0);
            for (int h = 0; h < on; h++) {
                due("ON " + on + ": relieves behind " + h, 0, x.relieves(0, h & 1));
                x.hour();
            }
            due("ON " + on + ": relieves then", 1, x.relieves(0, 1));
        }
        PostRelief x = Checks.told("p0 0;m0;m0;");
        x.sends(0, 0);
        Checks.hours(x, 5);
        due("ON HOURS or more", 1, x.relieves(0, 0));
    }

    private static void relievesRefused() {
        PostRelief x = Checks.told("p0 0;p0 0;m0;");
        int[][] bad = {{-1, 0}, {2, 0}, {5, 1}, {0, -1}, {0, 2}, {LEAST, 0}, {MOST, 0}, {0, LEAST}, {0, MOST}};
        for (int[] a : bad) {
            due("relieves(" + a[0] + ", " + a[1] + ")", -1, x.relieves(a[0], a[1]));
        }
        due("nothing may be undone", 0, x.now(4));
        due("relieves(1, 0) of nobody", 0, x.relieves(1, 0));
        due("it may be undone all the same", 1, x.now(4));
        due("relieves(0, 1) with nothing told", -1, new PostRelief().relieves(0, 1));
    }

    private static void undoTakesBackEach() {
        PostRelief x = Checks.told("p0 3;p0 0;m10;m20;m0;o1;");
        x.sends(0, 0);
        x.sends(1, 1);
        x.hour();
        x.relieves(0, 1);
        x.calls(1);
        due("undo() of calls", 4, x.undo());
        due("he stands there again", 1, x.post(1, 2));
        due("as long as he did", 1, x.post(1, 3));
        due("undo() of relieves", 3, x.undo());
        due("who stood there does again", 0, x.post(0, 2));
        due("as long as he did", 1, x.post(0, 3));
        due("undo() of hour", 2, x.undo());
        due("the hour", 0, x.now(0));
        due("debt on post", 10, x.man(0, 0));
        due("debt off post", 0, x.man(2, 0));
        due("had", 0, x.had(0, 0));
        due("stood", 0, x.post(0, 3));
        due("undo() of sends", 1, x.undo());
        due("nobody there", -9, x.post(1, 2));
        due("undo() of the first", 0, x.undo());
        due("nobody anywhere", 0, x.now(1));
        due("undo() of none", -2, x.undo());
        due("refused ones are not known", 0, x.now(4));
    }

    private static void undoKnowsTen() {
        PostRelief x = Checks.told("p0 0;m0;");
        for (int h = 1; h <= 25; h++) {
            x.hour();
            due("now(4) behind " + h, Math.min(h, 10), x.now(4));
        }
        for (int i = 9; i >= 3; i--) {
            due("undo()", i, x.undo());
        }
        due("the hour", 18, x.now(0));
        Checks.hours(x, 4);
        due("seven may be undone", 7, x.now(4));
        for (int i = 6; i >= 0; i--) {
            due("undo()", i, x.undo());
        }
        due("the hour", 15, x.now(0));
        due("older ones are lost", -2, x.undo());
        due("the hour still", 15, x.now(0));
    }

    private static void undoLeavesTheRest() {
        PostRelief x = Checks.told("p0 2;m0;");
        x.hour();
        x.keep(0);
        x.found(0, 1, 0);
        x.rate(0, 0);
        x.type('m');
        x.undo();
        due("what was FOUND stays", 1, x.count(4));
        due("the text stays", 1, x.count(5));
        due("the trace goes on", 1, x.trace());
        due("the image stays", 1, x.back(0));
    }
}
