/** Promises 1 to 7 and 30: the text, what it tells, and what stands there. */
public final class DepotTest {
    private static final Checks CHECKS = new Checks("DepotTest");

    private DepotTest() {
    }

    public static void main(String[] args) {
        aNewObject();
        typeAndClear();
        depotTellsAnew();
        depotTakesBlanks();
        depotFaultsOfTokens();
        depotFaultsOfNumbers();
        depotFaultsOfTooMuch();
        depotFaultChangesNothing();
        postAnswers();
        manAnswers();
        nowAnswers();
        countAnswers();
        CHECKS.end();
    }

    private static void due(String what, long want, long got) {
        CHECKS.due(what, want, got);
    }

    private static void aNewObject() {
        PostRelief x = new PostRelief();
        int[] counts = {0, 0, 2, 3, 0, 0};
        for (int what = 0; what < counts.length; what++) {
            due("new: count(" + what + ")", counts[what], x.count(what));
        }
        for (int what = 0; what <= 4; what++) {
            due("new: now(" + what + ")", 0, x.now(what));
        }
        due("new: post(0, 0)", -1, x.post(0, 0));
        due("new: man(0, 0)", -1, x.man(0, 0));
        due("new: back(0)", -2, x.back(0));
        due("new: back(1)", -2, x.back(1));
        due("new: undo()", -2, x.undo());
        due("new: trace()", 0, x.trace());
        due("BAD", -1, PostRelief.BAD);
        due("STATE", -2, PostRelief.STATE);
        due("FULL", -3, PostRelief.FULL);
        due("NONE", -9, PostRelief.NONE);
        due("NO", -1000000, PostRelief.NO);
    }

    private static void typeAndClear() {
        PostRelief x = new PostRelief();
        due("clear() of nothing", 0, x.clear());
        due("type(-1)", -1, x.type(-1));
        due("type(256)", -1, x.type(256));
        due("type(the least)", -1, x.type(Integer.MIN_VALUE));
        due("type(the greatest)", -1, x.type(Integer.MAX_VALUE));
        due("type(0)", 1, x.type(0));
        due("type(255)", 2, x.type(255));
        due("clear()", 2, x.clear());
        due("clear() again", 0, x.clear());
        for (int i = 1; i <= 200; i++) {
            due("type(32), number " + i, i, x.type(32));
        }
        due("type(32) beyond 200", -3, x.type(32));
        due("type(256) beyond 200: BAD comes first", -1, x.type(256));
        due("count(5) of a full text", 200, x.count(5));
        due("depot() of 200 blanks", 0, x.depot());
        due("type(32) once it was read", 1, x.type(32));
    }

    private static void depotTellsAnew() {
        PostRelief x = Checks.typed("o9;s1;p3 9;p1 0;m60;m0;m7;");
        due("depot()", 7, x.depot());
        int[] counts = {2, 3, 9, 1, 0, 0};
        for (int what = 0; what < counts.length; what++) {
            due("told: count(" + what + ")", counts[what], x.count(what));
        }
        x.sends(0, 0);
        x.hour();
        x.found(1, 0, 1);
        x.keep(0);
        x.keep(1);
        x.rate(0, 0);
        Checks.type(x, "m5;p0 4;");
        due("depot() again", 2, x.depot());
        int[] anew = {1, 1, 2, 3, 0, 0};
        for (int what = 0; what < anew.length; what++) {
            due("anew: count(" + what + ")", anew[what], x.count(what));
        }
        for (int what = 0; what <= 4; what++) {
            due("anew: now(" + what + ")", 0, x.now(what));
        }
        due("anew: man(0, 0)", 5, x.man(0, 0));
        due("anew: man(0, 1)", -9, x.man(0, 1));
        due("anew: post(0, 3)", 0, x.post(0, 3));
        due("anew: had(0, 0)", 0, x.had(0, 0));
        due("anew: undo()", -2, x.undo());
        due("anew: back(0)", -2, x.back(0));
        due("anew: back(1)", -2, x.back(1));
        due("anew: the trace goes on", 1, x.trace());
        due("depot() of no text: no ITEMS", 0, x.depot());
        due("no POSTS then", 0, x.count(0));
        due("no MEN then", 0, x.count(1));
    }

    private static void depotTakesBlanks() {
        PostRelief x = Checks.told("  p  31   9  ;m60;m 0;  o 1;s   9 ;  ");
        due("blanks: post(0, 1)", 9, x.post(0, 1));
        due("blanks: man(0, 0)", 60, x.man(0, 0));
        due("blanks: count(2)", 1, x.count(2));
        due("blanks: count(3)", 9, x.count(3));
        fault("p1\t2;", 2);
        fault("p1\n2;", 2);
        x = Checks.typed("p31 9;p31 9;p31 9;p31 9;p31 9;m60;m60;m60;m60;m60;m60;o9;s9;");
        due("all that may be told", 13, x.depot());
        due("five POSTS", 5, x.count(0));
        due("six MEN", 6, x.count(1));
        due("the last POST", 15, x.post(4, 0));
        due("the last MAN", 60, x.man(5, 0));
    }

    private static void fault(String text, int place) {
        PostRelief x = Checks.typed(text);
        due("depot() of \"" + text + "\"", -10 - place, x.depot());
        due("the text stays: \"" + text + "\"", text.length(), x.count(5));
    }

    private static void depotFaultsOfTokens() {
        fault(";", 0);
        fault("  ;", 2);
        fault("7;", 0);
        fault("x", 0);
        fault("P1 2;", 0);
        fault("p", 1);
        fault("p  ", 3);
        fault("p1", 2);
        fault("p1 ", 3);
        fault("p1 2", 4);
        fault("p1 2  ", 6);
        fault("p;", 1);
        fault("pp", 1);
        fault("p1;", 2);
        fault("p1 2 3;", 5);
        fault("p1 2p", 4);
        fault("p1 2;;", 5);
        fault("m", 1);
        fault("m5", 2);
        fault("m5 5;", 3);
        fault("mo", 1);
        fault("m5;o", 4);
        fault("o;", 1);
        fault("o1 1;", 3);
        fault("s", 1);
        fault("s1o", 2);
        fault("m5;m-1;", 4);
        fault("m5;" + (char) 255, 3);
        fault("m5;" + (char) 0, 3);
        fault("m5;m" + (char) 0 + ";", 4);
        fault("m5,", 2);
    }

    private static void depotFaultsOfNumbers() {
        fault("p32 0;", 1);
        fault("p60 0;", 1);
        fault("p61 0;", 1);
        fault("p0 10;", 3);
        fault("p0 60;", 3);
        fault("p05;", 1);
        fault("p00 1;", 1);
        fault("p0 00;", 3);
        fault("m61;", 1);
        fault("m060;", 1);
        fault("m 100;", 2);
        fault("m4294967301;", 1);
        fault("m18446744073709551621;", 1);
        fault("m" + "9".repeat(199), 1);
        fault("o0;", 1);
        fault("o10;", 1);
        fault("o01;", 1);
        fault("s0;", 1);
        fault("s10;", 1);
        fault("p1 2;  99", 7);
        fault("p1 2 99", 5);
    }

    private static void depotFaultsOfTooMuch() {
        fault("p0 0;p0 0;p0 0;p0 0;p0 0;p0 0;", 25);
        fault("p0 0;p0 0;p0 0;p0 0;p0 0; px", 26);
        fault("m0;m0;m0;m0;m0;m0;m0;", 18);
        fault("o1;o1;", 3);
        fault("s1;s1;", 3);
        fault("o1;s1;p0 0;m0;s", 14);
        fault("o1;s1;p0 0;m0;o", 14);
        due("o and s once each", 2, Checks.typed("o1;s1;").depot());
    }

    private static void depotFaultChangesNothing() {
        PostRelief x = Checks.told("p2 3;p1 6;m10;m20;o4;s5;");
        x.sends(1, 0);
        x.hour();
        x.keep(1);
        x.found(0, 3, 1);
        Checks.type(x, "p7 9;m1;o1;s1;m1;m1;!");
        due("depot() with a fault", -10 - 20, x.depot());
        int[] counts = {2, 2, 4, 5, 1, 21};
        for (int what = 0; what < counts.length; what++) {
            due("behind a fault: count(" + what + ")", counts[what], x.count(what));
        }
        due("behind a fault: post(0, 0)", 2, x.post(0, 0));
        due("behind a fault: post(0, 1)", 3, x.post(0, 1));
        due("behind a fault: post(0, 2)", 1, x.post(0, 2));
        due("behind a fault: man(1, 0)", 25, x.man(1, 0));
        due("behind a fault: now(0)", 1, x.now(0));
        due("behind a fault: now(4)", 2, x.now(4));
        due("behind a fault: back(1)", 1, x.back(1));
        due("the fault is answered again", -10 - 20, x.depot());
        due("clear() behind a fault", 21, x.clear());
        Checks.type(x, "m1;");
        due("o and s may be told once more", 1, x.depot());
        due("ON is as at first", 2, x.count(2));
    }

    private static void postAnswers() {
        PostRelief x = Checks.told("p31 9;p31 0;p0 5;m30;m38;");
        due("post(0, 0): neither itself nor POSTS there are none", 6, x.post(0, 0));
        due("post(1, 0)", 5, x.post(1, 0));
        due("post(2, 0)", 0, x.post(2, 0));
        due("post(0, 1)", 9, x.post(0, 1));
        due("post(2, 1)", 5, x.post(2, 1));
        due("post(1, 2) of nobody", -9, x.post(1, 2));
        due("post(1, 3) of nobody", 0, x.post(1, 3));
        x.sends(1, 1);
        due("post(1, 2)", 1, x.post(1, 2));
        due("post(1, 3) when he comes", 0, x.post(1, 3));
        Checks.hours(x, 3);
        due("post(1, 3)", 3, x.post(1, 3));
        x.calls(1);
        due("post(1, 2) once he is back", -9, x.post(1, 2));
        due("post(1, 3) once he is back", 0, x.post(1, 3));
        x.sends(1, 1);
        due("post(1, 3) when he comes again", 0, x.post(1, 3));
        int[][] bad = {{-1, 0}, {3, 0}, {5, 0}, {0, -1}, {0, 4}, {Integer.MIN_VALUE, 0},
            {Integer.MAX_VALUE, 0}, {0, Integer.MIN_VALUE}, {0, Integer.MAX_VALUE}};
        for (int[] a : bad) {
            due("post(" + a[0] + ", " + a[1] + ")", -1, x.post(a[0], a[1]));
        }
    }

    private static void manAnswers() {
        PostRelief x = Checks.told("p0 0;p0 0;m39;m40;m60;");
        due("man(0, 0)", 39, x.man(0, 0));
        due("man(2, 0)", 60, x.man(2, 0));
        due("man(2, 1)", -9, x.man(2, 1));
        due("man(2, 2): who stands nowhere is not ASLEEP", 0, x.man(2, 2));
        x.sends(1, 1);
        x.sends(0, 0);
        due("man(1, 1)", 1, x.man(1, 1));
        due("man(0, 1)", 0, x.man(0, 1));
        due("man(1, 2) with 40", 1, x.man(1, 2));
        due("man(0, 2) with 39", 0, x.man(0, 2));
        int[][] bad = {{-1, 0}, {3, 0}, {6, 0}, {0, -1}, {0, 3}, {Integer.MIN_VALUE, 0},
            {Integer.MAX_VALUE, 0}, {0, Integer.MIN_VALUE}, {0, Integer.MAX_VALUE}};
        for (int[] a : bad) {
            due("man(" + a[0] + ", " + a[1] + ")", -1, x.man(a[0], a[1]));
        }
    }

    private static void nowAnswers() {
        PostRelief x = Checks.told("p2 0;p0 0;p0 0;p4 0;p0 0;m39;m40;m0;m36;");
        x.sends(0, 0);
        x.sends(1, 3);
        x.sends(2, 4);
        due("now(1)", 25, x.now(1));
        due("now(2)", 8, x.now(2));
        due("now(3): the sleeper at 3 watches neither 3 nor 2", 19, x.now(3));
        due("now(4)", 3, x.now(4));
        x.hour();
        due("now(0)", 1, x.now(0));
        due("now(2) in an hour", 9, x.now(2));
        due("now(3) in an hour", 16, x.now(3));
        due("now(4) in an hour", 4, x.now(4));
        x.calls(0);
        x.sends(3, 2);
        due("now(3): he watches where he stands", 20, x.now(3));
        due("now(-1)", -1, x.now(-1));
        due("now(5)", -1, x.now(5));
        due("now(the least)", -1, x.now(Integer.MIN_VALUE));
        due("now(the greatest)", -1, x.now(Integer.MAX_VALUE));
    }

    private static void countAnswers() {
        PostRelief x = Checks.told("p0 0;m1;m2;o7;s8;");
        x.found(0, 0, 0);
        x.type(';');
        x.type(';');
        x.type(';');
        int[] counts = {1, 2, 7, 8, 1, 3};
        for (int what = 0; what < counts.length; what++) {
            due("count(" + what + ")", counts[what], x.count(what));
        }
        due("count(-1)", -1, x.count(-1));
        due("count(6)", -1, x.count(6));
        due("count(the least)", -1, x.count(Integer.MIN_VALUE));
        due("count(the greatest)", -1, x.count(Integer.MAX_VALUE));
    }
}
