/** Promises 27 to 29 and 31: the rates by kinds, the images, the trace. */
public final class KindTest {
    private static final Checks CHECKS = new Checks("KindTest");
    private static final int LEAST = Integer.MIN_VALUE;
    private static final int MOST = Integer.MAX_VALUE;

    private KindTest() {
    }

    public static void main(String[] args) {
        rateOfAPostWhereOneStands();
        rateOfAPostWhereNobodyStands();
        rateRefused();
        traceAddsUp();
        imagesKeepNow();
        imagesLeaveTheRest();
        imagesRefused();
        CHECKS.end();
    }

    private static void due(String what, long want, long got) {
        CHECKS.due(what, want, got);
    }

    private static void rateOfAPostWhereOneStands() {
        PostRelief x = Checks.told("p0 0;p0 0;p31 7;m0;m40;");
        x.sends(1, 2);
        Checks.hours(x, 2);
        due("as a POST: COLD", 7, x.rate(0, 2));
        due("as a GATE: and STOOD", 9, x.rate(1, 2));
        due("as a PUMP: less DEBT", 7 - 52, x.rate(2, 2));
        due("as a LANE: twice a GATE", 18, x.rate(3, 2));
        due("as a YARD: a PUMP and its number", 7 - 52 + 2, x.rate(4, 2));
        due("as a TOWER: and how many it SEES", 9, x.rate(5, 2));
    }

    private static void rateOfAPostWhereNobodyStands() {
        PostRelief x = Checks.told("p0 0;p5 3;p0 0;m60;");
        x.sends(0, 1);
        x.hour();
        x.calls(1);
        int[] rates = {3, 3, 3, 6, 4, 5};
        for (int kind = 0; kind < rates.length; kind++) {
            due("rate(" + kind + ", 1)", rates[kind], x.rate(kind, 1));
        }
    }

    private static void rateRefused() {
        PostRelief x = Checks.told("p0 0;p0 0;m0;");
        int[][] bad = {{-1, 0}, {6, 0}, {LEAST, 0}, {MOST, 0}, {0, -1}, {0, 2}, {5, 5}, {0, LEAST}, {0, MOST}};
        for (int[] a : bad) {
            due("rate(" + a[0] + ", " + a[1] + ")", -1000000, x.rate(a[0], a[1]));
        }
        due("rate(0, 0) with nothing told", -1000000, new PostRelief().rate(0, 0));
        due("what was refused leaves no trace", 0, x.trace());
    }

    private static void traceAddsUp() {
        long[] adds = {1, 11, 101, 1011, 10101, 100001};
        PostRelief x = Checks.told("p0 0;m0;");
        long sum = 0;
        for (int again = 0; again < 3; again++) {
            for (int kind = 0; kind < adds.length; kind++) {
                x.rate(kind, 0);
                sum += adds[kind];
                due("trace() behind rate(" + kind + ", 0)", sum, x.trace());
            }
        }
        x.hour();
        x.undo();
        due("undo() leaves it", sum, x.trace());
        x.keep(0);
        x.rate(0, 0);
        x.back(0);
        due("back() leaves it", sum + 1, x.trace());
        x.clear();
        x.depot();
        due("depot() leaves it", sum + 1, x.trace());
        due("trace() leaves it", sum + 1, x.trace());
    }

    private static void imagesKeepNow() {
        PostRelief x = Checks.told("p0 3;p0 0;m10;m20;m5;o1;");
        due("keep(1) at first", 0, x.keep(1));
        x.sends(0, 0);
        x.sends(1, 1);
        Checks.hours(x, 2);
        due("keep(0)", 2, x.keep(0));
        due("keep() is not undone", 4, x.now(4));
        x.relieves(0, 1);
        Checks.hours(x, 3);
        x.calls(1);
        due("back(0)", 2, x.back(0));
        due("the hour", 2, x.now(0));
        due("debt on post", 20, x.man(0, 0));
        due("debt off post", 0, x.man(2, 0));
        due("who stands at 0", 0, x.post(0, 2));
        due("who stands at 1", 1, x.post(1, 2));
        due("how long he STOOD", 2, x.post(0, 3));
        due("what was HAD", 2, x.had(0, 0));
        due("what another HAD", 0, x.had(2, 0));
        due("nothing can be undone", 0, x.now(4));
        due("undo()", -2, x.undo());
        x.hour();
        due("hour and undo() go on from there", 0, x.undo());
        due("back(0) again", 2, x.back(0));
        due("back(1): each image by itself", 0, x.back(1));
        due("nobody stood then", 0, x.now(1));
        x.hour();
        due("keep(0) anew", 1, x.keep(0));
        x.hour();
        due("back(0): the newer one", 1, x.back(0));
    }

    private static void imagesLeaveTheRest() {
        PostRelief x = Checks.told("p0 3;m10;");
        x.keep(0);
        x.found(0, 1, 1);
        x.type('m');
        x.rate(0, 0);
        due("back(0)", 0, x.back(0));
        due("what was FOUND stays", 1, x.count(4));
        due("the text stays", 1, x.count(5));
        due("the trace stays", 1, x.trace());
        x.forget();
        due("back(0) brings nothing FOUND", 0, x.back(0));
        due("nothing was FOUND", 0, x.count(4));
        x.hour();
        x.undo();
        due("undo() leaves images", 0, x.back(0));
        x.clear();
        due("no ITEMS", 0, x.depot());
        due("images are gone", -2, x.back(0));
    }

    private static void imagesRefused() {
        PostRelief x = Checks.told("p0 3;m10;");
        x.hour();
        for (int image : new int[] {-1, 2, LEAST, MOST}) {
            due("keep(" + image + ")", -1, x.keep(image));
            due("back(" + image + ")", -1, x.back(image));
        }
        due("back(0) of none", -2, x.back(0));
        due("back(1) of none", -2, x.back(1));
        due("what was refused changes nothing", 1, x.now(4));
        x.keep(0);
        due("back(1) of none still", -2, x.back(1));
    }
}
