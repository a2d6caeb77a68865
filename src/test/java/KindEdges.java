import java.util.List;

/** Promises 27 to 29 and 31: the edges of kinds, images and the trace; and how long an object is used. */
final class KindEdges extends SentenceGroup {
    KindEdges(Sentences sentences) {
        super(sentences);
    }

    @Override
    void all() {
        rateRefuses();
        rateBelowNothing();
        rateOfAPostFrom0To9();
        rateOfAGateOfNobody();
        rateOfAPumpOfNobody();
        rateOfALaneAsksOnce();
        rateOfAYardByItsNumber();
        rateOfATowerThatSeesNone();
        rateOfEveryKind();
        traceIsNothingAtFirst();
        traceCountsEachOnce();
        traceGoesOn();
        keepRefuses();
        keepFrom0To200();
        backRefuses();
        backLeavesNothingToUndo();
        backBringsAllOfThat();
        imagesKeepNothingElse();
        imagesAreGoneAnew();
        refusedInOrder();
        fiveHundredAndTwelveCalls();
    }

    // ---- Promise 27

    private void rateRefuses() {
        at(27, "RATE. NO: BAD.");
        for (Run x : new Run[] {busy(), busyBehindBack()}) {
            x.refuses(NO, call("rate", 0, 0), 0, -1, 6, LEAST, MOST);
            x.refuses(NO, call("rate", 5, 0), 1, -1, 3, 5, LEAST, MOST);
            x.due(1011, "trace");
        }
        told("m0;").unchanged(NO, "rate", 0, 0);
        told(ALL).refuses(NO, call("rate", 0, 0), 1, -1, 5);
    }

    private void rateBelowNothing() {
        at(27, "The constants: `NO = -1000000`: What none is, where a number may be below 0.");
        for (int debt : new int[] {1, 2, 3, 9, 60}) {
            Run x = posted("p0 0;m" + debt + ";", 1);
            x.due(-debt, "rate", 2, 0);
            x.due(-debt, "rate", 4, 0);
            x.unchanged(NO, "rate", 2, 1);
        }
    }

    private void rateOfAPostFrom0To9() {
        at(27, "POST its COLD (1)");
        Run x = told("p0 0;p0 9;m60;").does("sends", 0, 1);
        x.dueFrom(0, new int[] {0, 9, NO}, "rate", 0);
        x.due(2, "trace");
    }

    private void rateOfAGateOfNobody() {
        at(27, "GATE up, and how long who stands there STOOD, 0 for nobody (10)");
        Run x = told("p0 9;m0;").hours(3);
        x.due(9, "rate", 1, 0);
        x.due(11, "trace");
        x.does("sends", 0, 0);
        x.due(9, "rate", 1, 0);
        x.hours(197);
        x.due(206, "rate", 1, 0);
        x.does("calls", 0);
        x.due(9, "rate", 1, 0);
    }

    private void rateOfAPumpOfNobody() {
        at(27, "PUMP up less DEBT of who stands there, 0 for nobody (100)");
        Run x = told("p0 9;m60;");
        x.due(9, "rate", 2, 0);
        x.due(101, "trace");
        x.does("sends", 0, 0);
        x.due(-51, "rate", 2, 0);
        x.does("calls", 0);
        x.due(9, "rate", 2, 0);
    }

    private void rateOfALaneAsksOnce() {
        at(27, "LANE twice up (asked once) (1000)");
        Run x = told("p0 9;m60;");
        x.due(18, "rate", 3, 0);
        x.due(1011, "trace");
        x.does("sends", 0, 0).hours(200);
        x.due(418, "rate", 3, 0);
        x.due(2022, "trace");
        x = told("p0 0;");
        x.due(0, "rate", 3, 0);
    }

    private void rateOfAYardByItsNumber() {
        at(27, "YARD up, and its number (10000)");
        Run x = told("p0 1;p0 1;p0 1;p0 1;p0 1;m60;");
        for (int p = 0; p < 5; p++) {
            x.due(1 + p, "rate", 4, p);
        }
        x.due(50505, "trace");
        x.does("sends", 0, 4);
        x.due(-55, "rate", 4, 4);
    }

    private void rateOfATowerThatSeesNone() {
        at(27, "TOWER up, and how many POSTS it SEES (100000)");
        Run x = told(ALL);
        x.due(13, "rate", 5, 0);
        x.due(13, "rate", 5, 4);
        x.due(200002, "trace");
        told("p31 0;").due(0, "rate", 5, 0);
        told("p0 3;p0 0;").due(3, "rate", 5, 0);
        told("p30 3;p2 4;").dueFrom(0, new int[] {4, 4}, "rate", 5);
    }

    private void rateOfEveryKind() {
        at(27, "KINDS of POSTS are over one another: 0 POST; 1 GATE, 2 PUMP, 5 TOWER (each under POST); 3 LANE (under"
            + " GATE); 4 YARD (under PUMP)");
        Run x = told("p0 0;p0 0;p31 7;m0;m40;").does("sends", 1, 2).hours(2);
        int[] rates = {7, 9, 7 - 52, 18, 7 - 52 + 2, 9};
        for (int kind = 0; kind <= 5; kind++) {
            x.due(rates[kind], "rate", kind, 2);
        }
        for (int kind = 0; kind <= 5; kind++) {
            x.due(new int[] {0, 0, 0, 0, 1, 0}[kind], "rate", kind, 1);
        }
    }

    // ---- Promise 31

    private void traceIsNothingAtFirst() {
        at(31, "THE TRACE.");
        fresh().unchanged(0, "trace");
        told(ALL).unchanged(0, "trace");
        Run x = told(ALL);
        x.does("rate", 6, 0).does("rate", 0, 5).does("rate", -1, 0).does("rate", 0, -1);
        x.due(0, "trace");
    }

    private void traceCountsEachOnce() {
        at(31, "(numbers in brackets are added to THE TRACE, 0 at first, as often as rate() asks that body:"
            + " each once;");
        int[] adds = {1, 11, 101, 1011, 10101, 100001};
        for (int kind = 0; kind <= 5; kind++) {
            Run x = told("p1 1;");
            x.does("rate", kind, 0);
            x.due(adds[kind], "trace");
            x.does("rate", kind, 0);
            x.due(2L * adds[kind], "trace");
        }
    }

    private void traceGoesOn() {
        at(31, "THE TRACE goes on, as behind undo(), back()");
        Run x = told("p1 1;m1;").does("keep", 0).hours(1).does("rate", 0, 0);
        x.does("undo");
        x.due(1, "trace");
        x.does("rate", 1, 0).does("back", 0);
        x.due(12, "trace");
        x.tells("p1 1;");
        x.due(12, "trace");
        x.does("rate", 0, 0);
        x.due(13, "trace");
        x.types("x").does("depot");
        x.due(13, "trace");
        x.does(400, call("rate", 5, 0));
        x.due(40000413, "trace");
    }

    // ---- Promises 28 and 29

    private void keepRefuses() {
        at(28, "An IMAGE is kept: THE HOUR. BAD.");
        busy().refuses(BAD, call("keep", 0), 0, -1, 2, LEAST, MOST);
        busyBehindBack().refuses(BAD, call("keep", 0), 0, -1, 2, LEAST, MOST);
        fresh().refuses(BAD, call("keep", 0), 0, -1, 2, LEAST, MOST);
    }

    private void keepFrom0To200() {
        at(28, "IMAGES 0, 1 keep NOW (THE HOUR, MEN, who stands where, what was HAD)");
        Run x = fresh();
        x.due(0, "keep", 0);
        x.due(0, "keep", 1);
        x.due(0, "back", 0);
        x = told("p0 0;m0;").does("keep", 0).hours(200);
        x.due(200, "keep", 1);
        x.due(0, "back", 0);
        x.due(0, "now", 0);
        x.due(200, "back", 1);
        x.unchanged(STATE, "hour");
        x.due(200, "keep", 0);
        x.due(200, "back", 0);
    }

    private void backRefuses() {
        at(29, "BAD; STATE: none was kept.");
        Run x = posted("p0 3;p3 9;m0;m5;", 1).hours(2).does("found", 0, 0, 1).does("rate", 1, 0).types("m5");
        x.refuses(BAD, call("back", 0), 0, -1, 2, LEAST, MOST);
        x.unchanged(STATE, "back", 0);
        x.unchanged(STATE, "back", 1);
        x.does("keep", 1).hours(1);
        x.unchanged(STATE, "back", 0);
        x.due(2, "back", 1);
        x.unchanged(STATE, "back", 0);
        busy().refuses(BAD, call("back", 0), 0, -1, 2, LEAST, MOST);
        busyBehindBack().refuses(BAD, call("back", 0), 0, -1, 2, LEAST, MOST);
        x = told("p0 0;m0;").does("keep", 0).hours(1);
        x.unchanged(STATE, "back", 1);
        x.due(0, "back", 0);
    }

    private void backLeavesNothingToUndo() {
        at(29, "(nothing can be UNDONE behind back())");
        Run x = told("p0 0;m0;").hours(12).does("keep", 0);
        x.due(10, "now", 4);
        x.due(12, "back", 0);
        x.due(0, "now", 4);
        x.unchanged(STATE, "undo");
        x.hours(3);
        x.due(2, "undo");
        x.does("undo").does("undo");
        x.unchanged(STATE, "undo");
        x.due(12, "now", 0);
    }

    private void backBringsAllOfThat() {
        at(29, "All of that becomes as an IMAGE has it: THE HOUR.");
        Run x = busy().does("keep", 0);
        List<Call> plainly = List.of(call("back", 0));
        x.alike("back() behind hour()", plainly, List.of(call("hour"), call("back", 0)));
        x.alike("back() behind relieves()", plainly, List.of(call("relieves", 0, 1), call("back", 0)));
        x.alike("back() behind calls()", plainly, List.of(call("calls", 0), call("back", 0)));
        x.alike("back() behind undo()", plainly, List.of(call("undo"), call("undo"), call("back", 0)));
        x.alike("back() behind back()", plainly, List.of(call("back", 1), call("hour"), call("back", 0)));
        x.alike("back() of the other one", List.of(call("back", 1)), List.of(call("back", 0), call("back", 1)));
        x.due(2, "back", 0);
        x.due(2, "back", 0);
    }

    private void imagesKeepNothingElse() {
        at(29, "what was HAD); nothing else");
        Run x = busy().does("keep", 0);
        x.does("forget").does("found", 0, 1, 0).does("clear").types("p").does("rate", 0, 0).hours(1).does("keep", 1);
        x.due(2, "back", 0);
        x.due(1, "count", 4);
        x.due(1, "count", 5);
        x.due(1012, "trace");
        x.due(3, "back", 1);
    }

    private void imagesAreGoneAnew() {
        at(28, "IMAGES are gone");
        Run x = told("p0 0;m0;").does("keep", 0).does("keep", 1).tells("p0 0;m0;");
        x.unchanged(STATE, "back", 0);
        x.unchanged(STATE, "back", 1);
        x.hours(1);
        x.due(1, "keep", 0);
        x.unchanged(STATE, "back", 1);
        x = told("p0 0;m0;").does("keep", 0).hours(1).types("x").does("depot");
        x.due(0, "back", 0);
    }

    private void refusedInOrder() {
        at(29, "Refused, and nothing changes, the first of these: BAD (a number is not as told, or there is no"
            + " such thing), STATE (as told), FULL.");
        Run x = posted("p0 0;m0;", 1).hours(200).does(6, call("found", 0, 0, 0));
        x.unchanged(BAD, "sends", 0, 1);
        x.unchanged(BAD, "sends", 1, 0);
        x.unchanged(STATE, "sends", 0, 0);
        x.unchanged(BAD, "calls", 1);
        x.unchanged(BAD, "found", 0, 25, 0);
        x.unchanged(FULL, "found", 0, 24, 0);
        x.unchanged(BAD, "back", 2);
        x.unchanged(STATE, "back", 1);
        x.unchanged(STATE, "hour");
    }

    // ---- how long an object is used

    private void fiveHundredAndTwelveCalls() {
        at(31, "An object is used for at most 512 calls after it has been made; what later calls answer is free.");
        Run x = posted("p0 1;m0;", 1);
        x.does(511 - x.calls(), call("rate", 0, 0));
        x.due(511 - 10, "trace");
        x = fresh().hours(200).does(311, call("undo"));
        x.due(190, "now", 0);
    }
}
