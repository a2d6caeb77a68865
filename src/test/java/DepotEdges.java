/** Promises 1 to 7 and 30: the edges of the text, of what it tells, and of what stands there. */
final class DepotEdges extends SentenceGroup {
    DepotEdges(Sentences sentences) {
        super(sentences);
    }

    @Override
    void all() {
        newHasNothing();
        newAnswersEveryCall();
        newTellsAsAtFirst();
        newHasNobodyStanding();
        textTakesLetters0To255();
        textTakes200Letters();
        textIsFullBehindBad();
        clearOfAnEmptyAndAFullText();
        postRefuses();
        postSeesNeitherItselfNorWhatIsNot();
        postSeesBits0To4();
        postWhereNobodyStands();
        postStoodOfNobody();
        postStoodWhenHeComes();
        manRefuses();
        manWhoStandsNowhere();
        manIsAsleepFrom40On();
        nowRefuses();
        nowWithNobodyAndWithAll();
        nowWatchesFromAnotherPostOnly();
        nowKnowsTen();
        countRefuses();
        countOfAllThatMayBe();
    }

    // ---- Promise 1

    private void newHasNothing() {
        at(1, "As told; no POSTS, no MEN.");
        Run x = fresh();
        x.dueFrom(0, new int[] {0, 0, 2, 3, 0, 0}, "count");
        x.dueFrom(0, new int[] {0, 0, 0, 0, 0}, "now");
        x.unchanged(BAD, "post", 0, 0);
        x.unchanged(BAD, "man", 0, 0);
        x.due(0, "trace");
    }

    private void newAnswersEveryCall() {
        at(1, "or there is no such thing");
        Run x = fresh();
        x.unchanged(BAD, "sends", 0, 0);
        x.unchanged(BAD, "calls", 0);
        x.unchanged(BAD, "relieves", 0, 1);
        x.unchanged(BAD, "rota", 0);
        x.unchanged(BAD, "unseen", 0, 1);
        x.unchanged(BAD, "found", 0, 0, 0);
        x.unchanged(BAD, "fits", 0, 0);
        x.unchanged(BAD, "had", 0, 0);
        x.unchanged(NO, "rate", 0, 0);
        x.unchanged(STATE, "undo");
        x.unchanged(STATE, "back", 0);
        x.unchanged(STATE, "back", 1);
        x.unchanged(0, "inHours", 60, 1, 0);
        x.unchanged(0, "inHours", 60, 1, 1);
        x.unchanged(0, "forget");
        x.unchanged(0, "clear");
        x.unchanged(0, "depot");
    }

    private void newTellsAsAtFirst() {
        at(1, "THE HOUR (0 at first; 200 at most)");
        fresh().due(0, "now", 0);
        Run x = fresh();
        x.due(0, "keep", 0);
        x.due(0, "hour");
        x.due(1, "now", 0);
    }

    private void newHasNobodyStanding() {
        at(1, "At each POST one MAN stands, or nobody (at first).");
        fresh().due(0, "now", 1);
        Run x = told(ALL);
        x.due(0, "now", 1);
        for (int p = 0; p < 5; p++) {
            x.due(NONE, "post", p, 2);
        }
        for (int m = 0; m < 6; m++) {
            x.due(NONE, "man", m, 1);
        }
    }

    // ---- Promises 2 and 3

    private void textTakesLetters0To255() {
        at(2, "A letter (0 .. 255) comes to THE TEXT: how many it has.");
        Run x = fresh();
        x.due(1, "type", 0);
        x.due(2, "type", 255);
        x.refuses(BAD, call("type", 0), 0, -1, 256, LEAST, MOST);
        x.due(2, "count", 5);
        x.due(3, "type", 1);
        busy().refuses(BAD, call("type", 0), 0, -1, 256, LEAST, MOST);
        busyBehindBack().refuses(BAD, call("type", 0), 0, -1, 256, LEAST, MOST);
    }

    private void textTakes200Letters() {
        at(2, "a text (200 letters at most)");
        Run x = fresh();
        for (int i = 1; i <= 200; i++) {
            x.due(i, "type", 32);
        }
        x.unchanged(FULL, "type", 32);
        x.due(200, "count", 5);
        x.due(200, "clear");
        x.due(1, "type", 32);
        x = fresh().types(" ".repeat(200));
        x.due(0, "depot");
        x.due(1, "type", 32);
    }

    private void textIsFullBehindBad() {
        at(2, "BAD; FULL.");
        Run x = told("p1 2;m3;").types("m".repeat(199));
        x.unchanged(BAD, "type", 256);
        x.due(200, "type", 255);
        x.unchanged(FULL, "type", 0);
        x.unchanged(FULL, "type", 255);
        busy().types(";" + " ".repeat(197)).unchanged(FULL, "type", 'x');
        busyBehindBack().types(";" + " ".repeat(197)).unchanged(FULL, "type", 'x');
        x.refuses(BAD, call("type", 0), 0, -1, 256, LEAST, MOST);
    }

    private void clearOfAnEmptyAndAFullText() {
        at(3, "THE TEXT is empty: how many letters it had.");
        Run x = told("p1 2;m3;");
        x.unchanged(0, "clear");
        x.does("type", 'x');
        x.due(1, "clear");
        x.unchanged(0, "clear");
        x.types("x".repeat(200));
        x.due(200, "clear");
        x.due(0, "count", 5);
        x.due(1, "count", 0);
        x.due(1, "count", 1);
        x.due(3, "man", 0, 0);
        x.due(0, "depot");
    }

    // ---- Promise 5

    private void postRefuses() {
        at(5, "3 how long he STOOD (0 for nobody). BAD.");
        for (Run x : new Run[] {busy(), busyBehindBack()}) {
            x.refuses(BAD, call("post", 0, 0), 0, -1, 3, 5, LEAST, MOST);
            x.refuses(BAD, call("post", 0, 0), 1, -1, 4, LEAST, MOST);
        }
        told(ALL).refuses(BAD, call("post", 0, 3), 0, -1, 5);
        told("m1;").refuses(BAD, call("post", 0, 3), 0, -1, 0);
    }

    private void postSeesNeitherItselfNorWhatIsNot() {
        at(5, "0 which it SEES (of POSTS there are, but itself)");
        for (int posts = 1; posts <= 5; posts++) {
            Run x = told("p31 0;".repeat(posts));
            for (int p = 0; p < posts; p++) {
                x.due((1 << posts) - 1 - (1 << p), "post", p, 0);
            }
        }
    }

    private void postSeesBits0To4() {
        at(5, "which POSTS it SEES (bits 0 .. 4; itself does not count)");
        Run x = told("p30 0;p1 0;p2 0;p4 0;p8 0;");
        x.due(30, "post", 0, 0);
        for (int p = 1; p < 5; p++) {
            x.due(1 << p - 1, "post", p, 0);
        }
        x = told("p1 0;p2 0;p4 0;p8 0;p16 0;");
        for (int p = 0; p < 5; p++) {
            x.due(0, "post", p, 0);
        }
    }

    private void postWhereNobodyStands() {
        at(5, "2 who stands there (NONE)");
        Run x = told(ALL);
        x.due(NONE, "post", 0, 2);
        x.does("sends", 0, 0).does("sends", 5, 4);
        x.due(0, "post", 0, 2);
        x.due(NONE, "post", 1, 2);
        x.due(5, "post", 4, 2);
        x.does("calls", 4);
        x.due(NONE, "post", 4, 2);
    }

    private void postStoodOfNobody() {
        at(5, "how long he STOOD (0 for nobody)");
        Run x = told("p0 0;p0 0;m0;");
        x.hours(3);
        x.due(0, "post", 0, 3);
        x.does("sends", 0, 0).hours(3);
        x.due(3, "post", 0, 3);
        x.due(0, "post", 1, 3);
        x.does("calls", 0);
        x.due(0, "post", 0, 3);
        x.hours(1);
        x.due(0, "post", 0, 3);
    }

    private void postStoodWhenHeComes() {
        at(5, "STOOD: how many HOURS he stands there so far (0 when he comes)");
        Run x = told("p0 0;m0;m0;o2;").hours(2).does("sends", 0, 0);
        x.due(0, "post", 0, 3);
        x.hours(2);
        x.due(2, "post", 0, 3);
        x.does("relieves", 0, 1);
        x.due(1, "post", 0, 2);
        x.due(0, "post", 0, 3);
        x.hours(1);
        x.due(1, "post", 0, 3);
        x.does("calls", 0).does("sends", 1, 0);
        x.due(0, "post", 0, 3);
        x.hours(190);
        x.due(190, "post", 0, 3);
    }

    // ---- Promise 6

    private void manRefuses() {
        at(6, "2 whether ASLEEP. BAD.");
        for (Run x : new Run[] {busy(), busyBehindBack()}) {
            x.refuses(BAD, call("man", 0, 0), 0, -1, 4, 6, LEAST, MOST);
            x.refuses(BAD, call("man", 0, 0), 1, -1, 3, LEAST, MOST);
        }
        told(ALL).refuses(BAD, call("man", 0, 2), 0, -1, 6);
        told("p1 1;").refuses(BAD, call("man", 0, 2), 0, -1, 0);
    }

    private void manWhoStandsNowhere() {
        at(6, "1 where he stands (NONE)");
        Run x = told(ALL);
        x.due(NONE, "man", 0, 1);
        x.does("sends", 0, 4).does("sends", 5, 0);
        x.due(4, "man", 0, 1);
        x.due(NONE, "man", 1, 1);
        x.due(0, "man", 5, 1);
        x.does("calls", 4);
        x.due(NONE, "man", 0, 1);
    }

    private void manIsAsleepFrom40On() {
        at(6, "who stands at a POST with DEBT of 40 or more");
        Run x = told("p0 0;p0 0;p0 0;m39;m40;m60;m60;");
        for (int m = 0; m < 4; m++) {
            x.due(0, "man", m, 2);
        }
        x.does("sends", 0, 0).does("sends", 1, 1).does("sends", 2, 2);
        x.due(0, "man", 0, 2);
        x.due(1, "man", 1, 2);
        x.due(1, "man", 2, 2);
        x.due(0, "man", 3, 2);
        x.due(6, "now", 2);
        x.does("calls", 2);
        x.due(0, "man", 2, 2);
        x.due(2, "now", 2);
    }

    // ---- Promise 7

    private void nowRefuses() {
        at(7, "4 how many may be UNDONE. BAD.");
        busy().refuses(BAD, call("now", 0), 0, -1, 5, LEAST, MOST);
        busyBehindBack().refuses(BAD, call("now", 0), 0, -1, 5, LEAST, MOST);
        fresh().refuses(BAD, call("now", 0), 0, -1, 5);
    }

    private void nowWithNobodyAndWithAll() {
        at(7, "1 POSTS where somebody stands (bits), 2 where one is ASLEEP (bits), 3 WATCHED (bits)");
        Run x = told(ALL);
        x.dueFrom(0, new int[] {0, 0, 0, 0, 0}, "now");
        for (int p = 0; p < 5; p++) {
            x.does("sends", p, p);
        }
        x.dueFrom(0, new int[] {0, 31, 31, 0, 5}, "now");
        x = posted("p0 0;p0 0;p0 0;p0 0;p0 0;m39;m39;m39;m39;m39;", 5);
        x.dueFrom(0, new int[] {0, 31, 0, 31, 5}, "now");
        x.hours(1);
        x.dueFrom(0, new int[] {1, 31, 31, 0, 6}, "now");
    }

    private void nowWatchesFromAnotherPostOnly() {
        at(7, "WATCHED: POSTS (bits) that some MAN who stands and is not ASLEEP SEES, from another POST,"
            + " or where such a one stands");
        Run x = told("p31 0;p2 0;p0 0;m40;m39;");
        x.due(0, "now", 3);
        x.does("sends", 0, 1);
        x.due(0, "now", 3);
        x.does("calls", 1).does("sends", 0, 0);
        x.due(0, "now", 3);
        x.does("sends", 1, 1);
        x.due(2, "now", 3);
        x.does("calls", 0).does("calls", 1).does("sends", 1, 0);
        x.due(7, "now", 3);
    }

    private void nowKnowsTen() {
        at(7, "(10 are known, older ones are lost)");
        Run x = told("p0 0;m0;");
        for (int i = 0; i <= 12; i++) {
            x.due(Math.min(i, 10), "now", 4);
            x.hours(1);
        }
        x.does("undo");
        x.due(9, "now", 4);
        x.does("keep", 0).does("back", 0);
        x.due(0, "now", 4);
    }

    // ---- Promise 30

    private void countRefuses() {
        at(30, "5 letters of THE TEXT. BAD.");
        busy().refuses(BAD, call("count", 0), 0, -1, 6, LEAST, MOST);
        busyBehindBack().refuses(BAD, call("count", 0), 0, -1, 6, LEAST, MOST);
        fresh().refuses(BAD, call("count", 0), 0, -1, 6);
    }

    private void countOfAllThatMayBe() {
        at(30, "0 POSTS, 1 MEN, 2 ON, 3 STOVE, 4 FOUND, 5 letters of THE TEXT.");
        Run x = told(ALL).does(6, call("found", 5, 24, 1)).types(" ".repeat(200));
        x.dueFrom(0, new int[] {5, 6, 9, 9, 6, 200}, "count");
        x.does("forget").does("clear").does("depot");
        x.dueFrom(0, new int[] {0, 0, 2, 3, 0, 0}, "count");
        x.tells("o1;s1;");
        x.dueFrom(0, new int[] {0, 0, 1, 1, 0, 0}, "count");
    }
}
