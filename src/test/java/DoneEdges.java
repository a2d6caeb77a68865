import java.util.List;

/** Promises 8 to 12: the edges of what is done, and of what is undone. */
final class DoneEdges extends SentenceGroup {
    DoneEdges(Sentences sentences) {
        super(sentences);
    }

    @Override
    void all() {
        sendsRefuses();
        sendsWhereSomebodyStands();
        sendsFromNobodyToAll();
        callsRefuses();
        callsWhereNobodyStands();
        hourIsRefusedAt200();
        hourOfNobody();
        hourByTheClock();
        hourByAThirdOfCold();
        hourKeepsDebtFrom0To60();
        hourAnswersWhoIsAsleep();
        hourAnswersNoneAndAll();
        hourByStove();
        hoursAreHad();
        relievesRefuses();
        relievesAllRound();
        relievesOnePostAlone();
        relievesBehindOnHours();
        relievesWithNobodyFree();
        relievesNobodyWhoCameBack();
        relievesByTheLowestOfSeveral();
        relievesNobody();
        undoRefuses();
        undoCountsDown();
        undoKnowsTen();
        undoKnowsNothingRefused();
        undoLeavesTheTrace();
    }

    // ---- Promise 8

    private void sendsRefuses() {
        at(8, "BAD; STATE: somebody stands there, he stands elsewhere.");
        for (Run x : new Run[] {busy(), busyBehindBack()}) {
            x.refuses(BAD, call("sends", 1, 2), 0, -1, 4, 6, LEAST, MOST);
            x.refuses(BAD, call("sends", 1, 2), 1, -1, 3, 5, LEAST, MOST);
            x.refuses(BAD, call("sends", 2, 0), 0, -1, 4);
            x.refuses(BAD, call("sends", 2, 0), 1, -1, 3);
            x.unchanged(STATE, "sends", 1, 0);
            x.unchanged(STATE, "sends", 2, 2);
        }
        told("m1;").unchanged(BAD, "sends", 0, 0);
        told("p1 1;").unchanged(BAD, "sends", 0, 0);
        told(ALL).refuses(BAD, call("sends", 5, 4), 0, -1, 6);
        told(ALL).refuses(BAD, call("sends", 5, 4), 1, -1, 5);
    }

    private void sendsWhereSomebodyStands() {
        at(8, "SENT: a MAN to a POST where nobody stands, who stands nowhere");
        Run x = busy().does("calls", 2);
        x.unchanged(STATE, "sends", 1, 0);
        x.unchanged(STATE, "sends", 2, 2);
        x.unchanged(STATE, "sends", 2, 0);
        x.unchanged(STATE, "sends", 2, 1);
        x.due(3, "sends", 1, 2);
        x.unchanged(STATE, "sends", 0, 2);
        x.does("calls", 0);
        x.due(3, "sends", 2, 0);
    }

    private void sendsFromNobodyToAll() {
        at(8, "SENT: how many stand.");
        Run x = told(ALL);
        for (int p = 0; p < 5; p++) {
            x.due(p + 1, "sends", 5 - p, p);
        }
        for (int p = 0; p < 5; p++) {
            x.unchanged(STATE, "sends", 0, p);
        }
        told("p1 1;m1;").due(1, "sends", 0, 0);
    }

    // ---- Promise 9

    private void callsRefuses() {
        at(9, "BAD; STATE: nobody stands there.");
        for (Run x : new Run[] {busy(), busyBehindBack()}) {
            x.refuses(BAD, call("calls", 0), 0, -1, 3, 5, LEAST, MOST);
        }
        busy().does("calls", 2).unchanged(STATE, "calls", 2);
        busyBehindBack().unchanged(STATE, "calls", 2);
        told("m1;").unchanged(BAD, "calls", 0);
        told("p1 1;m1;").unchanged(STATE, "calls", 0);
        posted(ALL, 5).refuses(BAD, call("calls", 0), 0, -1, 5);
    }

    private void callsWhereNobodyStands() {
        at(9, "BACK: who it was.");
        Run x = told(ALL).does("sends", 0, 4).does("sends", 5, 0);
        x.unchanged(STATE, "calls", 1);
        x.unchanged(STATE, "calls", 3);
        x.due(0, "calls", 4);
        x.unchanged(STATE, "calls", 4);
        x.due(5, "calls", 0);
        x.unchanged(STATE, "calls", 0);
        x.due(0, "now", 1);
        x.due(1, "sends", 5, 4);
    }

    // ---- Promise 10

    private void hourIsRefusedAt200() {
        at(10, "STATE: it is HOUR 200.");
        Run x = told("p0 3;m0;s9;").hours(198);
        x.due(0, "hour");
        x.due(0, "hour");
        x.due(200, "now", 0);
        x.unchanged(STATE, "hour");
        x.unchanged(STATE, "hour");
        x.due(200, "now", 0);
        x.due(1, "sends", 0, 0);
        x.unchanged(STATE, "hour");
        x.due(0, "post", 0, 3);
        x.due(9, "undo");
        x.due(8, "undo");
        x.due(199, "now", 0);
        x.due(0, "hour");
        x.unchanged(STATE, "hour");
        busy().hours(198).unchanged(STATE, "hour");
        busy().hours(198).does("keep", 1).does("back", 1).unchanged(STATE, "hour");
    }

    private void hourOfNobody() {
        at(10, "THE HOUR (0 at first; 200 at most)");
        Run x = fresh();
        x.due(0, "hour");
        x.due(1, "now", 0);
        x = told("p9 9;");
        x.due(0, "hour");
        x = told("m60;");
        x.due(0, "hour");
        x.due(57, "man", 0, 0);
        x = fresh().hours(200);
        x.due(200, "now", 0);
        x.unchanged(STATE, "hour");
    }

    /** What the hours add that leave 0, 1, .. by 12. */
    private void hourByTheClock() {
        at(10, "2 more yet in HOURS that leave 2, 3 or 4 by 12");
        int[] grows = {4, 4, 6, 6, 6, 4, 4, 4, 4, 4, 4, 4};
        for (int from : new int[] {0, 20, 180}) {
            Run x = told("p0 0;m0;s9;").hours(from);
            for (int h = from; h < from + 20; h++) {
                x.does("sends", 0, 0).hours(1);
                x.due(grows[h % 12], "man", 0, 0);
                x.does("undo").does("undo").hours(1);
            }
        }
    }

    private void hourByAThirdOfCold() {
        at(10, "and a third (cut) of COLD of the POST");
        for (int cold = 0; cold <= 9; cold++) {
            Run x = posted("p0 " + cold + ";m0;", 1).hours(1);
            x.due(new int[] {4, 4, 4, 5, 5, 5, 6, 6, 6, 7}[cold], "man", 0, 0);
        }
    }

    private void hourKeepsDebtFrom0To60() {
        at(10, "DEBT is 0 to 60");
        int[][] onPost = {{0, 4}, {55, 59}, {56, 60}, {57, 60}, {60, 60}};
        for (int[] debts : onPost) {
            Run x = posted("p0 0;m" + debts[0] + ";", 1).hours(1);
            x.due(debts[1], "man", 0, 0);
        }
        int[][] offPost = {{1, 0, 0}, {1, 1, 0}, {1, 2, 1}, {3, 2, 0}, {3, 3, 0}, {3, 4, 1}, {9, 8, 0}, {9, 9, 0},
            {9, 60, 51}};
        for (int[] debts : offPost) {
            Run x = told("p0 0;m" + debts[1] + ";s" + debts[0] + ";").hours(1);
            x.due(debts[2], "man", 0, 0);
        }
        Run x = posted("p0 9;m60;s1;", 1).hours(5);
        x.due(60, "man", 0, 0);
        x.does("calls", 0).hours(60);
        x.due(0, "man", 0, 0);
        x.does("sends", 0, 0).hours(1);
        x.due(7, "man", 0, 0);
    }

    private void hourAnswersWhoIsAsleep() {
        at(10, "ASLEEP on his feet: who stands at a POST with DEBT of 40 or more.");
        Run x = posted("p0 0;p0 0;p0 0;p0 0;p0 0;m35;m36;m35;m36;m37;m60;", 5);
        x.due(26, "hour");
        x.due(31, "hour");
        x.does("calls", 4);
        x.due(15, "hour");
        told("p0 0;m60;").due(0, "hour");
    }

    private void hourAnswersNoneAndAll() {
        at(10, "An HOUR: who is ASLEEP then (POSTS, bits).");
        told(ALL).due(0, "hour");
        posted(ALL, 5).due(31, "hour");
        posted("p0 0;m35;", 1).due(0, "hour");
        posted("p0 0;m36;", 1).due(1, "hour");
    }

    private void hourByStove() {
        at(10, "all others have STOVE less");
        for (int stove = 1; stove <= 9; stove++) {
            Run x = told("p0 0;m60;m60;s" + stove + ";").does("sends", 1, 0).hours(1);
            x.due(60 - stove, "man", 0, 0);
            x.due(60, "man", 1, 0);
        }
        told("m60;").hours(1).due(57, "man", 0, 0);
    }

    private void hoursAreHad() {
        at(10, "HAD: how many HOURS a MAN stood at which POST in all");
        Run x = posted("p0 0;p0 0;m0;m50;", 1).hours(2).does("calls", 0).does("sends", 0, 1).hours(1);
        x.does("calls", 1).does("sends", 0, 0).hours(3);
        x.due(5, "had", 0, 0);
        x.due(1, "had", 0, 1);
        x.due(0, "had", 1, 0);
        x.due(3, "post", 0, 3);
        x.due(32, "man", 1, 0);
    }

    // ---- Promise 11

    private void relievesRefuses() {
        at(11, "BAD (way 0, 1).");
        for (Run x : new Run[] {busy(), busyBehindBack()}) {
            x.refuses(BAD, call("relieves", 0, 1), 0, -1, 3, 5, LEAST, MOST);
            x.refuses(BAD, call("relieves", 0, 1), 1, -1, 2, LEAST, MOST);
        }
        told("m1;").unchanged(BAD, "relieves", 0, 1);
        posted(ALL, 5).refuses(BAD, call("relieves", 0, 0), 0, -1, 5);
    }

    /** From each POST, each way: the next free MAN is more in debt, so who stands where tells the way. */
    private void relievesAllRound() {
        at(11, "RELIEVED: POST by POST, from one on, the one way round (by numbers, way 1) or the other one (way 0),"
            + " at each");
        String men = "m0;m0;m0;m0;m0;m0;";
        for (int posts = 1; posts <= 5; posts++) {
            StringBuilder free = new StringBuilder();
            for (int i = 0; i < 6 - posts; i++) {
                free.append('m').append(10 + i).append(';');
            }
            String text = "p0 0;".repeat(posts) + men.substring(0, 3 * posts) + free + "o1;s1;";
            for (int from = 0; from < posts; from++) {
                relievesFrom(posted(text, posts).hours(1), posts, from, 1);
                relievesFrom(posted(text, posts).hours(1), posts, from, 0);
            }
        }
    }

    private void relievesFrom(Run x, int posts, int from, int way) {
        int relieved = Math.min(posts, 6 - posts);
        x.due(relieved, "relieves", from, way);
        for (int i = 0; i < posts; i++) {
            int p = Math.floorMod(way == 1 ? from + i : from - i, posts);
            x.due(i < relieved ? posts + i : p, "post", p, 2);
            x.due(i < relieved ? 0 : 1, "post", p, 3);
        }
    }

    private void relievesOnePostAlone() {
        at(11, "one behind another round the depot");
        for (int way = 0; way <= 1; way++) {
            Run x = posted("p0 0;m0;m0;m0;o1;", 1).hours(1);
            x.due(1, "relieves", 0, way);
            x.due(1, "post", 0, 2);
        }
        Run x = told("p0 0;p0 0;p0 0;p0 0;p0 0;m0;m9;o1;").does("sends", 0, 0).hours(1);
        x.due(1, "relieves", 4, 1);
        x = told("p0 0;p0 0;p0 0;p0 0;p0 0;m0;m9;o1;").does("sends", 0, 4).hours(1);
        x.due(1, "relieves", 0, 0);
        x = told("p0 0;p0 0;p0 0;p0 0;p0 0;m0;m9;o1;").does("sends", 0, 3).hours(1);
        x.due(1, "relieves", 4, 1);
        x = told("p0 0;p0 0;p0 0;p0 0;p0 0;m0;m9;o1;").does("sends", 0, 1).hours(1);
        x.due(1, "relieves", 0, 0);
    }

    private void relievesBehindOnHours() {
        at(11, "who stands there for ON HOURS or more comes back");
        for (int on = 1; on <= 9; on++) {
            Run x = posted("p0 0;m0;m0;o" + on + ";", 1);
            for (int h = 0; h < on; h++) {
                x.due(0, "relieves", 0, 1);
                x.due(0, "post", 0, 2);
                x.hours(1);
            }
            x.due(1, "relieves", 0, 1);
            x.due(1, "post", 0, 2);
            x = posted("p0 0;m0;m0;o" + on + ";", 1).hours(on + 1);
            x.due(1, "relieves", 0, 0);
        }
        posted("p0 0;m0;m0;", 1).hours(1).due(0, "relieves", 0, 1);
        posted("p0 0;m0;m0;", 1).hours(2).due(1, "relieves", 0, 1);
        posted("p0 0;m0;m0;", 1).hours(200).due(1, "relieves", 0, 1);
    }

    private void relievesWithNobodyFree() {
        at(11, "(else who stands there stays)");
        Run x = posted("p0 0;p0 0;m0;m0;o1;", 2).hours(3);
        x.due(0, "relieves", 0, 1);
        x.due(0, "relieves", 1, 0);
        x.dueFrom(2, new int[] {0, 3}, "post", 0);
        x.dueFrom(2, new int[] {1, 3}, "post", 1);
        x.hours(1);
        x.due(4, "post", 0, 3);
        x = posted("p0 0;p0 0;m0;m0;m60;o1;s1;", 2).hours(1);
        x.due(1, "relieves", 1, 1);
        x.dueFrom(2, new int[] {0, 1}, "post", 0);
        x.dueFrom(2, new int[] {2, 0}, "post", 1);
    }

    private void relievesNobodyWhoCameBack() {
        at(11, "if there is a MAN who stands nowhere and came not back in this round");
        Run x = posted("p0 0;p0 0;p0 0;m0;m1;m2;m59;o1;s1;", 3).hours(1);
        x.due(1, "relieves", 0, 1);
        x.dueFrom(2, new int[] {3, 0}, "post", 0);
        x.dueFrom(2, new int[] {1, 1}, "post", 1);
        x.dueFrom(2, new int[] {2, 1}, "post", 2);
        x.due(1, "relieves", 0, 1);
        x.due(3, "post", 0, 2);
        x.due(0, "post", 1, 2);
        x.due(1, "relieves", 0, 1);
        x.due(1, "post", 2, 2);
        x.due(0, "relieves", 0, 1);
        x = posted("p0 0;m0;m1;o1;", 1).hours(1).does("calls", 0).does("sends", 1, 0).hours(1);
        x.due(1, "relieves", 0, 1);
        x.due(0, "post", 0, 2);
    }

    private void relievesByTheLowestOfSeveral() {
        at(11, "of these the one of least DEBT, of several the lowest, stands there instead");
        int[][] next = {{50, 50, 50, 50, 50, 1}, {50, 50, 50, 50, 49, 5}, {50, 50, 49, 49, 50, 3}, {0, 0, 0, 0, 0, 1},
            {60, 60, 60, 60, 0, 5}};
        for (int[] debts : next) {
            StringBuilder text = new StringBuilder("p0 0;m0;");
            for (int i = 0; i < 5; i++) {
                text.append('m').append(debts[i]).append(';');
            }
            Run x = posted(text + "o1;s1;", 1).hours(1);
            x.due(1, "relieves", 0, 1);
            x.due(debts[5], "post", 0, 2);
        }
    }

    private void relievesNobody() {
        at(11, "RELIEVED from a POST on: how many were.");
        told("p0 0;").due(0, "relieves", 0, 1);
        told("p0 0;m0;").due(0, "relieves", 0, 0);
        Run x = posted("p0 0;m0;m0;", 1);
        x.due(0, "relieves", 0, 1);
        x.due(2, "now", 4);
        x = posted("p0 0;p0 0;p0 0;m0;m0;m0;m0;m0;m0;o1;", 3).hours(1);
        x.due(3, "relieves", 0, 1);
        x.due(0, "relieves", 0, 1);
    }

    // ---- Promise 12

    private void undoRefuses() {
        at(12, "STATE: none.");
        fresh().unchanged(STATE, "undo");
        Run x = told("p0 3;m5;").does("keep", 0).does("found", 0, 1, 1).types("m");
        x.unchanged(STATE, "undo");
        x.hours(1);
        x.due(0, "undo");
        x.unchanged(STATE, "undo");
        x.unchanged(STATE, "undo");
        x = busy().does(6, call("undo"));
        x.unchanged(STATE, "undo");
        x = busy().does("back", 1);
        x.unchanged(STATE, "undo");
    }

    private void undoCountsDown() {
        at(12, "UNDONE: how many more may be.");
        Run x = told("p0 0;m0;").hours(10);
        for (int more = 9; more >= 0; more--) {
            x.due(more, "undo");
            x.due(more, "now", 0);
        }
        x.unchanged(STATE, "undo");
        x.hours(1);
        x.due(0, "undo");
        x = busy();
        x.alike("hour() undone", List.of(), List.of(call("hour"), call("undo")));
        x.alike("relieves() undone", List.of(), List.of(call("relieves", 0, 1), call("undo")));
        x.alike("relieves() of nobody undone", List.of(), List.of(call("relieves", 2, 0), call("undo")));
        x.alike("calls() undone", List.of(), List.of(call("calls", 1), call("undo")));
        x.does("calls", 2);
        x.alike("sends() undone", List.of(), List.of(call("sends", 1, 2), call("undo")));
    }

    private void undoKnowsTen() {
        at(12, "(10 are known, older ones are lost)");
        for (int done : new int[] {9, 10, 11, 19, 20, 21, 25}) {
            Run x = told("p0 0;m0;").hours(done);
            int known = Math.min(done, 10);
            for (int more = known - 1; more >= 0; more--) {
                x.due(more, "undo");
            }
            x.due(done - known, "now", 0);
            x.unchanged(STATE, "undo");
            x.due(done - known, "now", 0);
        }
        Run x = told("p0 0;m0;").hours(12).does(4, call("undo")).hours(7);
        x.due(15, "now", 0);
        for (int more = 9; more >= 0; more--) {
            x.due(more, "undo");
        }
        x.due(5, "now", 0);
        x.unchanged(STATE, "undo");
    }

    private void undoKnowsNothingRefused() {
        at(12, "UNDONE: the latest sends(), calls(), hour(), relieves() that was not refused");
        Run x = posted("p0 0;p0 0;m0;m0;", 1);
        x.does("sends", 0, 1).does("sends", 1, 0).does("sends", 9, 9).does("calls", 1).does("calls", 9);
        x.does("relieves", 9, 1).does("relieves", 0, 9).does("rate", 9, 9).does("back", 0).does("type", 'x');
        x.does("depot").does("clear").does("keep", 1).does("found", 0, 0, 0).does("forget").does("rate", 0, 0);
        x.due(1, "now", 4);
        x.due(0, "undo");
        x.due(0, "now", 1);
        x = fresh().hours(200);
        x.does("hour").does("hour");
        x.due(9, "undo");
        x.due(199, "now", 0);
    }

    private void undoLeavesTheTrace() {
        at(12, "THE TRACE goes on, as behind undo()");
        Run x = told("p0 0;m0;").hours(1).does("rate", 5, 0);
        x.due(0, "undo");
        x.due(100001, "trace");
    }
}
