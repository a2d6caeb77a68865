/** Promises 13 to 15: the edges of what comes. */
final class ComingEdges extends SentenceGroup {
    ComingEdges(Sentences sentences) {
        super(sentences);
    }

    @Override
    void all() {
        inHoursRefuses();
        inHoursFrom0To60();
        inHoursPast200();
        inHoursByRota();
        inHoursOfNoneAndOfAll();
        inHoursTheMost();
        inHoursTheGreatestDebt();
        inHoursOfNoMen();
        comingChangesNothing();
        roundRefuses();
        roundOfNoPosts();
        roundOfSeveral();
        roundAsDebtsAreNow();
        rotaRefuses();
        rotaOfMinusOne();
        rotaOfTooFewMen();
        rotaOfSeveral();
        rotaOfUnlikeMen();
        rotaBehindOnHours();
    }

    // ---- Promise 13

    private void inHoursRefuses() {
        at(13, "the greatest DEBT (2; no MEN: 0). BAD.");
        for (Run x : new Run[] {busy(), busyBehindBack()}) {
            x.refuses(BAD, call("inHours", 1, 1, 1), 0, -1, 61, LEAST, MOST);
            x.refuses(BAD, call("inHours", 1, 1, 1), 1, -1, 2, LEAST, MOST);
            x.refuses(BAD, call("inHours", 1, 1, 1), 2, -1, 3, LEAST, MOST);
        }
        fresh().refuses(BAD, call("inHours", 0, 0, 0), 0, -1, 61);
    }

    private void inHoursFrom0To60() {
        at(13, "IN n (0 .. 60) HOURS");
        Run x = told("p0 0;m60;m40;s1;").does("sends", 1, 0);
        x.due(1, "inHours", 0, 0, 0);
        x.due(1, "inHours", 0, 1, 1);
        x.due(60, "inHours", 0, 0, 2);
        x = told("m60;s1;");
        x.due(59, "inHours", 1, 0, 2);
        x.due(1, "inHours", 59, 0, 2);
        x.due(0, "inHours", 60, 0, 2);
    }

    private void inHoursPast200() {
        at(13, "(past HOUR 200, too; so wherever HOURS from NOW are asked)");
        Run x = told("p0 0;m0;").hours(200).does("sends", 0, 0);
        x.due(0, "inHours", 0, 0, 2);
        x.due(4, "inHours", 1, 0, 2);
        x.due(24, "inHours", 6, 0, 2);
        x.due(30, "inHours", 7, 0, 2);
        x.due(42, "inHours", 9, 0, 2);
        x.due(0, "inHours", 8, 1, 0);
        x.due(1, "inHours", 9, 1, 0);
        x.due(60, "inHours", 60, 1, 2);
        x.unchanged(STATE, "hour");
    }

    private void inHoursByRota() {
        at(13, "with RELIEVED from POST 0 on, way 1, at the end of each (or nobody RELIEVED: rota 0)");
        Run x = posted("p0 0;p0 0;p0 0;m36;m36;m36;m0;m0;o1;s1;", 3);
        x.due(0, "inHours", 0, 1, 0);
        x.due(4, "inHours", 1, 1, 0);
        x.due(7, "inHours", 1, 0, 0);
        x.due(7, "inHours", 60, 0, 0);
        x = posted("p0 0;m40;m0;o1;", 1).hours(1);
        x.due(1, "inHours", 0, 1, 0);
        x.due(0, "inHours", 1, 1, 0);
    }

    private void inHoursOfNoneAndOfAll() {
        at(13, "IN n HOURS by a rota (0, 1): ASLEEP (what = 0), the most (1)");
        Run x = posted("p0 0;p0 0;p0 0;p0 0;p0 0;m40;m40;m40;m40;m40;", 5);
        for (int n = 0; n <= 60; n += 60) {
            for (int rota = 0; rota <= 1; rota++) {
                x.due(31, "inHours", n, rota, 0);
                x.due(5, "inHours", n, rota, 1);
            }
        }
        x = told(ALL);
        x.due(0, "inHours", 60, 1, 0);
        x.due(0, "inHours", 60, 1, 1);
    }

    private void inHoursTheMost() {
        at(13, "the most that were at the end of any of these, and NOW");
        Run x = posted("p0 0;m36;m0;o2;s9;", 1);
        x.due(0, "inHours", 0, 1, 1);
        x.due(1, "inHours", 1, 1, 1);
        x.due(1, "inHours", 2, 1, 1);
        x.due(0, "inHours", 2, 1, 0);
        x = posted("p0 0;m44;m0;o1;s9;", 1);
        x.due(1, "inHours", 0, 1, 1);
        x.due(1, "inHours", 1, 1, 1);
        x.due(0, "inHours", 1, 1, 0);
        x = posted("p0 0;p0 0;p0 0;p0 0;p0 0;m60;m60;m60;m60;m60;", 5);
        x.due(5, "inHours", 0, 0, 1);
        x.due(5, "inHours", 60, 1, 1);
        told("p0 0;m60;").due(0, "inHours", 60, 1, 1);
    }

    private void inHoursTheGreatestDebt() {
        at(13, "the greatest DEBT of all MEN then");
        Run x = told("p0 0;m1;m2;m60;m3;m4;m59;s1;").does("sends", 0, 0);
        x.due(60, "inHours", 0, 0, 2);
        x.due(59, "inHours", 1, 0, 2);
        x = told("p0 0;m1;m2;m3;m4;m5;m60;").does("sends", 5, 0);
        x.due(60, "inHours", 0, 0, 2);
        x.due(60, "inHours", 60, 0, 2);
        x.tells("m1;m2;");
        x.due(2, "inHours", 0, 0, 2);
        told("m0;").due(0, "inHours", 0, 0, 2);
    }

    private void inHoursOfNoMen() {
        at(13, "(2; no MEN: 0)");
        for (int what = 0; what <= 2; what++) {
            fresh().due(0, "inHours", 60, 1, what);
            told("p9 9;").due(0, "inHours", 9, 1, what);
            told("p9 9;").due(0, "inHours", 0, 0, what);
        }
    }

    private void comingChangesNothing() {
        at(13, "(From NOW on; nothing is changed.)");
        Run x = busy();
        for (int what = 0; what <= 1; what++) {
            x.unchanged(x.ask("inHours", 60, 1, what), "inHours", 60, 1, what);
            x.unchanged(x.ask("round", what), "round", what);
            x.unchanged(x.ask("odds", 3, what), "odds", 3, what);
            x.unchanged(x.ask("creep", 24, what), "creep", 24, what);
            x.unchanged(x.ask("fits", 2, what), "fits", 2, what);
            x.unchanged(x.ask("cow", 3, 4, what), "cow", 3, 4, what);
        }
        x.unchanged(x.ask("rota", -1), "rota", -1);
        x.unchanged(x.ask("rota", 2), "rota", 2);
        x.unchanged(x.ask("leave"), "leave");
        x.unchanged(x.ask("two"), "two");
        x.unchanged(x.ask("unseen", 0, 12), "unseen", 0, 12);
        x.unchanged(x.ask("had", 0, 0), "had", 0, 0);
        x.unchanged(x.ask("fair"), "fair");
    }

    // ---- Promise 14

    private void roundRefuses() {
        at(14, "how much (1); NONE. BAD.");
        busy().refuses(BAD, call("round", 0), 0, -1, 2, LEAST, MOST);
        busyBehindBack().refuses(BAD, call("round", 0), 0, -1, 2, LEAST, MOST);
        fresh().refuses(BAD, call("round", 0), 0, -1, 2, LEAST, MOST);
    }

    private void roundOfNoPosts() {
        at(14, "10 times the way and the POST; how much; NONE (no POSTS)");
        fresh().unchanged(NONE, "round", 0);
        fresh().unchanged(NONE, "round", 1);
        told("m5;").due(NONE, "round", 0);
        told("m5;").due(NONE, "round", 1);
        Run x = told("p0 0;");
        x.due(10, "round", 0);
        x.due(0, "round", 1);
        x = posted("p0 0;p0 0;p0 0;p0 0;p0 0;m0;m0;m0;m0;m60;m0;o1;s1;", 5).hours(1);
        x.due(14, "round", 0);
        x.due(16, "round", 1);
    }

    private void roundOfSeveral() {
        at(14, "of several way 1 first, then the lowest POST");
        Run x = posted("p0 0;p0 0;p0 0;m0;m0;m0;", 3);
        x.due(10, "round", 0);
        x.due(0, "round", 1);
        x = posted("p0 0;p0 0;p0 0;m0;m9;m9;m0;o1;s1;", 3).hours(1);
        x.due(11, "round", 0);
        x.due(17, "round", 1);
        x = posted("p0 0;p0 0;m30;m30;m1;m2;o1;s1;", 2).hours(1);
        x.due(10, "round", 0);
        x.due(1, "round", 1);
        x = posted(ALL, 5);
        x.due(10, "round", 0);
        x.due(300, "round", 1);
    }

    private void roundAsDebtsAreNow() {
        at(14, "all MEN who stand then have least DEBT together (DEBTS as they are NOW)");
        Run x = posted("p0 9;p0 9;m0;m20;m5;o1;s1;", 2).hours(1);
        x.due(11, "round", 0);
        x.due(7 + 4, "round", 1);
        x = posted("p0 9;m0;m50;o1;s1;", 1).hours(1);
        x.due(10, "round", 0);
        x.due(49, "round", 1);
    }

    // ---- Promise 15

    private void rotaRefuses() {
        at(15, "the MAN of a POST; NONE. BAD.");
        busy().refuses(BAD, call("rota", 0), 0, -2, 3, 5, LEAST, MOST);
        busyBehindBack().refuses(BAD, call("rota", 0), 0, -2, 3, 5, LEAST, MOST);
        told("p0 0;p0 0;m0;").refuses(BAD, call("rota", 0), 0, -2, 2, LEAST, MOST);
        fresh().refuses(BAD, call("rota", 0), 0, -2, 0, LEAST, MOST);
        told(ALL).refuses(BAD, call("rota", 0), 0, -2, 5);
    }

    private void rotaOfMinusOne() {
        at(15, "ROTA: how much (p = -1)");
        told("p0 9;m50;o1;").dueFrom(-1, new int[] {57, 0}, "rota");
        told("p0 0;m0;m0;o1;").dueFrom(-1, new int[] {4, 0}, "rota");
        told(ALL).due(60, "rota", -1);
    }

    private void rotaOfTooFewMen() {
        at(15, "NONE (fewer MEN than POSTS, no POSTS)");
        fresh().unchanged(NONE, "rota", -1);
        told("m0;m0;").due(NONE, "rota", -1);
        told("p0 0;").due(NONE, "rota", -1);
        told("p0 0;").due(NONE, "rota", 0);
        Run x = told("p0 0;p0 0;p0 0;p0 0;p0 0;m0;m0;m0;m0;");
        x.dueFrom(-1, new int[] {NONE, NONE, NONE, NONE, NONE, NONE}, "rota");
        x = told("p0 0;p0 0;p0 0;p0 0;p0 0;m0;m0;m0;m0;m0;");
        x.dueFrom(-1, new int[] {8, 0, 1, 2, 3, 4}, "rota");
        x = told("p0 0;m0;");
        x.dueFrom(-1, new int[] {8, 0}, "rota");
    }

    private void rotaOfSeveral() {
        at(15, "of several the first (MAN of POST 0, then 1, ..)");
        told(ALL).dueFrom(-1, new int[] {60, 0, 1, 2, 3, 4}, "rota");
        told("p0 0;p0 0;m5;m30;m5;m20;m5;").dueFrom(-1, new int[] {13, 0, 2}, "rota");
        told("p0 0;p0 0;m5;m30;m20;m31;").dueFrom(-1, new int[] {28, 0, 2}, "rota");
        told("p0 9;p0 0;m20;m18;m0;o1;").dueFrom(-1, new int[] {22, 2, 1}, "rota");
        told("p0 0;p0 0;p0 0;m9;m8;m7;o1;").dueFrom(-1, new int[] {13, 0, 1, 2}, "rota");
        told("p0 0;p0 0;p0 0;m60;m8;m7;m9;o1;").dueFrom(-1, new int[] {13, 1, 2, 3}, "rota");
        told("p0 0;p0 0;m50;m60;m59;o9;").dueFrom(-1, new int[] {60, 0, 1}, "rota");
    }

    private void rotaOfUnlikeMen() {
        at(15, "ROTA: of all ways to SEND MEN NOW to all POSTS (one each, unlike; who stands there now comes back first)"
            + " that by which");
        Run x = told("p0 0;p0 0;m0;m60;o1;");
        x.dueFrom(-1, new int[] {60, 0, 1}, "rota");
        x = told("p0 9;p0 0;m20;m10;m30;o1;").does("sends", 2, 0).does("sends", 1, 1);
        x.dueFrom(-1, new int[] {24, 1, 0}, "rota");
        x = told("p0 0;m9;m0;o1;").does("sends", 0, 0);
        x.dueFrom(-1, new int[] {4, 1}, "rota");
    }

    private void rotaBehindOnHours() {
        at(15, "nobody being RELIEVED, the greatest DEBT of those who stand is least behind ON HOURS");
        int[] much = {4, 8, 14, 20, 26, 30, 34, 38, 42};
        for (int on = 1; on <= 9; on++) {
            told("p0 0;m0;m60;o" + on + ";").due(much[on - 1], "rota", -1);
        }
        told("p0 9;m0;o9;").due(60, "rota", -1);
        Run x = told("p0 0;m0;o9;").hours(200);
        x.due(42, "rota", -1);
        x.due(0, "rota", 0);
    }
}
