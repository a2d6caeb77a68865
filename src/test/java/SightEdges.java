/** Promises 16 to 19: the edges of who sees whom. */
final class SightEdges extends SentenceGroup {
    SightEdges(Sentences sentences) {
        super(sentences);
    }

    @Override
    void all() {
        leaveOfNoneAndOfAll();
        leaveTheMost();
        leaveTheLeastBits();
        leaveWhoeverStands();
        twoOfNoPosts();
        twoOfSeveral();
        twoSeesMaybeNone();
        unseenRefuses();
        unseenFrom1To12();
        unseenDoesNotAskNow();
        unseenPast200();
        oddsRefuses();
        oddsFrom0To10();
        oddsInLeastTerms();
        oddsOfNoneAsleep();
    }

    // ---- Promise 16

    private void leaveOfNoneAndOfAll() {
        at(16, "LEAVE, as bits.");
        fresh().unchanged(0, "leave");
        told("m0;").due(0, "leave");
        told("p0 0;").due(0, "leave");
        told("p1 0;").due(0, "leave");
        told("p31 0;").due(0, "leave");
        told("p0 0;p0 0;p0 0;p0 0;p0 0;").due(0, "leave");
        told(ALL).due(15, "leave");
    }

    private void leaveTheMost() {
        at(16, "LEAVE: the most POSTS that could be left out, so that each POST is SEEN by one that is not,"
            + " or is not left out");
        told("p2 0;p0 0;").due(2, "leave");
        told("p0 0;p1 0;").due(1, "leave");
        told("p31 0;p0 0;p0 0;p0 0;p0 0;").due(30, "leave");
        told("p0 0;p0 0;p0 0;p0 0;p31 0;").due(15, "leave");
        told("p2 0;p4 0;p0 0;").due(2, "leave");
        told("p2 0;p4 0;p8 0;p16 0;p0 0;").due(10, "leave");
        told("p4 0;p4 0;p0 0;").due(4, "leave");
        told("p6 0;p1 0;p1 0;").due(6, "leave");
    }

    private void leaveTheLeastBits() {
        at(16, "the POSTS left out, the least bits of such");
        told("p2 0;p1 0;").due(1, "leave");
        told("p2 0;p4 0;p1 0;").due(1, "leave");
        told("p2 0;p1 0;p8 0;p4 0;p0 0;").due(5, "leave");
        told("p2 0;p4 0;p8 0;p16 0;p1 0;").due(5, "leave");
        told("p7 0;p7 0;p7 0;").due(3, "leave");
    }

    private void leaveWhoeverStands() {
        at(16, "(whoever stands)");
        Run x = told("p2 0;p0 0;m60;m0;");
        x.due(2, "leave");
        x.does("sends", 0, 0);
        x.due(2, "leave");
        x.does("sends", 1, 1);
        x.due(2, "leave");
        x.does("calls", 0);
        x.due(2, "leave");
    }

    // ---- Promise 17

    private void twoOfNoPosts() {
        at(17, "TWO; NONE.");
        fresh().unchanged(NONE, "two");
        told("m0;m0;").due(NONE, "two");
        told("p0 0;").due(0, "two");
        told("p0 0;").tells("").due(NONE, "two");
    }

    private void twoOfSeveral() {
        at(17, "of several the lowest; NONE (no POSTS)");
        told("p2 0;p1 0;").due(0, "two");
        told("p0 0;p4 0;p2 0;").due(1, "two");
        told("p0 0;p1 0;p2 0;p4 0;p8 0;").due(1, "two");
        told("p0 0;p0 0;p0 0;p0 0;p31 0;").due(4, "two");
        told("p2 0;p1 0;p24 0;").due(0, "two");
    }

    private void twoSeesMaybeNone() {
        at(17, "TWO: the POST that SEES most others that no other POST SEES (maybe none)");
        told("p0 0;p0 0;p0 0;p0 0;p0 0;").due(0, "two");
        told("p1 0;p2 0;").due(0, "two");
        told(ALL).due(0, "two");
        told("p12 0;p12 0;p0 0;p0 0;p1 0;").due(4, "two");
        told("p30 0;p28 0;p28 0;p1 0;p8 0;").due(0, "two");
        told("p16 0;p4 0;p3 0;").due(2, "two");
    }

    // ---- Promise 18

    private void unseenRefuses() {
        at(18, "IN UNSEEN. BAD.");
        for (Run x : new Run[] {busy(), busyBehindBack()}) {
            x.refuses(BAD, call("unseen", 0, 1), 0, -1, 3, 5, LEAST, MOST);
            x.refuses(BAD, call("unseen", 0, 1), 1, 0, -1, 13, LEAST, MOST);
        }
        told("m0;").unchanged(BAD, "unseen", 0, 1);
        told(ALL).refuses(BAD, call("unseen", 4, 12), 0, -1, 5);
    }

    private void unseenFrom1To12() {
        at(18, "IN UNSEEN at a POST for n (1 .. 12) HOURS");
        Run x = told("p0 0;p0 0;m31;m36;").does("sends", 0, 0);
        for (int n = 1; n <= 12; n++) {
            x.due(0, "unseen", 0, n);
            x.due(1, "unseen", 1, n);
        }
        x.does("sends", 1, 1);
        for (int n = 1; n <= 12; n++) {
            x.due(1, "unseen", 1, n);
        }
        x = told("p2 0;p0 0;m35;").does("sends", 0, 0);
        x.due(0, "unseen", 1, 1);
        x.due(0, "unseen", 1, 12);
        told(ALL).due(1, "unseen", 4, 12);
    }

    private void unseenDoesNotAskNow() {
        at(18, "whether it is WATCHED at none of the ends of the next n HOURS (NOW is not asked), rota 0: 1, 0");
        Run x = posted("p0 0;m36;m0;o1;", 1);
        x.due(1, "now", 3);
        x.due(1, "unseen", 0, 1);
        x.due(1, "unseen", 0, 12);
        x = posted("p0 0;m35;m0;o1;", 1);
        x.due(0, "unseen", 0, 1);
        x.due(0, "unseen", 0, 2);
        x = posted("p0 0;m60;m0;o1;", 1).hours(1);
        x.due(1, "unseen", 0, 1);
        x.due(1, "unseen", 0, 12);
    }

    private void unseenPast200() {
        at(18, "(past HOUR 200, too; so wherever HOURS from NOW are asked)");
        Run x = atTheLastHour();
        x.due(38, "man", 0, 0);
        x.due(1, "now", 3);
        x.due(1, "unseen", 0, 1);
        x.due(1, "unseen", 0, 12);
        x.does("calls", 0);
        x.due(1, "unseen", 0, 12);
        x = told("p0 0;m0;").hours(200).does("sends", 0, 0);
        x.due(0, "unseen", 0, 12);
    }

    // ---- Promise 19

    private void oddsRefuses() {
        at(19, "in least terms. BAD.");
        for (Run x : new Run[] {busy(), busyBehindBack()}) {
            x.refuses(BAD, call("odds", 0, 0), 0, -1, 11, LEAST, MOST);
            x.refuses(BAD, call("odds", 0, 0), 1, -1, 2, LEAST, MOST);
        }
        fresh().refuses(BAD, call("odds", 0, 0), 0, -1, 11);
        fresh().refuses(BAD, call("odds", 0, 0), 1, -1, 2);
    }

    private void oddsDue(Run x, int p, int upper, int lower) {
        x.due(upper, "odds", p, 0);
        x.due(lower, "odds", p, 1);
    }

    private void oddsFrom0To10() {
        at(19, "ODDS by p (0 .. 10): each one ASLEEP wakes by p of 10, each for himself");
        Run x = posted("p0 0;m40;", 1);
        int[][] one = {{0, 1}, {1, 10}, {1, 5}, {3, 10}, {2, 5}, {1, 2}, {3, 5}, {7, 10}, {4, 5}, {9, 10}, {1, 1}};
        int[][] five = {{0, 1}, {1, 100000}, {1, 3125}, {243, 100000}, {32, 3125}, {1, 32}, {243, 3125},
            {16807, 100000}, {1024, 3125}, {59049, 100000}, {1, 1}};
        Run y = posted("p0 0;p0 0;p0 0;p0 0;p0 0;m40;m40;m40;m40;m40;", 5);
        for (int p = 0; p <= 10; p++) {
            oddsDue(x, p, one[p][0], one[p][1]);
            oddsDue(y, p, five[p][0], five[p][1]);
        }
    }

    private void oddsInLeastTerms() {
        at(19, "lower number (1), in least terms");
        Run x = posted("p2 0;p1 0;m60;m60;", 2);
        oddsDue(x, 0, 0, 1);
        oddsDue(x, 2, 9, 25);
        oddsDue(x, 3, 51, 100);
        oddsDue(x, 5, 3, 4);
        oddsDue(x, 10, 1, 1);
        x = posted("p0 0;p0 0;m60;m60;", 1);
        oddsDue(x, 0, 0, 1);
        oddsDue(x, 5, 0, 1);
        oddsDue(x, 10, 0, 1);
        x = posted("p31 0;p0 0;p0 0;p0 0;p15 0;m60;m60;m60;m60;m60;", 5);
        oddsDue(x, 1, 19, 100);
        oddsDue(x, 5, 3, 4);
    }

    private void oddsOfNoneAsleep() {
        at(19, "that all POSTS are WATCHED NOW: a fraction");
        for (int p = 0; p <= 10; p++) {
            oddsDue(fresh(), p, 1, 1);
            oddsDue(told("p0 0;m0;"), p, 0, 1);
            oddsDue(posted("p0 0;m39;", 1), p, 1, 1);
            oddsDue(posted("p1 0;p0 0;m39;", 1), p, 0, 1);
            oddsDue(posted("p2 0;p0 0;m39;", 1), p, 1, 1);
        }
        oddsDue(posted("p2 0;p0 0;m39;m60;", 2), 5, 1, 1);
        oddsDue(posted("p0 0;p0 0;m39;m60;", 2), 5, 1, 2);
    }
}
