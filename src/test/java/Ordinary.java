/** Sentences that tell no edge: what each call answers on an ordinary day, reckoned by hand. */
final class Ordinary extends SentenceGroup {
    Ordinary(Sentences sentences) {
        super(sentences);
    }

    @Override
    void all() {
        textIsToldLetterByLetter();
        postsAndMenAreTold();
        postSeesAndIsCold();
        manHasDebt();
        nowTellsTheHour();
        callsBackOffThePost();
        hourAddsFour();
        hourIsTheNext();
        inHoursWhoIsAsleep();
        roundIsWhereTheSergeantBegins();
        roundTellsWhich();
        rotaTellsHowMuchAndTheMan();
        oddsTellsTheUpperNumber();
        fitsTellsHowMany();
        fairOfThreeMen();
        rateAsIfOfAKind();
        rateAsksTheKindAbove();
    }

    private void textIsToldLetterByLetter() {
        at(2, "told letter by letter");
        Run x = fresh();
        String text = "p2 3; m10;";
        for (int i = 0; i < text.length(); i++) {
            x.due(i + 1, "type", text.charAt(i));
            x.due(0, "count", 0);
        }
        x.due(2, "depot");
        x.due(1, "count", 0);
        x.due(1, "count", 1);
    }

    private void postsAndMenAreTold() {
        at(4, "p S C (a POST) ; m D (a MAN)");
        Run x = fresh().types("m10;p2 3;m30;p1 9;");
        x.due(4, "depot");
        x.dueFrom(0, new int[] {2, 3, NONE, 0}, "post", 0);
        x.dueFrom(0, new int[] {1, 9, NONE, 0}, "post", 1);
        x.dueFrom(0, new int[] {10, NONE, 0}, "man", 0);
        x.dueFrom(0, new int[] {30, NONE, 0}, "man", 1);
    }

    private void postSeesAndIsCold() {
        at(5, "Of a POST: 0 which it SEES (of POSTS there are, but itself), 1 COLD");
        Run x = told("p6 3;p5 0;p3 7;");
        x.dueFrom(0, new int[] {6, 3}, "post", 0);
        x.dueFrom(0, new int[] {5, 0}, "post", 1);
        x.dueFrom(0, new int[] {3, 7}, "post", 2);
    }

    private void manHasDebt() {
        at(6, "Of a MAN: 0 DEBT");
        Run x = told("p0 0;m10;m20;m33;").does("sends", 1, 0);
        x.due(20, "man", 1, 0);
        x.hours(2);
        x.due(4, "man", 0, 0);
        x.due(28, "man", 1, 0);
        x.due(27, "man", 2, 0);
    }

    private void nowTellsTheHour() {
        at(7, "0 THE HOUR");
        Run x = told("p0 0;m10;");
        for (int h = 0; h < 30; h++) {
            x.due(h, "now", 0);
            x.hours(1);
        }
    }

    private void callsBackOffThePost() {
        at(9, "BACK: off it");
        Run x = posted("p0 0;p0 0;m10;m20;", 2).hours(2);
        x.due(0, "calls", 0);
        x.dueFrom(0, new int[] {18, NONE, 0}, "man", 0);
        x.dueFrom(2, new int[] {NONE, 0}, "post", 0);
        x.dueFrom(2, new int[] {1, 2}, "post", 1);
        x.due(2, "had", 0, 0);
        x.hours(1);
        x.due(15, "man", 0, 0);
        x.due(34, "man", 1, 0);
        x.due(2, "had", 0, 0);
    }

    private void hourAddsFour() {
        at(10, "An HOUR goes by: who stands at a POST has 4 of DEBT more");
        Run x = posted("p0 2;p0 0;m10;m0;m7;", 2).hours(1);
        x.due(14, "man", 0, 0);
        x.due(4, "man", 1, 0);
        x.due(4, "man", 2, 0);
    }

    /** The HOUR that goes by is the one that counts: 2 is a cold one, though it is 3 behind it. */
    private void hourIsTheNext() {
        at(10, "Then THE HOUR is the next.");
        Run x = told("p0 0;m0;").hours(1).does("sends", 0, 0).hours(1);
        x.due(2, "now", 0);
        x.due(4, "man", 0, 0);
        x.hours(1);
        x.due(3, "now", 0);
        x.due(10, "man", 0, 0);
        x.hours(2);
        x.due(5, "now", 0);
        x.due(22, "man", 0, 0);
        x.hours(1);
        x.due(26, "man", 0, 0);
    }

    private void inHoursWhoIsAsleep() {
        at(13, "who is ASLEEP then (POSTS, bits)");
        Run x = posted("p0 0;p0 9;p0 0;m36;m20;m28;", 3);
        int[] asleep = {0, 1, 1, 7};
        for (int n = 0; n < asleep.length; n++) {
            x.due(asleep[n], "inHours", n, 0, 0);
        }
    }

    /** One MAN is free, so whoever the sergeant comes to first is relieved: the one of 54. */
    private Run oneIsFree() {
        return posted("p0 0;p0 0;p0 0;m10;m50;m20;m5;o1;s1;", 3).hours(1);
    }

    private void roundIsWhereTheSergeantBegins() {
        at(14, "ROUND: the beginning (POST) and way by which, were they RELIEVED so NOW");
        Run x = oneIsFree();
        x.due(11, "round", 0);
        x.due(14 + 4 + 24, "round", 1);
        x.due(1, "relieves", 1, 1);
        x.due(0, "post", 0, 2);
        x.due(3, "post", 1, 2);
        x.due(2, "post", 2, 2);
    }

    private void roundTellsWhich() {
        at(14, "ROUND: which (what = 0)");
        oneIsFree().due(11, "round", 0);
        posted("p0 0;p0 0;p0 0;m10;m20;m50;m5;o1;s1;", 3).hours(1).due(12, "round", 0);
        posted("p0 0;p0 0;p0 0;m50;m20;m10;m5;o1;s1;", 3).hours(1).due(10, "round", 0);
    }

    private void rotaTellsHowMuchAndTheMan() {
        at(15, "how much; the MAN of a POST");
        Run x = told("p0 9;p0 0;m20;m10;m30;o1;");
        x.dueFrom(-1, new int[] {24, 1, 0}, "rota");
        x.does("sends", 1, 0).does("sends", 0, 1).hours(1);
        x.due(17, "man", 1, 0);
        x.due(24, "man", 0, 0);
    }

    private void oddsTellsTheUpperNumber() {
        at(19, "ODDS: upper (what = 0)");
        posted("p0 0;m50;", 1).due(3, "odds", 3, 0);
        posted("p2 0;p1 0;m50;m50;", 2).due(51, "odds", 3, 0);
    }

    private void fitsTellsHowMany() {
        at(23, "FITS: how many (what = 0)");
        Run x = posted("p0 0;m5;", 1).does("found", 0, 1, 0).does("found", 0, 3, 1);
        x.due(10, "fits", 0, 0);
        x.due(26, "fits", 0, 1);
    }

    private void fairOfThreeMen() {
        at(25, "FAIR.");
        Run x = posted("p0 5;p0 2;m0;m0;m0;", 2).hours(3);
        x.due(15, "fair");
        x.does("calls", 0).does("sends", 2, 0).hours(1);
        x.due(15 - 5, "fair");
    }

    private void rateAsIfOfAKind() {
        at(27, "RATE of a POST as if of a KIND");
        Run x = posted("p2 3;p0 0;m10;", 1).hours(1);
        int[] rates = {3, 4, -12, 8, -12, 4};
        for (int kind = 0; kind < rates.length; kind++) {
            x.due(rates[kind], "rate", kind, 0);
        }
    }

    private void rateAsksTheKindAbove() {
        at(27, "\"up\" is what the KIND above does");
        Run x = told("p0 1;p0 2;p7 6;m10;m20;").does("sends", 1, 2).does("sends", 0, 1).hours(3);
        for (int p = 0; p < 3; p++) {
            long post = x.ask("rate", 0, p);
            x.due(post + x.ask("post", p, 3), "rate", 1, p);
            x.due(2 * x.ask("rate", 1, p), "rate", 3, p);
            x.due(x.ask("rate", 2, p) + p, "rate", 4, p);
        }
        x.due(2 + 3, "rate", 1, 1);
        x.due(2 - 24, "rate", 2, 1);
        x.due(6 - 40, "rate", 2, 2);
    }
}
