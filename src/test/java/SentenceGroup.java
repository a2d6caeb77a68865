/** Tests of sentences: each method is one, and begins by naming the promise and the words of the document. */
abstract class SentenceGroup {
    static final int BAD = -1;
    static final int STATE = -2;
    static final int FULL = -3;
    static final int NONE = -9;
    static final int NO = -1000000;
    static final int LEAST = Integer.MIN_VALUE;
    static final int MOST = Integer.MAX_VALUE;
    /** All that may be told: five POSTS, six MEN, ON and STOVE. */
    static final String ALL = "p31 9;p31 9;p31 9;p31 9;p31 9;m60;m60;m60;m60;m60;m60;o9;s9;";

    private final Sentences sentences;

    SentenceGroup(Sentences sentences) {
        this.sentences = sentences;
    }

    abstract void all();

    final void at(int promise, String words) {
        sentences.sentence(promise, words);
    }

    final Run fresh() {
        return new Run(sentences);
    }

    final Run told(String text) {
        return fresh().tells(text);
    }

    /** Men m = 0, 1, .. at the POSTS of the same numbers. */
    final Run posted(String text, int men) {
        Run x = told(text);
        for (int m = 0; m < men; m++) {
            x.does("sends", m, m);
        }
        return x;
    }

    /** Something of all there can be: so a refused call that changes any of it is noticed. */
    final Run busy() {
        Run x = posted("p2 3;p5 0;p0 9;m10;m36;m0;m38;o1;s4;", 2);
        x.does("keep", 0).hours(1).does("relieves", 0, 1).hours(1).does("keep", 1).does("sends", 0, 2);
        return x.does("found", 2, 3, 1).does("found", 3, 0, 0).does("rate", 3, 0).types("m6");
    }

    /** The same, but nothing can be UNDONE, and nobody stands at POST 2. */
    final Run busyBehindBack() {
        return busy().does("back", 1);
    }

    /** One MAN, alone, who stands there since HOUR 192; NOW is HOUR 200, and he has DEBT 38. */
    final Run atTheLastHour() {
        return told("p0 0;m0;o9;").hours(192).does("sends", 0, 0).hours(8);
    }

    static Call call(String name, int... numbers) {
        return new Call(name, numbers);
    }
}
