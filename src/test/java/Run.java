import java.util.ArrayList;
import java.util.Arrays;
import java.util.List;

/** One object and the calls made on it, so that its like can be brought to where it stands. */
final class Run {
    /** What later calls answer is free. */
    private static final int MOST_CALLS = 512;

    private final Sentences sentences;
    private final PostRelief object = new PostRelief();
    private final List<Call> past = new ArrayList<>();

    Run(Sentences sentences) {
        this.sentences = sentences;
    }

    /** Brings a like object to where this one stands. */
    private Run again() {
        Run like = new Run(sentences);
        for (Call call : past) {
            like.answer(call);
        }
        return like;
    }

    private long answer(Call call) {
        if (past.size() >= MOST_CALLS) {
            throw new IllegalStateException("a test makes more calls than an object is for: " + call);
        }
        past.add(call);
        return call.on(object);
    }

    int calls() {
        return past.size();
    }

    Run does(String name, int... numbers) {
        answer(new Call(name, numbers));
        return this;
    }

    Run does(int times, Call call) {
        for (int i = 0; i < times; i++) {
            answer(call);
        }
        return this;
    }

    Run hours(int n) {
        return does(n, new Call("hour"));
    }

    Run types(String text) {
        for (char letter : text.toCharArray()) {
            does("type", letter);
        }
        return this;
    }

    /** Tells a text that has no fault. */
    Run tells(String text) {
        types(text);
        if (answer(new Call("depot")) < 0) {
            throw new IllegalStateException("a test tells a text with a fault: " + text);
        }
        return this;
    }

    void due(long want, String name, int... numbers) {
        Call call = new Call(name, numbers);
        sentences.due(call.toString(), want, answer(call));
    }

    /** The answers of a call whose last number runs from a least one on. */
    void dueFrom(int least, int[] wants, String name, int... numbers) {
        for (int i = 0; i < wants.length; i++) {
            int[] all = Arrays.copyOf(numbers, numbers.length + 1);
            all[numbers.length] = least + i;
            due(wants[i], name, all);
        }
    }

    /**
     * The answer of a call that changes nothing: of two objects that stand where this one does, one gets
     * the call besides, and whatever both are asked then they must answer alike.
     */
    void unchanged(long want, String name, int... numbers) {
        Call call = new Call(name, numbers);
        alike(call + " changes nothing", List.of(), List.of(call));
        due(want, name, numbers);
    }

    /** Two objects that stand where this one does, and that then get these calls, answer alike. */
    void alike(String what, List<Call> some, List<Call> others) {
        for (Probe probe : Probe.values()) {
            Run first = again();
            Run second = again();
            some.forEach(first::answer);
            others.forEach(second::answer);
            sentences.same(what + ", by " + probe, probe.asks(first), probe.asks(second));
        }
    }

    /** The call, fine otherwise, is refused and changes nothing with each of these in that place. */
    void refuses(long want, Call fine, int place, int... wrong) {
        for (int number : wrong) {
            int[] numbers = fine.numbers().clone();
            numbers[place] = number;
            unchanged(want, fine.name(), numbers);
        }
    }

    long ask(String name, int... numbers) {
        return answer(new Call(name, numbers));
    }
}
