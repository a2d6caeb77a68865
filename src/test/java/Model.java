import java.math.BigInteger;
import java.util.ArrayDeque;
import java.util.ArrayList;
import java.util.Deque;
import java.util.List;
import java.util.regex.Matcher;
import java.util.regex.Pattern;

/**
 * The document told a second time, slowly and by other means than the class: men know where they stand,
 * every state is a copy, every question is asked by trying all there is. Only ModelTest uses it.
 */
final class Model {
    private static final int BAD = -1;
    private static final int STATE = -2;
    private static final int FULL = -3;
    private static final int NONE = -9;
    private static final int NO = -1000000;
    private static final Pattern TOKEN = Pattern.compile(" *([0-9]+|.)", Pattern.DOTALL);

    /** What a text tells. */
    private record Told(List<int[]> posts, List<Integer> men, int on, int stove) {
        boolean sees(int p, int q) {
            return p != q && q < posts.size() && (posts.get(p)[0] & 1 << q) != 0;
        }

        int cold(int p) {
            return posts.get(p)[1];
        }
    }

    private static final class Man {
        int debt;
        int place = NONE;
        int stood;
        int[] had = new int[5];

        Man copy() {
            Man c = new Man();
            c.debt = debt;
            c.place = place;
            c.stood = stood;
            c.had = had.clone();
            return c;
        }

        boolean asleep() {
            return place != NONE && debt >= 40;
        }

        boolean awake() {
            return place != NONE && debt < 40;
        }
    }

    private static final class State {
        int hour;
        final List<Man> men = new ArrayList<>();

        State copy() {
            State c = new State();
            c.hour = hour;
            men.forEach(m -> c.men.add(m.copy()));
            return c;
        }

        int at(int p) {
            for (int m = 0; m < men.size(); m++) {
                if (men.get(m).place == p) {
                    return m;
                }
            }
            return NONE;
        }

        long standing() {
            return men.stream().filter(m -> m.place != NONE).count();
        }

        int bits(boolean onlyAsleep) {
            int bits = 0;
            for (Man m : men) {
                if (m.place != NONE && (!onlyAsleep || m.asleep())) {
                    bits |= 1 << m.place;
                }
            }
            return bits;
        }
    }

    private String text = "";
    private Told told = new Told(List.of(), List.of(), 2, 3);
    private State state = new State();
    private final Deque<State> past = new ArrayDeque<>();
    private final State[] images = new State[2];
    private final List<int[]> finds = new ArrayList<>();
    private long trace;

    // ---- the text

    /** Expected tokens as signs: S, C, D, N for numbers, the ITEM's end, or the begin of the next ITEM. */
    int read() {
        List<int[]> posts = new ArrayList<>();
        List<Integer> men = new ArrayList<>();
        int on = 0;
        int stove = 0;
        String expected = "";
        char item = 0;
        int seen = 0;
        int items = 0;
        Matcher tokens = TOKEN.matcher(text.replaceAll(" +$", ""));
        int end = 0;
        while (tokens.find(end)) {
            String token = tokens.group(1);
            int fault = -10 - tokens.start(1);
            end = tokens.end();
            if (expected.isEmpty()) {
                if (token.length() != 1 || "pmos".indexOf(token.charAt(0)) < 0) {
                    return fault;
                }
                item = token.charAt(0);
                boolean tooMany = item == 'p' && posts.size() == 5 || item == 'm' && men.size() == 6
                    || item == 'o' && on != 0 || item == 's' && stove != 0;
                if (tooMany) {
                    return fault;
                }
                expected = item == 'p' ? "SC;" : item == 'm' ? "D;" : "N;";
                continue;
            }
            char next = expected.charAt(0);
            expected = expected.substring(1);
            if (next == ';') {
                if (!token.equals(";")) {
                    return fault;
                }
                items++;
                continue;
            }
            if (!token.matches("0|[1-9][0-9]?")) {
                return fault;
            }
            int number = Integer.parseInt(token);
            int most = next == 'S' ? 31 : next == 'D' ? 60 : 9;
            if (number > most || next == 'N' && number == 0) {
                return fault;
            }
            switch (next) {
                case 'S' -> seen = number;
                case 'C' -> posts.add(new int[] {seen, number});
                case 'D' -> men.add(number);
                default -> {
                    on = item == 'o' ? number : on;
                    stove = item == 's' ? number : stove;
                }
            }
        }
        if (!expected.isEmpty()) {
            return -10 - text.length();
        }
        told = new Told(posts, men, on == 0 ? 2 : on, stove == 0 ? 3 : stove);
        text = "";
        state = new State();
        for (int debt : men) {
            Man m = new Man();
            m.debt = debt;
            state.men.add(m);
        }
        past.clear();
        finds.clear();
        images[0] = null;
        images[1] = null;
        return items;
    }

    // ---- what goes by

    private void pass(State s) {
        for (Man m : s.men) {
            if (m.place == NONE) {
                m.debt -= told.stove();
            } else {
                m.debt += 4 + told.cold(m.place) / 3;
                m.debt += List.of(2, 3, 4).contains(s.hour % 12) ? 2 : 0;
                m.had[m.place]++;
                m.stood++;
            }
            m.debt = Math.min(60, Math.max(0, m.debt));
        }
        s.hour++;
    }

    private int relieve(State s, int from, int way) {
        int n = told.posts().size();
        List<Man> ready = new ArrayList<>(s.men.stream().filter(m -> m.place == NONE).toList());
        int relieved = 0;
        for (int i = 0; i < n; i++) {
            int p = Math.floorMod(way == 1 ? from + i : from - i, n);
            int old = s.at(p);
            if (old == NONE || s.men.get(old).stood < told.on() || ready.isEmpty()) {
                continue;
            }
            Man best = ready.get(0);
            for (Man m : ready) {
                best = m.debt < best.debt ? m : best;
            }
            ready.remove(best);
            s.men.get(old).place = NONE;
            s.men.get(old).stood = 0;
            best.place = p;
            best.stood = 0;
            relieved++;
        }
        return relieved;
    }

    /** The states NOW, and at the end of each of the next n hours. */
    private List<State> coming(State from, int n, int rota) {
        List<State> all = new ArrayList<>();
        State s = from.copy();
        all.add(s);
        for (int i = 0; i < n; i++) {
            s = s.copy();
            pass(s);
            if (rota == 1) {
                relieve(s, 0, 1);
            }
            all.add(s);
        }
        return all;
    }

    private boolean watched(State s, int q) {
        return s.men.stream().anyMatch(m -> m.awake() && (m.place == q || told.sees(m.place, q)));
    }

    // ---- the questions

    private int round(int what) {
        int[] best = null;
        for (int way = 1; way >= 0; way--) {
            for (int p = 0; p < told.posts().size(); p++) {
                State s = state.copy();
                relieve(s, p, way);
                int sum = s.men.stream().filter(m -> m.place != NONE).mapToInt(m -> m.debt).sum();
                if (best == null || sum < best[1]) {
                    best = new int[] {10 * way + p, sum};
                }
            }
        }
        return best == null ? NONE : best[what];
    }

    private void allRotas(List<Integer> sofar, List<List<Integer>> all) {
        if (sofar.size() == told.posts().size()) {
            all.add(List.copyOf(sofar));
            return;
        }
        for (int m = 0; m < state.men.size(); m++) {
            if (!sofar.contains(m)) {
                sofar.add(m);
                allRotas(sofar, all);
                sofar.remove(sofar.size() - 1);
            }
        }
    }

    private int rota(int p) {
        List<List<Integer>> all = new ArrayList<>();
        if (!told.posts().isEmpty()) {
            allRotas(new ArrayList<>(), all);
        }
        List<Integer> first = null;
        int least = 0;
        for (List<Integer> sent : all) {
            State s = state.copy();
            s.men.forEach(m -> m.place = NONE);
            for (int q = 0; q < sent.size(); q++) {
                s.men.get(sent.get(q)).place = q;
            }
            State then = coming(s, told.on(), 0).get(told.on());
            int greatest = then.men.stream().filter(m -> m.place != NONE).mapToInt(m -> m.debt).max().orElse(0);
            if (first == null || greatest < least) {
                first = sent;
                least = greatest;
            }
        }
        return first == null ? NONE : p == -1 ? least : first.get(p);
    }

    private int leave() {
        int n = told.posts().size();
        int best = 0;
        for (int out = (1 << n) - 1; out >= 0; out--) {
            boolean all = true;
            for (int p = 0; p < n; p++) {
                boolean seen = (out & 1 << p) == 0;
                for (int q = 0; q < n; q++) {
                    seen |= (out & 1 << q) == 0 && told.sees(q, p);
                }
                all &= seen;
            }
            if (all && Integer.bitCount(out) >= Integer.bitCount(best)) {
                best = out;
            }
        }
        return best;
    }

    private int two() {
        int n = told.posts().size();
        int best = NONE;
        long most = -1;
        for (int p = 0; p < n; p++) {
            long only = 0;
            for (int q = 0; q < n; q++) {
                int by = 0;
                for (int r = 0; r < n; r++) {
                    by += told.sees(r, q) ? 1 : 0;
                }
                only += by == 1 && told.sees(p, q) ? 1 : 0;
            }
            if (only > most) {
                most = only;
                best = p;
            }
        }
        return best;
    }

    /** How many of 10 to the number of sleepers: one sleeper after another wakes, or sleeps on. */
    private BigInteger odds(State s, int p) {
        for (int m = 0; m < s.men.size(); m++) {
            if (s.men.get(m).asleep()) {
                State woken = s.copy();
                woken.men.get(m).debt = 0;
                State gone = s.copy();
                gone.men.get(m).place = NONE;
                return odds(woken, p).multiply(BigInteger.valueOf(p))
                    .add(odds(gone, p).multiply(BigInteger.valueOf(10 - p)));
            }
        }
        for (int q = 0; q < told.posts().size(); q++) {
            if (!watched(s, q)) {
                return BigInteger.ZERO;
            }
        }
        return BigInteger.ONE;
    }

    private static int fraction(BigInteger upper, BigInteger lower, int what) {
        BigInteger common = upper.gcd(lower);
        return (what == 0 ? upper : lower).divide(common).intValueExact();
    }

    private int creep(int n, int what) {
        List<State> all = coming(state, n, 1);
        for (int h = 0; h <= n; h++) {
            for (int p = 0; p < told.posts().size(); p++) {
                int m = all.get(h).at(p);
                if (m != NONE && all.get(h).men.get(m).asleep()) {
                    return what == 0 ? h : p;
                }
            }
        }
        return NONE;
    }

    private List<Integer> fitting(int m) {
        List<Integer> fitting = new ArrayList<>();
        for (int debt = 0; debt <= 60; debt++) {
            State s = state.copy();
            s.men.get(m).debt = debt;
            List<State> all = coming(s, 24, 0);
            boolean fits = finds.stream()
                .allMatch(f -> f[0] != m || all.get(f[1]).men.get(m).asleep() == (f[2] == 1));
            if (fits) {
                fitting.add(debt);
            }
        }
        return fitting;
    }

    private int fair() {
        int[] colds = state.men.stream().mapToInt(m -> {
            int sum = 0;
            for (int p = 0; p < told.posts().size(); p++) {
                sum += m.had[p] * told.cold(p);
            }
            return sum;
        }).sorted().toArray();
        return colds.length == 0 ? 0 : colds[colds.length - 1] - colds[0];
    }

    private int rate(int kind, int p) {
        int[] above = {-1, 0, 0, 1, 2, 0};
        int[] marks = {1, 10, 100, 1000, 10000, 100000};
        trace += marks[kind];
        int up = above[kind] < 0 ? 0 : rate(above[kind], p);
        int m = state.at(p);
        int sees = 0;
        for (int q = 0; q < told.posts().size(); q++) {
            sees += told.sees(p, q) ? 1 : 0;
        }
        return switch (kind) {
            case 0 -> told.cold(p);
            case 1 -> up + (m == NONE ? 0 : state.men.get(m).stood);
            case 2 -> up - (m == NONE ? 0 : state.men.get(m).debt);
            case 3 -> 2 * up;
            case 4 -> up + p;
            default -> up + sees;
        };
    }

    // ---- the calls

    private boolean post(int p) {
        return 0 <= p && p < told.posts().size();
    }

    private boolean man(int m) {
        return 0 <= m && m < state.men.size();
    }

    private static boolean in(int x, int least, int most) {
        return least <= x && x <= most;
    }

    private void remember() {
        past.addLast(state.copy());
        if (past.size() > 10) {
            past.removeFirst();
        }
    }

    long call(String name, int a, int b, int c) {
        return switch (name) {
            case "type", "clear", "depot", "post", "man", "now", "count" -> askDepot(name, a, b);
            case "sends", "calls", "hour", "relieves", "undo", "keep", "back" -> act(name, a, b);
            default -> ask(name, a, b, c);
        };
    }

    private long askDepot(String name, int a, int b) {
        switch (name) {
            case "type":
                if (!in(a, 0, 255)) {
                    return BAD;
                }
                if (text.length() == 200) {
                    return FULL;
                }
                text += (char) a;
                return text.length();
            case "clear":
                int had = text.length();
                text = "";
                return had;
            case "depot":
                return read();
            case "post":
                if (!post(a) || !in(b, 0, 3)) {
                    return BAD;
                }
                int seen = 0;
                for (int q = 0; q < 5; q++) {
                    seen += told.sees(a, q) ? 1 << q : 0;
                }
                int m = state.at(a);
                return new int[] {seen, told.cold(a), m, m == NONE ? 0 : state.men.get(m).stood}[b];
            case "man":
                if (!man(a) || !in(b, 0, 2)) {
                    return BAD;
                }
                Man who = state.men.get(a);
                return new int[] {who.debt, who.place, who.asleep() ? 1 : 0}[b];
            case "now":
                if (!in(a, 0, 4)) {
                    return BAD;
                }
                int watched = 0;
                for (int q = 0; q < told.posts().size(); q++) {
                    watched += watched(state, q) ? 1 << q : 0;
                }
                return new int[] {state.hour, state.bits(false), state.bits(true), watched, past.size()}[a];
            default:
                return !in(a, 0, 5) ? BAD : new int[] {told.posts().size(), state.men.size(), told.on(),
                    told.stove(), finds.size(), text.length()}[a];
        }
    }

    private long act(String name, int a, int b) {
        switch (name) {
            case "sends":
                if (!man(a) || !post(b)) {
                    return BAD;
                }
                if (state.at(b) != NONE || state.men.get(a).place != NONE) {
                    return STATE;
                }
                remember();
                state.men.get(a).place = b;
                state.men.get(a).stood = 0;
                return state.standing();
            case "calls":
                if (!post(a)) {
                    return BAD;
                }
                int m = state.at(a);
                if (m == NONE) {
                    return STATE;
                }
                remember();
                state.men.get(m).place = NONE;
                return m;
            case "hour":
                if (state.hour == 200) {
                    return STATE;
                }
                remember();
                pass(state);
                return state.bits(true);
            case "relieves":
                if (!post(a) || !in(b, 0, 1)) {
                    return BAD;
                }
                remember();
                return relieve(state, a, b);
            case "undo":
                if (past.isEmpty()) {
                    return STATE;
                }
                state = past.removeLast();
                return past.size();
            case "keep":
                if (!in(a, 0, 1)) {
                    return BAD;
                }
                images[a] = state.copy();
                return state.hour;
            default:
                if (!in(a, 0, 1)) {
                    return BAD;
                }
                if (images[a] == null) {
                    return STATE;
                }
                state = images[a].copy();
                past.clear();
                return state.hour;
        }
    }

    private long ask(String name, int a, int b, int c) {
        switch (name) {
            case "inHours":
                if (!in(a, 0, 60) || !in(b, 0, 1) || !in(c, 0, 2)) {
                    return BAD;
                }
                List<State> all = coming(state, a, b);
                State then = all.get(a);
                int most = all.stream().mapToInt(s -> Integer.bitCount(s.bits(true))).max().orElse(0);
                int greatest = then.men.stream().mapToInt(m -> m.debt).max().orElse(0);
                return new int[] {then.bits(true), most, greatest}[c];
            case "round":
                return !in(a, 0, 1) ? BAD : round(a);
            case "rota":
                return a != -1 && !post(a) ? BAD : rota(a);
            case "leave":
                return leave();
            case "two":
                return two();
            case "unseen":
                if (!post(a) || !in(b, 1, 12)) {
                    return BAD;
                }
                return coming(state, b, 0).stream().skip(1).noneMatch(s -> watched(s, a)) ? 1 : 0;
            case "odds":
                if (!in(a, 0, 10) || !in(b, 0, 1)) {
                    return BAD;
                }
                int sleepers = Integer.bitCount(state.bits(true));
                return fraction(odds(state, a), BigInteger.TEN.pow(sleepers), b);
            case "creep":
                return !in(a, 1, 24) || !in(b, 0, 1) ? BAD : creep(a, b);
            default:
                return askSleep(name, a, b, c);
        }
    }

    private long askSleep(String name, int a, int b, int c) {
        switch (name) {
            case "found":
                if (!man(a) || !in(b, 0, 24) || !in(c, 0, 1)) {
                    return BAD;
                }
                if (finds.size() == 6) {
                    return FULL;
                }
                finds.add(new int[] {a, b, c});
                return finds.size();
            case "forget":
                int had = finds.size();
                finds.clear();
                return had;
            case "fits":
                if (!man(a) || !in(b, 0, 1)) {
                    return BAD;
                }
                List<Integer> fitting = fitting(a);
                return b == 0 ? fitting.size() : fitting.isEmpty() ? NONE : fitting.get(0);
            case "had":
                return !man(a) || !post(b) ? BAD : state.men.get(a).had[b];
            case "fair":
                return fair();
            case "cow":
                if (!in(a, 0, 9) || !in(b, 0, 9) || !in(c, 0, 1)) {
                    return BAD;
                }
                return fraction(BigInteger.valueOf(a * b), BigInteger.valueOf(a * b + 10 * (10 - a)), c);
            case "rate":
                return !in(a, 0, 5) || !post(b) ? NO : rate(a, b);
            case "trace":
                return trace;
            default:
                throw new IllegalArgumentException(name);
        }
    }
}
