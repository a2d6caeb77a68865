import java.util.Arrays;

/**
 * Sentries round a depot: who stands at which post, what sleep each man is owed, and what comes of it.
 * The numbered promises of DOC.md say what each call answers.
 */
public final class PostRelief {
    public static final int BAD = -1, STATE = -2, FULL = -3, NONE = -9;
    public static final int NO = -1000000;

    private static final int MOST_POSTS = 5;
    private static final int MOST_MEN = 6;
    private static final int MOST_LETTERS = 200;
    private static final int MOST_DEBT = 60;
    private static final int MOST_UNDONE = 10;
    private static final int MOST_FOUND = 6;
    private static final int IMAGES = 2;

    private static final int LAST_HOUR = 200;
    private static final int SLEEP_DEBT = 40;
    private static final int FIRST_ON = 2;
    private static final int FIRST_STOVE = 3;

    private static final int MOST_HOURS_AHEAD = 60;
    private static final int MOST_HOURS_UNSEEN = 12;
    private static final int MOST_HOURS_CREEP = 24;
    private static final int MOST_HOURS_FOUND = 24;

    private static final int BY_NUMBERS = 1;
    private static final int FAULT_BASE = -10;

    private final Text text = new Text();
    private final Depot depot = new Depot();
    private final Depot draft = new Depot();
    private final Watch watch = new Watch();
    private final Watch ahead = new Watch();
    private final Past past = new Past();
    private final Watch[] images = new Watch[IMAGES];
    private final boolean[] kept = new boolean[IMAGES];
    private final Findings findings = new Findings();
    private final Plan plan = new Plan();
    private long track;

    public PostRelief() {
        for (int i = 0; i < IMAGES; i++) {
            images[i] = new Watch();
        }
    }

    // ---- the depot

    public int type(int letter) {
        if (!within(letter, 0, 255)) {
            return BAD;
        }
        return text.take(letter) ? text.length : FULL;
    }

    public int clear() {
        int had = text.length;
        text.length = 0;
        return had;
    }

    public int depot() {
        int items = text.readInto(draft);
        if (items >= 0) {
            depot.become(draft);
            text.length = 0;
            beginAnew();
        }
        return items;
    }

    public int post(int p, int what) {
        if (!isPost(p)) {
            return BAD;
        }
        switch (what) {
            case 0: return depot.seenFrom(p);
            case 1: return depot.cold[p];
            case 2: return watch.guards[p];
            case 3: return watch.stood[p];
            default: return BAD;
        }
    }

    public int man(int m, int what) {
        if (!isMan(m)) {
            return BAD;
        }
        int place = watch.placeOf(m);
        switch (what) {
            case 0: return watch.debts[m];
            case 1: return place;
            case 2: return place != NONE && watch.sleepsAt(place) ? 1 : 0;
            default: return BAD;
        }
    }

    public int now(int what) {
        switch (what) {
            case 0: return watch.hour;
            case 1: return watch.mannedPosts();
            case 2: return watch.sleepingPosts();
            case 3: return watch.watchedPosts(depot);
            case 4: return past.known;
            default: return BAD;
        }
    }

    // ---- what is done

    public int sends(int m, int p) {
        if (!isMan(m) || !isPost(p)) {
            return BAD;
        }
        if (watch.guards[p] != NONE || watch.placeOf(m) != NONE) {
            return STATE;
        }
        past.remember(watch);
        watch.place(m, p);
        return Integer.bitCount(watch.mannedPosts());
    }

    public int calls(int p) {
        if (!isPost(p)) {
            return BAD;
        }
        int m = watch.guards[p];
        if (m == NONE) {
            return STATE;
        }
        past.remember(watch);
        watch.place(NONE, p);
        return m;
    }

    public int hour() {
        if (watch.hour >= LAST_HOUR) {
            return STATE;
        }
        past.remember(watch);
        watch.passHour(depot);
        return watch.sleepingPosts();
    }

    public int relieves(int p, int way) {
        if (!isPost(p) || !within(way, 0, 1)) {
            return BAD;
        }
        past.remember(watch);
        return watch.bringRelief(depot, p, way);
    }

    public int undo() {
        if (past.known == 0) {
            return STATE;
        }
        past.restore(watch);
        return past.known;
    }

    // ---- what comes

    public int inHours(int n, int rota, int what) {
        if (!within(n, 0, MOST_HOURS_AHEAD) || !within(rota, 0, 1) || !within(what, 0, 2)) {
            return BAD;
        }
        ahead.become(watch);
        int most = Integer.bitCount(ahead.sleepingPosts());
        for (int i = 0; i < n; i++) {
            ahead.advance(depot, rota);
            most = Math.max(most, Integer.bitCount(ahead.sleepingPosts()));
        }
        if (what == 0) {
            return ahead.sleepingPosts();
        }
        return what == 1 ? most : ahead.greatestDebt(depot);
    }

    public int round(int what) {
        if (!within(what, 0, 1)) {
            return BAD;
        }
        int which = NONE;
        int least = NONE;
        for (int way = 1; way >= 0; way--) {
            for (int p = 0; p < depot.posts; p++) {
                ahead.become(watch);
                ahead.bringRelief(depot, p, way);
                int debt = ahead.debtOnPost();
                if (which == NONE || debt < least) {
                    which = 10 * way + p;
                    least = debt;
                }
            }
        }
        return what == 0 ? which : least;
    }

    public int rota(int p) {
        if (p != -1 && !isPost(p)) {
            return BAD;
        }
        if (depot.posts == 0 || depot.men < depot.posts) {
            return NONE;
        }
        plan.search(depot, watch);
        return p == -1 ? plan.least : plan.chosen[p];
    }

    // ---- who sees whom

    public int leave() {
        int best = 0;
        for (int out = 1; out <= depot.allPosts(); out++) {
            if (Integer.bitCount(out) > Integer.bitCount(best) && canBeLeft(out)) {
                best = out;
            }
        }
        return best;
    }

    public int two() {
        int best = NONE;
        int most = -1;
        for (int p = 0; p < depot.posts; p++) {
            int alone = Integer.bitCount(seenOnlyFrom(p));
            if (alone > most) {
                most = alone;
                best = p;
            }
        }
        return best;
    }

    public int unseen(int p, int n) {
        if (!isPost(p) || !within(n, 1, MOST_HOURS_UNSEEN)) {
            return BAD;
        }
        ahead.become(watch);
        for (int i = 0; i < n; i++) {
            ahead.advance(depot, 0);
            if ((ahead.watchedPosts(depot) >> p & 1) == 1) {
                return 0;
            }
        }
        return 1;
    }

    public int odds(int p, int what) {
        if (!within(p, 0, 10) || !within(what, 0, 1)) {
            return BAD;
        }
        int sleeping = watch.sleepingPosts();
        int awake = watch.mannedPosts() & ~sleeping;
        int upper = 0;
        for (int woken = 0; woken <= depot.allPosts(); woken++) {
            boolean onlySleepersWake = (woken & ~sleeping) == 0;
            if (onlySleepersWake && depot.watchedBy(awake | woken) == depot.allPosts()) {
                upper += weightOfWaking(woken, sleeping, p);
            }
        }
        return leastTerms(upper, power(10, Integer.bitCount(sleeping)), what);
    }

    // ---- who sleeps

    public int creep(int n, int what) {
        if (!within(n, 1, MOST_HOURS_CREEP) || !within(what, 0, 1)) {
            return BAD;
        }
        ahead.become(watch);
        for (int hours = 0; hours <= n; hours++) {
            int sleeping = ahead.sleepingPosts();
            if (sleeping != 0) {
                return what == 0 ? hours : Integer.numberOfTrailingZeros(sleeping);
            }
            ahead.advance(depot, 1);
        }
        return NONE;
    }

    public int found(int m, int n, int asleep) {
        if (!isMan(m) || !within(n, 0, MOST_HOURS_FOUND) || !within(asleep, 0, 1)) {
            return BAD;
        }
        return findings.add(m, n, asleep) ? findings.size : FULL;
    }

    public int forget() {
        int had = findings.size;
        findings.size = 0;
        return had;
    }

    public int fits(int m, int what) {
        if (!isMan(m) || !within(what, 0, 1)) {
            return BAD;
        }
        int place = watch.placeOf(m);
        int fitting = 0;
        int least = NONE;
        for (int debt = 0; debt <= MOST_DEBT; debt++) {
            if (findings.agree(m, hoursAsleep(place, debt))) {
                fitting++;
                if (least == NONE) {
                    least = debt;
                }
            }
        }
        return what == 0 ? fitting : least;
    }

    public int had(int m, int p) {
        if (!isMan(m) || !isPost(p)) {
            return BAD;
        }
        return watch.served[m * MOST_POSTS + p];
    }

    public int fair() {
        if (depot.men == 0) {
            return 0;
        }
        int least = watch.coldOf(depot, 0);
        int greatest = least;
        for (int m = 1; m < depot.men; m++) {
            int cold = watch.coldOf(depot, m);
            least = Math.min(least, cold);
            greatest = Math.max(greatest, cold);
        }
        return greatest - least;
    }

    public int cow(int c, int d, int what) {
        if (!within(c, 0, 9) || !within(d, 0, 9) || !within(what, 0, 1)) {
            return BAD;
        }
        int cowCalledAt = c * d;
        int manCalledAt = (10 - c) * 10;
        return leastTerms(cowCalledAt, cowCalledAt + manCalledAt, what);
    }

    // ---- kinds, images

    public int rate(int kind, int p) {
        if (!isPost(p)) {
            return NO;
        }
        switch (kind) {
            case 0: return rateOfPost(p);
            case 1: return rateOfGate(p);
            case 2: return rateOfPump(p);
            case 3: return rateOfLane(p);
            case 4: return rateOfYard(p);
            case 5: return rateOfTower(p);
            default: return NO;
        }
    }

    public int keep(int image) {
        if (!within(image, 0, IMAGES - 1)) {
            return BAD;
        }
        images[image].become(watch);
        kept[image] = true;
        return watch.hour;
    }

    public int back(int image) {
        if (!within(image, 0, IMAGES - 1)) {
            return BAD;
        }
        if (!kept[image]) {
            return STATE;
        }
        watch.become(images[image]);
        past.known = 0;
        return watch.hour;
    }

    public int count(int what) {
        switch (what) {
            case 0: return depot.posts;
            case 1: return depot.men;
            case 2: return depot.on;
            case 3: return depot.stove;
            case 4: return findings.size;
            case 5: return text.length;
            default: return BAD;
        }
    }

    public long trace() {
        return track;
    }

    // ---- what the calls share

    private static boolean within(int number, int least, int most) {
        return number >= least && number <= most;
    }

    private boolean isPost(int p) {
        return within(p, 0, depot.posts - 1);
    }

    private boolean isMan(int m) {
        return within(m, 0, depot.men - 1);
    }

    private void beginAnew() {
        watch.begin(depot);
        past.known = 0;
        findings.size = 0;
        for (int i = 0; i < IMAGES; i++) {
            kept[i] = false;
        }
    }

    private boolean canBeLeft(int out) {
        int manned = depot.allPosts() & ~out;
        return depot.watchedBy(manned) == depot.allPosts();
    }

    private int seenOnlyFrom(int p) {
        int seen = depot.seenFrom(p);
        for (int other = 0; other < depot.posts; other++) {
            if (other != p) {
                seen &= ~depot.seenFrom(other);
            }
        }
        return seen;
    }

    /** Of 10 to the number of sleepers: the share in which just those at woken wake. */
    private static int weightOfWaking(int woken, int sleeping, int p) {
        return power(p, Integer.bitCount(woken)) * power(10 - p, Integer.bitCount(sleeping & ~woken));
    }

    private static int power(int base, int exponent) {
        int product = 1;
        for (int i = 0; i < exponent; i++) {
            product *= base;
        }
        return product;
    }

    private static int leastTerms(int upper, int lower, int what) {
        int common = Math.max(1, commonDivisor(upper, lower));
        return (what == 0 ? upper : lower) / common;
    }

    private static int commonDivisor(int first, int second) {
        int large = first;
        int small = second;
        for (int step = 0; step < 64 && small != 0; step++) {
            int rest = large % small;
            large = small;
            small = rest;
        }
        return large;
    }

    /** Bit k: a man at that place, were this his debt now, would be asleep behind k hours. */
    private int hoursAsleep(int place, int debtNow) {
        if (place == NONE) {
            return 0;
        }
        int hours = 0;
        int debt = debtNow;
        for (int k = 0; k <= MOST_HOURS_FOUND; k++) {
            if (debt >= SLEEP_DEBT) {
                hours |= 1 << k;
            }
            debt = Math.min(MOST_DEBT, debt + depot.burden(place, watch.hour + k));
        }
        return hours;
    }

    private int rateOfPost(int p) {
        track += 1;
        return depot.cold[p];
    }

    private int rateOfGate(int p) {
        track += 10;
        return rateOfPost(p) + watch.stood[p];
    }

    private int rateOfPump(int p) {
        track += 100;
        int m = watch.guards[p];
        return rateOfPost(p) - (m == NONE ? 0 : watch.debts[m]);
    }

    private int rateOfLane(int p) {
        track += 1000;
        return 2 * rateOfGate(p);
    }

    private int rateOfYard(int p) {
        track += 10000;
        return rateOfPump(p) + p;
    }

    private int rateOfTower(int p) {
        track += 100000;
        return rateOfPost(p) + Integer.bitCount(depot.seenFrom(p));
    }

    /** What the text tells: it stays as it is until the next text is read. */
    private static final class Depot {
        int posts;
        final int[] sees = new int[MOST_POSTS];
        final int[] cold = new int[MOST_POSTS];
        int men;
        final int[] debts = new int[MOST_MEN];
        int on = FIRST_ON;
        int stove = FIRST_STOVE;

        void empty() {
            posts = 0;
            men = 0;
            on = FIRST_ON;
            stove = FIRST_STOVE;
        }

        void become(Depot other) {
            posts = other.posts;
            System.arraycopy(other.sees, 0, sees, 0, MOST_POSTS);
            System.arraycopy(other.cold, 0, cold, 0, MOST_POSTS);
            men = other.men;
            System.arraycopy(other.debts, 0, debts, 0, MOST_MEN);
            on = other.on;
            stove = other.stove;
        }

        int allPosts() {
            return (1 << posts) - 1;
        }

        /** A text may name posts that it never tells, and the post itself: neither is seen. */
        int seenFrom(int p) {
            return sees[p] & allPosts() & ~(1 << p);
        }

        int watchedBy(int awake) {
            int watched = awake;
            for (int p = 0; p < posts; p++) {
                if ((awake >> p & 1) == 1) {
                    watched |= seenFrom(p);
                }
            }
            return watched;
        }

        int burden(int p, int hour) {
            int ofDay = hour % 12;
            int coldHour = ofDay >= 2 && ofDay <= 4 ? 2 : 0;
            return 4 + coldHour + cold[p] / 3;
        }

        int nextPost(int p, int way) {
            if (way == BY_NUMBERS) {
                return p + 1 < posts ? p + 1 : 0;
            }
            return p > 0 ? p - 1 : posts - 1;
        }
    }

    /** All that an hour, a relief, undo() and the images change. */
    private static final class Watch {
        int hour;
        final int[] debts = new int[MOST_MEN];
        final int[] guards = new int[MOST_POSTS];
        final int[] stood = new int[MOST_POSTS];
        final int[] served = new int[MOST_MEN * MOST_POSTS];

        Watch() {
            Arrays.fill(guards, NONE);
        }

        void begin(Depot depot) {
            hour = 0;
            System.arraycopy(depot.debts, 0, debts, 0, MOST_MEN);
            Arrays.fill(guards, NONE);
            Arrays.fill(stood, 0);
            Arrays.fill(served, 0);
        }

        void become(Watch other) {
            hour = other.hour;
            System.arraycopy(other.debts, 0, debts, 0, MOST_MEN);
            System.arraycopy(other.guards, 0, guards, 0, MOST_POSTS);
            System.arraycopy(other.stood, 0, stood, 0, MOST_POSTS);
            System.arraycopy(other.served, 0, served, 0, MOST_MEN * MOST_POSTS);
        }

        int placeOf(int m) {
            for (int p = 0; p < MOST_POSTS; p++) {
                if (guards[p] == m) {
                    return p;
                }
            }
            return NONE;
        }

        void place(int m, int p) {
            guards[p] = m;
            stood[p] = 0;
        }

        boolean sleepsAt(int p) {
            int m = guards[p];
            return m != NONE && debts[m] >= SLEEP_DEBT;
        }

        int mannedPosts() {
            int bits = 0;
            for (int p = 0; p < MOST_POSTS; p++) {
                if (guards[p] != NONE) {
                    bits |= 1 << p;
                }
            }
            return bits;
        }

        int sleepingPosts() {
            int bits = 0;
            for (int p = 0; p < MOST_POSTS; p++) {
                if (sleepsAt(p)) {
                    bits |= 1 << p;
                }
            }
            return bits;
        }

        int watchedPosts(Depot depot) {
            return depot.watchedBy(mannedPosts() & ~sleepingPosts());
        }

        void passHour(Depot depot) {
            for (int m = 0; m < depot.men; m++) {
                int p = placeOf(m);
                if (p == NONE) {
                    debts[m] = Math.max(0, debts[m] - depot.stove);
                } else {
                    debts[m] = Math.min(MOST_DEBT, debts[m] + depot.burden(p, hour));
                    stood[p]++;
                    served[m * MOST_POSTS + p]++;
                }
            }
            hour++;
        }

        int bringRelief(Depot depot, int from, int way) {
            int relieved = 0;
            int cameBack = 0;
            int p = from;
            for (int step = 0; step < depot.posts; step++) {
                int m = guards[p];
                int next = m != NONE && stood[p] >= depot.on ? freshestMan(depot, cameBack) : NONE;
                if (next != NONE) {
                    cameBack |= 1 << m;
                    place(next, p);
                    relieved++;
                }
                p = depot.nextPost(p, way);
            }
            return relieved;
        }

        /** The man of least debt who stands nowhere and is not of those who came back. */
        int freshestMan(Depot depot, int cameBack) {
            int best = NONE;
            for (int m = 0; m < depot.men; m++) {
                boolean free = (cameBack >> m & 1) == 0 && placeOf(m) == NONE;
                if (free && (best == NONE || debts[m] < debts[best])) {
                    best = m;
                }
            }
            return best;
        }

        void advance(Depot depot, int rota) {
            passHour(depot);
            if (rota == 1) {
                bringRelief(depot, 0, BY_NUMBERS);
            }
        }

        int greatestDebt(Depot depot) {
            int greatest = 0;
            for (int m = 0; m < depot.men; m++) {
                greatest = Math.max(greatest, debts[m]);
            }
            return greatest;
        }

        int debtOnPost() {
            int sum = 0;
            for (int p = 0; p < MOST_POSTS; p++) {
                if (guards[p] != NONE) {
                    sum += debts[guards[p]];
                }
            }
            return sum;
        }

        int coldOf(Depot depot, int m) {
            int sum = 0;
            for (int p = 0; p < depot.posts; p++) {
                sum += served[m * MOST_POSTS + p] * depot.cold[p];
            }
            return sum;
        }
    }

    /** The watches ahead of the latest calls, in a ring, so that the oldest one is lost first. */
    private static final class Past {
        final Watch[] watches = new Watch[MOST_UNDONE];
        int next;
        int known;

        Past() {
            for (int i = 0; i < MOST_UNDONE; i++) {
                watches[i] = new Watch();
            }
        }

        void remember(Watch watch) {
            watches[next].become(watch);
            next = (next + 1) % MOST_UNDONE;
            known = Math.min(known + 1, MOST_UNDONE);
        }

        void restore(Watch watch) {
            next = (next + MOST_UNDONE - 1) % MOST_UNDONE;
            watch.become(watches[next]);
            known--;
        }
    }

    /** What the officer found: hours count from whenever they are asked about, not from when he came. */
    private static final class Findings {
        int size;
        final int[] men = new int[MOST_FOUND];
        final int[] hours = new int[MOST_FOUND];
        final int[] asleep = new int[MOST_FOUND];

        boolean add(int m, int n, int sleeping) {
            if (size >= MOST_FOUND) {
                return false;
            }
            men[size] = m;
            hours[size] = n;
            asleep[size] = sleeping;
            size++;
            return true;
        }

        boolean agree(int m, int hoursAsleep) {
            for (int i = 0; i < size; i++) {
                if (men[i] == m && (hoursAsleep >> hours[i] & 1) != asleep[i]) {
                    return false;
                }
            }
            return true;
        }
    }

    /** The search for the men by whom the greatest debt on post is least behind ON hours. */
    private static final class Plan {
        int least;
        final int[] chosen = new int[MOST_POSTS];
        private final int[] trial = new int[MOST_POSTS];
        private final int[] debtThen = new int[MOST_MEN * MOST_POSTS];

        void search(Depot depot, Watch watch) {
            weighAll(depot, watch);
            least = MOST_DEBT + 1;
            tryFrom(depot, 0, 0, 0);
        }

        private void weighAll(Depot depot, Watch watch) {
            for (int p = 0; p < depot.posts; p++) {
                int growth = 0;
                for (int k = 0; k < depot.on; k++) {
                    growth += depot.burden(p, watch.hour + k);
                }
                for (int m = 0; m < depot.men; m++) {
                    debtThen[m * MOST_POSTS + p] = Math.min(MOST_DEBT, watch.debts[m] + growth);
                }
            }
        }

        /** Men are tried in order and only a lesser debt is taken, so the first of several stays. */
        private void tryFrom(Depot depot, int p, int sent, int greatest) {
            if (greatest >= least) {
                return;
            }
            if (p >= depot.posts) {
                least = greatest;
                System.arraycopy(trial, 0, chosen, 0, MOST_POSTS);
                return;
            }
            for (int m = 0; m < depot.men; m++) {
                if ((sent >> m & 1) == 0) {
                    trial[p] = m;
                    tryFrom(depot, p + 1, sent | 1 << m, Math.max(greatest, debtThen[m * MOST_POSTS + p]));
                }
            }
        }
    }

    /** The text, and the reading of it token by token. */
    private static final class Text {
        private static final int NUMBER = -1;
        private static final int END = -2;
        private static final int WRONG = -3;
        private static final int MOST_NUMBER = 60;

        final int[] letters = new int[MOST_LETTERS];
        int length;
        private int at;
        private int start;
        private int token;
        private int value;
        private boolean onTold;
        private boolean stoveTold;

        boolean take(int letter) {
            if (length >= MOST_LETTERS) {
                return false;
            }
            letters[length] = letter;
            length++;
            return true;
        }

        /** How many items; or, with the draft half told, FAULT_BASE less the fault's place. */
        int readInto(Depot draft) {
            draft.empty();
            onTold = false;
            stoveTold = false;
            at = 0;
            for (int items = 0; items <= length; items++) {
                nextToken();
                if (token == END) {
                    return items;
                }
                if (!readItem(draft)) {
                    break;
                }
            }
            return FAULT_BASE - start;
        }

        private boolean readItem(Depot draft) {
            switch (token) {
                case 'p': return readPost(draft);
                case 'm': return readMan(draft);
                case 'o': return readOn(draft);
                case 's': return readStove(draft);
                default: return false;
            }
        }

        private boolean readPost(Depot draft) {
            if (draft.posts >= MOST_POSTS || !readNumber(0, 31)) {
                return false;
            }
            draft.sees[draft.posts] = value;
            if (!readNumber(0, 9)) {
                return false;
            }
            draft.cold[draft.posts] = value;
            draft.posts++;
            return readEnd();
        }

        private boolean readMan(Depot draft) {
            if (draft.men >= MOST_MEN || !readNumber(0, MOST_DEBT)) {
                return false;
            }
            draft.debts[draft.men] = value;
            draft.men++;
            return readEnd();
        }

        private boolean readOn(Depot draft) {
            if (onTold || !readNumber(1, 9)) {
                return false;
            }
            onTold = true;
            draft.on = value;
            return readEnd();
        }

        private boolean readStove(Depot draft) {
            if (stoveTold || !readNumber(1, 9)) {
                return false;
            }
            stoveTold = true;
            draft.stove = value;
            return readEnd();
        }

        private boolean readNumber(int least, int most) {
            nextToken();
            return token == NUMBER && value >= least && value <= most;
        }

        private boolean readEnd() {
            nextToken();
            return token == ';';
        }

        private void nextToken() {
            while (at < length && letters[at] == ' ') {
                at++;
            }
            start = at;
            if (at >= length) {
                token = END;
            } else if (isDigit(letters[at])) {
                takeNumber();
            } else {
                token = letters[at];
                at++;
            }
        }

        private void takeNumber() {
            value = 0;
            while (at < length && isDigit(letters[at])) {
                // beyond the greatest number only its being too great matters, and it must not wrap round
                value = Math.min(MOST_NUMBER + 1, value * 10 + letters[at] - '0');
                at++;
            }
            boolean zeroAhead = letters[start] == '0' && at - start > 1;
            token = zeroAhead || value > MOST_NUMBER ? WRONG : NUMBER;
        }

        private static boolean isDigit(int letter) {
            return letter >= '0' && letter <= '9';
        }
    }
}
