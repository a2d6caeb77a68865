import java.util.ArrayDeque;
import java.util.Deque;
import java.util.Random;

/** Long runs of calls by chance, from fixed seeds: the class and the model must answer alike. */
public final class ModelTest {
    private static final Checks CHECKS = new Checks("ModelTest");
    private static final int RUNS = 1500;
    private static final int CALLS = 512;
    private static final String[] NAMES = {
        "type", "clear", "depot", "post", "man", "now", "sends", "calls", "hour", "relieves", "undo", "inHours",
        "round", "rota", "leave", "two", "unseen", "odds", "creep", "found", "forget", "fits", "had", "fair", "cow",
        "rate", "keep", "back", "count", "trace"};
    private static final int[] WEIGHTS = {
        4, 1, 3, 10, 10, 12, 30, 6, 50, 24, 8, 12,
        10, 6, 2, 2, 10, 10, 8, 10, 2, 10, 8, 6, 3,
        10, 3, 4, 4, 2};

    private ModelTest() {
    }

    public static void main(String[] args) {
        for (int seed = 0; seed < RUNS && CHECKS.wrong() == 0; seed++) {
            run(seed);
        }
        for (int seed = 0; seed < 20000 && CHECKS.wrong() == 0; seed++) {
            readOnly(seed);
        }
        CHECKS.end();
    }

    private static void run(int seed) {
        Random chance = new Random(seed);
        PostRelief x = new PostRelief();
        Model model = new Model();
        Deque<Character> letters = new ArrayDeque<>();
        queue(letters, text(chance));
        boolean reading = true;
        for (int call = 0; call < CALLS && CHECKS.wrong() == 0; call++) {
            String name;
            int a;
            if (!letters.isEmpty()) {
                name = "type";
                a = letters.removeFirst();
            } else if (reading) {
                name = "depot";
                a = 0;
                reading = false;
            } else {
                name = name(chance);
                a = argument(chance, first(name));
            }
            int b = argument(chance, second(name));
            int c = argument(chance, name.equals("inHours") ? 2 : 1);
            long want = model.call(name, a, b, c);
            long got = answer(x, name, a, b, c);
            CHECKS.due("seed " + seed + ", call " + call + ": " + name + "(" + a + ", " + b + ", " + c + ")", want, got);
            if (chance.nextInt(250) == 0) {
                queue(letters, text(chance));
                reading = true;
            }
        }
    }

    private static void readOnly(int seed) {
        Random chance = new Random(-1L - seed);
        String text = text(chance);
        PostRelief x = Checks.typed(text);
        Model model = new Model();
        for (char letter : text.toCharArray()) {
            model.call("type", letter, 0, 0);
        }
        CHECKS.due("depot() of \"" + text + "\"", model.call("depot", 0, 0, 0), x.depot());
        for (int what = 0; what <= 5; what++) {
            CHECKS.due("count(" + what + ") of \"" + text + "\"", model.call("count", what, 0, 0), x.count(what));
        }
        for (int p = 0; p < 5; p++) {
            CHECKS.due("post(" + p + ", 0) of \"" + text + "\"", model.call("post", p, 0, 0), x.post(p, 0));
            CHECKS.due("post(" + p + ", 1) of \"" + text + "\"", model.call("post", p, 1, 0), x.post(p, 1));
        }
        CHECKS.due("leave() of \"" + text + "\"", model.call("leave", 0, 0, 0), x.leave());
        CHECKS.due("two() of \"" + text + "\"", model.call("two", 0, 0, 0), x.two());
    }

    private static void queue(Deque<Character> letters, String text) {
        for (char letter : text.toCharArray()) {
            letters.addLast(letter);
        }
    }

    private static String blanks(Random chance) {
        return chance.nextInt(8) == 0 ? " ".repeat(1 + chance.nextInt(2)) : "";
    }

    private static String text(Random chance) {
        int posts = chance.nextInt(6);
        int men = chance.nextInt(7);
        StringBuilder text = new StringBuilder();
        boolean tired = chance.nextBoolean();
        int on = chance.nextInt(3);
        int stove = chance.nextInt(3);
        while (posts + men > 0 || on == 1 || stove == 1) {
            int pick = chance.nextInt(4);
            if (pick == 0 && posts > 0) {
                text.append('p').append(blanks(chance)).append(chance.nextInt(32)).append(' ').append(blanks(chance));
                text.append(chance.nextInt(10));
                posts--;
            } else if (pick == 1 && men > 0) {
                text.append('m').append(blanks(chance)).append(tired ? 25 + chance.nextInt(36) : chance.nextInt(61));
                men--;
            } else if (pick == 2 && on == 1) {
                text.append('o').append(blanks(chance)).append(1 + chance.nextInt(chance.nextBoolean() ? 3 : 9));
                on = 0;
            } else if (pick == 3 && stove == 1) {
                text.append('s').append(blanks(chance)).append(1 + chance.nextInt(9));
                stove = 0;
            } else {
                continue;
            }
            text.append(blanks(chance)).append(';').append(blanks(chance));
        }
        if (chance.nextInt(3) == 0) {
            spoil(text, chance);
        }
        return text.length() > 200 ? text.substring(0, 200) : text.toString();
    }

    private static void spoil(StringBuilder text, Random chance) {
        String signs = "pmos;0123456789  xP:/";
        for (int times = 1 + chance.nextInt(2); times > 0; times--) {
            int at = chance.nextInt(text.length() + 1);
            char sign = signs.charAt(chance.nextInt(signs.length()));
            switch (chance.nextInt(3)) {
                case 0 -> text.insert(at, sign);
                case 1 -> text.replace(at, Math.min(text.length(), at + 1), String.valueOf(sign));
                default -> text.delete(at, Math.min(text.length(), at + 1));
            }
        }
    }

    private static String name(Random chance) {
        int sum = 0;
        for (int weight : WEIGHTS) {
            sum += weight;
        }
        int pick = chance.nextInt(sum);
        int i = 0;
        while (pick >= WEIGHTS[i]) {
            pick -= WEIGHTS[i];
            i++;
        }
        return NAMES[i];
    }

    /** The greatest number that the call's first one may be. */
    private static int first(String name) {
        return switch (name) {
            case "type" -> 255;
            case "man", "sends", "found", "fits", "had" -> 5;
            case "inHours" -> 60;
            case "odds" -> 10;
            case "creep" -> 24;
            case "cow" -> 9;
            case "round", "keep", "back" -> 1;
            case "rate", "count" -> 5;
            default -> 4;
        };
    }

    private static int second(String name) {
        return switch (name) {
            case "sends", "had", "rate" -> 4;
            case "unseen" -> 12;
            case "found" -> 24;
            case "cow" -> 9;
            case "post" -> 3;
            case "man" -> 2;
            default -> 1;
        };
    }

    private static int argument(Random chance, int most) {
        int[] wild = {-1, -2, most + 1, Integer.MIN_VALUE, Integer.MAX_VALUE, chance.nextInt()};
        if (chance.nextInt(60) == 0) {
            return wild[chance.nextInt(wild.length)];
        }
        return chance.nextInt(8) == 0 ? -1 + chance.nextInt(most + 3) : chance.nextInt(most + 1);
    }

    private static long answer(PostRelief x, String name, int a, int b, int c) {
        return switch (name) {
            case "type" -> x.type(a);
            case "clear" -> x.clear();
            case "depot" -> x.depot();
            case "post" -> x.post(a, b);
            case "man" -> x.man(a, b);
            case "now" -> x.now(a);
            case "sends" -> x.sends(a, b);
            case "calls" -> x.calls(a);
            case "hour" -> x.hour();
            case "relieves" -> x.relieves(a, b);
            case "undo" -> x.undo();
            case "inHours" -> x.inHours(a, b, c);
            case "round" -> x.round(a);
            case "rota" -> x.rota(a);
            case "leave" -> x.leave();
            case "two" -> x.two();
            case "unseen" -> x.unseen(a, b);
            case "odds" -> x.odds(a, b);
            case "creep" -> x.creep(a, b);
            case "found" -> x.found(a, b, c);
            case "forget" -> x.forget();
            case "fits" -> x.fits(a, b);
            case "had" -> x.had(a, b);
            case "fair" -> x.fair();
            case "cow" -> x.cow(a, b, c);
            case "rate" -> x.rate(a, b);
            case "keep" -> x.keep(a);
            case "back" -> x.back(a);
            case "count" -> x.count(a);
            case "trace" -> x.trace();
            default -> throw new IllegalArgumentException(name);
        };
    }
}
