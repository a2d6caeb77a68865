import java.util.ArrayList;
import java.util.List;

/** Ways to ask an object for all that it holds; each but the first one changes it, so each asks another. */
enum Probe {
    NOW {
        @Override
        void ask(Run x, List<Long> answers) {
            askWhoStands(x, answers);
            askWhatWasHad(x, answers);
            askEach(x, answers, "now", 0, 4);
            askEach(x, answers, "count", 0, 5);
            askEach(x, answers, "round", 0, 1);
            askEach(x, answers, "rota", -1, 4);
            for (int m = 0; m < 6; m++) {
                answers.add(x.ask("fits", m, 0));
                answers.add(x.ask("fits", m, 1));
            }
            for (int p = 0; p < 5; p++) {
                answers.add(x.ask("post", p, 0));
                answers.add(x.ask("post", p, 1));
            }
            answers.add(x.ask("leave"));
            answers.add(x.ask("two"));
            answers.add(x.ask("inHours", 5, 1, 2));
            answers.add(x.ask("trace"));
        }
    },

    UNDO {
        @Override
        void ask(Run x, List<Long> answers) {
            for (int i = 0; i < 11; i++) {
                answers.add(x.ask("undo"));
                answers.add(x.ask("now", 0));
                askWhoStands(x, answers);
                answers.add(x.ask("fair"));
            }
        }
    },

    IMAGES {
        @Override
        void ask(Run x, List<Long> answers) {
            for (int image = 0; image <= 1; image++) {
                answers.add(x.ask("back", image));
                askWhoStands(x, answers);
                askWhatWasHad(x, answers);
            }
        }
    },

    TEXT {
        @Override
        void ask(Run x, List<Long> answers) {
            // the second letter ends an ITEM that the first reading may have found too short
            for (int i = 0; i < 2; i++) {
                answers.add(x.ask("depot"));
                askEach(x, answers, "count", 0, 5);
                askWhoStands(x, answers);
                answers.add(x.ask("type", ';'));
            }
            answers.add(x.ask("clear"));
        }
    },

    FOUND {
        @Override
        void ask(Run x, List<Long> answers) {
            for (int n = 0; n < 7; n++) {
                answers.add(x.ask("found", 0, n, 1));
                answers.add(x.ask("fits", 0, 0));
            }
            answers.add(x.ask("forget"));
        }
    };

    abstract void ask(Run x, List<Long> answers);

    List<Long> asks(Run x) {
        List<Long> answers = new ArrayList<>();
        ask(x, answers);
        return answers;
    }

    private static void askEach(Run x, List<Long> answers, String name, int least, int most) {
        for (int number = least; number <= most; number++) {
            answers.add(x.ask(name, number));
        }
    }

    private static void askWhoStands(Run x, List<Long> answers) {
        for (int p = 0; p < 5; p++) {
            answers.add(x.ask("post", p, 2));
            answers.add(x.ask("post", p, 3));
        }
        for (int m = 0; m < 6; m++) {
            answers.add(x.ask("man", m, 0));
        }
    }

    private static void askWhatWasHad(Run x, List<Long> answers) {
        for (int m = 0; m < 6; m++) {
            for (int p = 0; p < 5; p++) {
                answers.add(x.ask("had", m, p));
            }
        }
    }
}
