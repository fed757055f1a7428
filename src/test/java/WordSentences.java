/** Promises 29 to 32: the word, answers, the effect. */
final class WordSentences {
    private static final int BAD_INDEX = Sentences.BAD_INDEX;
    private static final int FULL = Sentences.FULL;
    private static final int NONE = Sentences.NONE;
    private static final int STOP = Sentences.STOP;
    private static final int LEAST = Sentences.LEAST;
    private static final int MOST = Sentences.MOST;

    private WordSentences() {
    }

    static void run() {
        add();
        addAnswers();
        clearWord();
        answer();
        answerArguments();
        answerAnswers();
        effect();
        effectLetters();
        effectAnswers();
    }

    private static void due(long got, long want) {
        Sentences.due(got, want);
    }

    private static void add() {
        Sentences.says(29, "Adds a letter to the word.", () -> {
            // The base machine answers each letter with its number.
            FeatureClashes x = Made.plain(1, 4, 0);
            for (int letter = 0; letter < 4; letter++) {
                x.setArrow(0, letter, 0, letter);
            }
            for (int i = 0; i < 20; i++) {
                due(x.answer(-1, i), NONE);
                x.add((i * i + i / 2) % 4);
                due(x.answer(-1, i), (i * i + i / 2) % 4);
            }
            for (int i = 0; i < 20; i++) {
                due(x.answer(-1, i), (i * i + i / 2) % 4);
            }
        });
        Sentences.says(29, "`letter`: a letter", () -> {
            for (int letters = 1; letters <= 4; letters++) {
                FeatureClashes x = Made.plain(8, letters, 0);
                Sentences.dueRange(0, letters - 1, BAD_INDEX, x::add);
                due(x.clearWord(), 2);
            }
            Sentences.dueRange(0, 1, BAD_INDEX, new FeatureClashes()::add);
        });
    }

    private static void addAnswers() {
        Sentences.says(29, "Returns the length of the word", () -> {
            FeatureClashes x = new FeatureClashes();
            for (int length = 1; length <= 20; length++) {
                due(x.add(length % 2), length);
            }
            x.clearWord();
            due(x.add(1), 1);
            x.begin(2, 2);
            due(x.add(1), 1);
        });
        Sentences.says(29, "BAD_INDEX", () -> {
            for (int letter : new int[] {-1, 4, LEAST, MOST}) {
                // Ahead of FULL.
                Twins.dueRefused(Made.FULL, BAD_INDEX, x -> x.add(letter));
                Twins.dueRefused(Made.SMALL, BAD_INDEX, x -> x.add(letter));
            }
            Twins.dueRefused(Made.SMALL, BAD_INDEX, x -> x.add(2));
        });
        Sentences.says(29, "FULL if it has 20 letters", () -> {
            Twins.dueRefused(Made.FULL, FULL, x -> x.add(0));
            Twins.dueRefused(Made.FULL, FULL, x -> x.add(3));
            FeatureClashes x = new FeatureClashes();
            for (int length = 1; length <= 19; length++) {
                x.add(0);
            }
            due(x.add(1), 20);
            due(x.add(1), FULL);
            due(x.add(1), FULL);
            due(x.clearWord(), 20);
            due(x.add(1), 1);
        });
    }

    private static void clearWord() {
        Sentences.says(30, "Empties the word.", () -> {
            FeatureClashes x = Made.FULL.get();
            due(x.answer(-1, 0), 0);
            x.clearWord();
            due(x.answer(-1, 0), NONE);
            due(x.answer(-2, 19), NONE);
            due(x.add(1), 1);
            due(x.answer(-1, 1), NONE);
            // All else stays.
            due(x.features(), 6);
            due(x.clearText(), 80);
            due(x.clearPriorities(), 3);
        });
        Sentences.says(30, "Returns the length that it had", () -> {
            FeatureClashes x = new FeatureClashes();
            due(x.clearWord(), 0);
            for (int length = 1; length <= 20; length++) {
                Made.addWord(x, new int[length]);
                due(x.clearWord(), length);
                due(x.clearWord(), 0);
            }
        });
    }

    /** Base: a leads from 0 to 1, then b stops; feature 0 and feature 1 go on from there. */
    private static FeatureClashes goingOn() {
        FeatureClashes x = Made.plain(2, 2, 2);
        x.setArrow(0, 0, 1, 1);
        x.setArrow(1, 0, 0, 2);
        x.change(0, 1, 1, 1, 3);
        x.change(1, 1, 1, 0, 4);
        Made.addWord(x, 0, 1, 0, 0);
        return x;
    }

    private static void dueAnswers(FeatureClashes x, int which, int... answers) {
        for (int index = 0; index < answers.length; index++) {
            due(x.answer(which, index), answers[index]);
        }
        due(x.answer(which, answers.length), NONE);
        due(x.answer(which, MOST), NONE);
    }

    private static void answer() {
        Sentences.says(31, "Gives the word to a machine.", () -> {
            FeatureClashes x = goingOn();
            dueAnswers(x, -1, 1, STOP, STOP, STOP);
            dueAnswers(x, 0, 1, 3, 2, 1);
            dueAnswers(x, 1, 1, 4, 1, 2);
            dueAnswers(x, -2, 1, 4, 1, 2);
            // Asked out of order, each machine begins in state 0 again.
            due(x.answer(0, 3), 1);
            due(x.answer(1, 3), 2);
            due(x.answer(0, 1), 3);
            due(x.answer(-1, 0), 1);
            x.add(0);
            dueAnswers(x, 0, 1, 3, 2, 1, 2);
        });
    }

    private static void answerArguments() {
        Sentences.says(31, "`which`: a feature for the base machine with this feature alone, -1 for the base machine, "
            + "-2 for the resolved machine", () -> {
                FeatureClashes x = Made.rivals(6);
                x.add(0);
                Sentences.dueRange(-2, 5, BAD_INDEX, v -> x.answer(v, 0));
                for (int f = 0; f < 6; f++) {
                    due(x.answer(f, 0), f);
                }
                due(x.answer(-1, 0), 9);
                due(x.answer(-2, 0), 5);
                x.setBefore(5, 0);
                due(x.answer(-2, 0), 0);
                x.setBefore(0, 3);
                due(x.answer(-2, 0), 3);
                // A feature that is named counts also if it is off; in the resolved machine it does not.
                x.setOn(3, false);
                due(x.answer(3, 0), 3);
                due(x.answer(-2, 0), 0);
                Made.turnAll(x, false);
                due(x.answer(-2, 0), 9);
                due(x.answer(5, 0), 5);
                FeatureClashes y = Made.plain(1, 1, 0);
                y.add(0);
                Sentences.dueRange(-2, -1, BAD_INDEX, v -> y.answer(v, 0));
            });
        Sentences.says(31, "`index`: the index of a letter of the word, counted from 0", () -> {
            FeatureClashes x = Made.plain(8, 1, 0);
            for (int state = 0; state < 8; state++) {
                x.setArrow(state, 0, (state + 1) % 8, state);
            }
            Made.addWord(x, new int[20]);
            for (int index = 0; index < 20; index++) {
                due(x.answer(-1, index), index % 8);
                due(x.answer(-2, index), index % 8);
            }
            due(x.answer(-1, 20), NONE);
        });
    }

    private static void answerAnswers() {
        Sentences.says(31, "Returns the answer to this letter, 0 to STOP", () -> {
            FeatureClashes x = Made.plain(1, 1, 1);
            x.add(0);
            due(x.answer(-1, 0), STOP);
            for (int output = 0; output <= 9; output++) {
                x.setArrow(0, 0, 0, output);
                due(x.answer(-1, 0), output);
                due(x.answer(0, 0), output);
                due(x.answer(-2, 0), output);
            }
            x.changeToNone(0, 0, 0);
            due(x.answer(0, 0), STOP);
            due(x.answer(-2, 0), STOP);
            Twins.dueWithoutChange(Made.SMALL, 1, y -> y.answer(-2, 0));
            Twins.dueWithoutChange(Made.SMALL, 3, y -> y.answer(1, 1));
        });
        Sentences.says(31, "BAD_INDEX, also if index is negative", () -> {
            for (int which : new int[] {-3, 6, LEAST, MOST}) {
                Twins.dueRefused(Made.FULL, BAD_INDEX, x -> x.answer(which, 0));
                Twins.dueRefused(Made.FULL, BAD_INDEX, x -> x.answer(which, -1));
                // Ahead of NONE.
                Twins.dueRefused(Made.FULL, BAD_INDEX, x -> x.answer(which, 20));
            }
            for (int which = -2; which < 6; which++) {
                int known = which;
                Twins.dueRefused(Made.FULL, BAD_INDEX, x -> x.answer(known, -1));
                Twins.dueRefused(Made.FULL, BAD_INDEX, x -> x.answer(known, LEAST));
            }
            Twins.dueRefused(Made.SMALL, BAD_INDEX, x -> x.answer(3, 0));
            due(new FeatureClashes().answer(-1, -1), BAD_INDEX);
            due(new FeatureClashes().answer(0, 0), BAD_INDEX);
        });
        Sentences.says(31, "NONE if the word has no such letter", () -> {
            FeatureClashes x = Made.rivals(2);
            for (int which = -2; which < 2; which++) {
                due(x.answer(which, 0), NONE);
                due(x.answer(which, MOST), NONE);
            }
            x.add(0);
            for (int which = -2; which < 2; which++) {
                due(x.answer(which, 1), NONE);
                due(x.answer(which, 20), NONE);
            }
            Made.addWord(x, new int[20]);
            due(x.answer(-1, 19), 9);
            due(x.answer(-1, 20), NONE);
            due(x.answer(-2, 20), NONE);
            due(x.answer(1, 20), NONE);
        });
    }

    private static void effect() {
        Sentences.says(32, "Finds the shortest word that the resolved machine and the base machine answer differently, "
            + "of several the lexicographically first one.", () -> {
                FeatureClashes x = Made.plain(4, 3, 1);
                x.setArrow(0, 0, 1, 0);
                x.setArrow(0, 1, 2, 0);
                x.setArrow(0, 2, 3, 0);
                x.setArrow(1, 0, 3, 0);
                // "aaa" comes first by its letters, but "cb" is shorter.
                x.change(0, 3, 1, 0, 1);
                dueEffect(x, 2, 1);
                // "ca" is as short, and comes before it.
                x.change(0, 3, 0, 0, 1);
                dueEffect(x, 2, 0);
                x.change(0, 2, 2, 0, 1);
                dueEffect(x, 1, 2);
                x.change(0, 1, 2, 0, 1);
                dueEffect(x, 0, 2);
                x.changeToNone(0, 0, 2);
                dueEffect(x, 2);
                x.changeToNone(0, 0, 0);
                dueEffect(x, 0);
                x.setOn(0, false);
                dueEffect(x);
            });
        Sentences.says(32, "`index`: the index of a letter in this word, counted from 0", () -> {
            FeatureClashes x = Made.plain(4, 4, 1);
            for (int state = 0; state < 3; state++) {
                x.setArrow(state, 3 - state, state + 1, 0);
            }
            x.change(0, 3, 0, 0, 1);
            dueEffect(x, 3, 2, 1, 0);
        });
    }

    private static void dueEffect(FeatureClashes x, int... word) {
        for (int index = 0; index < word.length; index++) {
            due(x.effect(index), word[index]);
        }
        due(x.effect(word.length), NONE);
        due(x.effect(MOST), NONE);
        due(x.effect(-1), BAD_INDEX);
    }

    private static void effectLetters() {
        Sentences.says(32, "Returns the letter", () -> {
            for (int letter = 0; letter < 4; letter++) {
                FeatureClashes x = Made.plain(1, 4, 1);
                x.change(0, 0, letter, 0, 0);
                dueEffect(x, letter);
            }
            // Both answer alike for long: one stays in state 7, the other one goes round.
            FeatureClashes y = Made.plain(8, 2, 1);
            for (int state = 0; state < 8; state++) {
                y.setArrow(state, 0, Math.min(state + 1, 7), 0);
            }
            y.setArrow(6, 1, 6, 1);
            y.change(0, 7, 0, 0, 0);
            dueEffect(y, 0, 0, 0, 0, 0, 0, 0, 0, 0, 0, 0, 0, 0, 0, 1);
            Twins.dueWithoutChange(Made.SMALL, 0, z -> z.effect(0));
        });
    }

    private static void effectAnswers() {
        Sentences.says(32, "BAD_INDEX if index is negative", () -> {
            for (int index : new int[] {-1, -5, LEAST}) {
                Twins.dueRefused(Made.FULL, BAD_INDEX, x -> x.effect(index));
                // Ahead of NONE.
                due(new FeatureClashes().effect(index), BAD_INDEX);
            }
        });
        Sentences.says(32, "NONE if both are alike, or the word is not so long", () -> {
            dueEffect(new FeatureClashes());
            dueEffect(Made.plain(8, 4, 6));
            FeatureClashes x = Made.rivals(2);
            dueEffect(x, 0);
            due(x.effect(1), NONE);
            due(x.effect(64), NONE);
            // The last one sets the arrow as it is.
            x.change(1, 0, 0, 0, 9);
            dueEffect(x);
            x.setBefore(1, 0);
            dueEffect(x, 0);
            x.setOn(0, false);
            dueEffect(x);
            // Other arrows, the same answers.
            FeatureClashes y = Made.plain(2, 1, 1);
            y.setArrow(0, 0, 0, 7);
            y.setArrow(1, 0, 1, 7);
            y.change(0, 0, 0, 1, 7);
            dueEffect(y);
            // A change where no word comes.
            FeatureClashes z = Made.plain(2, 1, 1);
            z.change(0, 1, 0, 1, 7);
            dueEffect(z);
        });
    }
}
