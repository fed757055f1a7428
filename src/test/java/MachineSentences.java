/** Promises 1 to 4: a new object, begin, the arrows of the base machine. */
final class MachineSentences {
    private static final int BAD_INDEX = Sentences.BAD_INDEX;
    private static final int BAD_VALUE = Sentences.BAD_VALUE;
    private static final int NOT_POSSIBLE = Sentences.NOT_POSSIBLE;
    private static final int FULL = Sentences.FULL;
    private static final int NONE = Sentences.NONE;
    private static final int LEAST = Sentences.LEAST;
    private static final int MOST = Sentences.MOST;

    private MachineSentences() {
    }

    static void run() {
        newObject();
        begin();
        beginArguments();
        beginAnswers();
        setArrow();
        setArrowArguments();
        setArrowAnswers();
        removeArrow();
        removeArrowAnswers();
    }

    private static void due(long got, long want) {
        Sentences.due(got, want);
    }

    private static void newObject() {
        Sentences.says(1, "Creates a finder with everything as at first, without features, with an empty word, "
            + "an empty text and empty slots.", () -> {
                // What another object holds must not be seen in a new one.
                FeatureClashes other = Made.FULL.get();
                FeatureClashes x = new FeatureClashes();
                due(x.features(), 0);
                due(x.changes(0), BAD_INDEX);
                due(x.clearWord(), 0);
                due(x.answer(-1, 0), NONE);
                due(x.clearText(), 0);
                due(x.faultPosition(), NONE);
                due(x.restore(0), NOT_POSSIBLE);
                due(x.restore(1), NOT_POSSIBLE);
                due(x.clearPriorities(), 0);
                for (int cell = 0; cell < 4; cell++) {
                    due(x.removeArrow(cell / 2, cell % 2), NONE);
                }
                due(x.removeArrow(2, 0), BAD_INDEX);
                due(x.removeArrow(0, 2), BAD_INDEX);
                due(x.addFeature(), 0);
                due(x.setOn(0, true), 1);
                due(x.begin(8, 4), 22);
                due(other.features(), 6);
                due(other.clearWord(), 20);
            });
    }

    private static void begin() {
        Sentences.says(2, "Begins anew: there are no arrows, no features and no priorities, and the word is empty.",
            () -> {
                FeatureClashes x = Made.FULL.get();
                due(x.begin(8, 4), 84);
                due(x.features(), 0);
                due(x.changes(0), BAD_INDEX);
                due(x.orders(), 1);
                due(x.resolved(0), NONE);
                due(x.answer(-1, 0), NONE);
                due(x.clearWord(), 0);
                due(x.clearPriorities(), 0);
                for (int cell = 0; cell < 32; cell++) {
                    due(x.removeArrow(cell / 4, cell % 4), NONE);
                }
                for (int f = 0; f < 6; f++) {
                    due(x.addFeature(), f);
                    due(x.changes(f), 0);
                    due(x.setOn(f, true), 1);
                }
                for (int f = 0; f < 6; f++) {
                    for (int g = 0; g < 6; g++) {
                        due(x.isBefore(f, g), 0);
                    }
                }
                due(x.orders(), 720);
            });
        Sentences.says(2, "The text and the slots stay.", () -> {
            FeatureClashes x = Made.FULL.get();
            x.save(1);
            due(x.begin(1, 1), 84);
            due(x.append('0'), FULL);
            due(x.restore(0), 3);
            due(x.begin(8, 4), 84);
            due(x.faultPosition(), NONE);
            due(x.restore(1), 6);
            due(x.begin(2, 2), 84);
            due(x.clearText(), 80);
            // An empty slot stays empty.
            FeatureClashes y = Made.SMALL.get();
            y.begin(8, 4);
            due(y.restore(0), NOT_POSSIBLE);
            due(y.restore(1), 1);
            due(y.clearText(), 12);
        });
    }

    private static void beginArguments() {
        Sentences.says(2, "`states`: 1 to 8", () -> {
            FeatureClashes x = new FeatureClashes();
            Sentences.dueRange(1, 8, BAD_VALUE, v -> x.begin(v, 1));
            Sentences.dueRange(1, 8, BAD_VALUE, v -> x.begin(v, 4));
            for (int states = 1; states <= 8; states++) {
                x.begin(states, 4);
                due(x.setArrow(states - 1, 3, states - 1, 0), NONE);
                due(x.setArrow(states, 3, 0, 0), BAD_INDEX);
                due(x.setArrow(0, 3, states, 0), BAD_INDEX);
            }
        });
        Sentences.says(2, "`letters`: 1 to 4", () -> {
            FeatureClashes x = new FeatureClashes();
            Sentences.dueRange(1, 4, BAD_VALUE, v -> x.begin(1, v));
            Sentences.dueRange(1, 4, BAD_VALUE, v -> x.begin(8, v));
            for (int letters = 1; letters <= 4; letters++) {
                x.begin(8, letters);
                due(x.add(letters - 1), 1);
                due(x.add(letters), BAD_INDEX);
                due(x.setArrow(7, letters - 1, 7, 0), NONE);
                due(x.setArrow(7, letters, 7, 0), BAD_INDEX);
            }
        });
    }

    private static void beginAnswers() {
        Sentences.says(2, "Returns 10 * the previous number of states + the previous number of letters", () -> {
            FeatureClashes x = new FeatureClashes();
            int previous = 22;
            for (int states = 1; states <= 8; states++) {
                for (int letters = 1; letters <= 4; letters++) {
                    due(x.begin(states, letters), previous);
                    previous = 10 * states + letters;
                }
            }
            due(x.begin(8, 4), 84);
            due(x.begin(1, 1), 84);
            due(x.begin(9, 1), BAD_VALUE);
            due(x.begin(1, 5), BAD_VALUE);
            due(x.begin(2, 3), 11);
            x.save(0);
            x.begin(5, 4);
            x.restore(0);
            due(x.begin(1, 1), 23);
        });
        Sentences.says(2, "BAD_VALUE", () -> {
            int[][] bad = {{0, 4}, {9, 4}, {8, 0}, {8, 5}, {0, 0}, {9, 5}, {-1, 2}, {2, -1}, {LEAST, MOST}};
            for (int[] size : bad) {
                Twins.dueRefused(Made.FULL, BAD_VALUE, x -> x.begin(size[0], size[1]));
                Twins.dueRefused(Made.SMALL, BAD_VALUE, x -> x.begin(size[0], size[1]));
            }
        });
    }

    private static void setArrow() {
        Sentences.says(3, "Sets an arrow of the base machine.", () -> {
            FeatureClashes x = Made.plain(8, 4, 1);
            for (int cell = 0; cell < 32; cell++) {
                due(x.setArrow(cell / 4, cell % 4, (cell + 5) % 8, cell % 10), NONE);
            }
            // No arrow stands in the place of another one.
            for (int cell = 0; cell < 32; cell++) {
                due(x.setArrow(cell / 4, cell % 4, 0, 0), 10 * ((cell + 5) % 8) + cell % 10);
            }
            x.setArrow(0, 0, 7, 1);
            x.setArrow(7, 3, 0, 9);
            Made.addWord(x, 0, 3, 0);
            due(x.answer(-1, 0), 1);
            due(x.answer(-1, 1), 9);
            due(x.answer(-1, 2), 1);
            // It is the base machine's arrow: a feature's change of it stays.
            due(x.changes(0), 0);
            x.change(0, 0, 0, 7, 5);
            x.setArrow(0, 0, 7, 2);
            due(x.answer(-1, 0), 2);
            due(x.answer(0, 0), 5);
        });
    }

    private static void setArrowArguments() {
        int[] sizes = {11, 22, 84};
        Sentences.says(3, "`state`: a state", () -> {
            for (int size : sizes) {
                FeatureClashes x = Made.plain(size / 10, size % 10, 0);
                Sentences.dueRange(0, size / 10 - 1, BAD_INDEX, v -> x.setArrow(v, 0, 0, 0));
                Sentences.dueRange(0, size / 10 - 1, BAD_INDEX, v -> x.setArrow(v, size % 10 - 1, 0, 0));
            }
        });
        Sentences.says(3, "`letter`: a letter", () -> {
            for (int size : sizes) {
                FeatureClashes x = Made.plain(size / 10, size % 10, 0);
                Sentences.dueRange(0, size % 10 - 1, BAD_INDEX, v -> x.setArrow(0, v, 0, 0));
                Sentences.dueRange(0, size % 10 - 1, BAD_INDEX, v -> x.setArrow(size / 10 - 1, v, 0, 0));
            }
        });
        Sentences.says(3, "`to`: a state", () -> {
            for (int size : sizes) {
                FeatureClashes x = Made.plain(size / 10, size % 10, 0);
                Sentences.dueRange(0, size / 10 - 1, BAD_INDEX, v -> x.setArrow(0, 0, v, 0));
            }
        });
        Sentences.says(3, "`output`: 0 to 9", () -> {
            FeatureClashes x = new FeatureClashes();
            Sentences.dueRange(0, 9, BAD_VALUE, v -> x.setArrow(1, 1, 1, v));
            x.add(0);
            for (int output = 0; output <= 9; output++) {
                x.setArrow(0, 0, 1, output);
                due(x.answer(-1, 0), output);
            }
        });
    }

    private static void setArrowAnswers() {
        Sentences.says(3, "Returns 10 * the previous state to which it led + the previous output", () -> {
            FeatureClashes x = Made.plain(8, 4, 0);
            x.setArrow(7, 3, 0, 0);
            int previous = 0;
            for (int arrow = 0; arrow < 80; arrow++) {
                due(x.setArrow(7, 3, arrow / 10, arrow % 10), previous);
                previous = arrow;
            }
            due(x.setArrow(7, 3, 7, 9), 79);
        });
        Sentences.says(3, "BAD_INDEX (also for to)", () -> {
            int[][] bad = {{-1, 0, 0}, {8, 0, 0}, {0, -1, 0}, {0, 4, 0}, {7, 4, 7}, {0, 0, -1}, {0, 0, 8},
                {LEAST, MOST, LEAST}};
            for (int[] at : bad) {
                Twins.dueRefused(Made.FULL, BAD_INDEX, x -> x.setArrow(at[0], at[1], at[2], 5));
                // Ahead of BAD_VALUE.
                Twins.dueRefused(Made.FULL, BAD_INDEX, x -> x.setArrow(at[0], at[1], at[2], 10));
                Twins.dueRefused(Made.FULL, BAD_INDEX, x -> x.setArrow(at[0], at[1], at[2], -1));
            }
            // What there is in a larger machine counts not.
            Twins.dueRefused(Made.SMALL, BAD_INDEX, x -> x.setArrow(3, 0, 0, 0));
            Twins.dueRefused(Made.SMALL, BAD_INDEX, x -> x.setArrow(0, 2, 0, 0));
            Twins.dueRefused(Made.SMALL, BAD_INDEX, x -> x.setArrow(0, 0, 3, 0));
        });
        Sentences.says(3, "BAD_VALUE", () -> {
            for (int output : new int[] {-1, 10, LEAST, MOST}) {
                Twins.dueRefused(Made.FULL, BAD_VALUE, x -> x.setArrow(0, 0, 0, output));
                Twins.dueRefused(Made.FULL, BAD_VALUE, x -> x.setArrow(7, 3, 7, output));
                // Ahead of NONE, and the arrow is not set.
                Twins.dueRefused(Made.SMALL, BAD_VALUE, x -> x.setArrow(2, 1, 2, output));
            }
        });
        Sentences.says(3, "NONE if there was no arrow (it is set all the same)", () -> {
            FeatureClashes x = new FeatureClashes();
            due(x.setArrow(0, 0, 0, 0), NONE);
            due(x.setArrow(0, 0, 1, 9), 0);
            due(x.removeArrow(0, 0), 19);
            due(x.setArrow(0, 0, 1, 3), NONE);
            due(x.setArrow(1, 1, 1, 3), NONE);
            due(x.removeArrow(0, 0), 13);
            due(x.removeArrow(1, 1), 13);
        });
    }

    private static void removeArrow() {
        Sentences.says(4, "Removes an arrow of the base machine.", () -> {
            FeatureClashes x = Made.plain(8, 4, 1);
            for (int cell = 0; cell < 32; cell++) {
                x.setArrow(cell / 4, cell % 4, cell % 8, cell % 10);
            }
            x.change(0, 0, 0, 0, 8);
            due(x.removeArrow(0, 0), 0);
            due(x.removeArrow(7, 3), 71);
            Made.addWord(x, 0);
            due(x.answer(-1, 0), Sentences.STOP);
            // It is the base machine's arrow alone, and no other one.
            due(x.answer(0, 0), 8);
            due(x.changes(0), 1);
            for (int cell = 1; cell < 31; cell++) {
                due(x.removeArrow(cell / 4, cell % 4), 10 * (cell % 8) + cell % 10);
            }
        });
        Sentences.says(4, "`state`: a state", () -> {
            for (int states = 1; states <= 8; states++) {
                FeatureClashes x = Made.plain(states, 2, 0);
                Sentences.dueRange(0, states - 1, BAD_INDEX, v -> x.removeArrow(v, 1));
            }
        });
        Sentences.says(4, "`letter`: a letter", () -> {
            for (int letters = 1; letters <= 4; letters++) {
                FeatureClashes x = Made.plain(2, letters, 0);
                Sentences.dueRange(0, letters - 1, BAD_INDEX, v -> x.removeArrow(1, v));
            }
        });
    }

    private static void removeArrowAnswers() {
        Sentences.says(4, "Returns 10 * the state to which it led + its output", () -> {
            FeatureClashes x = Made.plain(8, 4, 0);
            for (int arrow = 0; arrow < 80; arrow++) {
                x.setArrow(7, 3, arrow / 10, arrow % 10);
                due(x.removeArrow(7, 3), arrow);
            }
        });
        Sentences.says(4, "BAD_INDEX", () -> {
            int[][] bad = {{-1, 0}, {8, 0}, {0, -1}, {0, 4}, {7, 4}, {8, 4}, {LEAST, MOST}};
            for (int[] at : bad) {
                Twins.dueRefused(Made.FULL, BAD_INDEX, x -> x.removeArrow(at[0], at[1]));
            }
            Twins.dueRefused(Made.SMALL, BAD_INDEX, x -> x.removeArrow(3, 0));
            Twins.dueRefused(Made.SMALL, BAD_INDEX, x -> x.removeArrow(0, 2));
        });
        Sentences.says(4, "NONE if there is no arrow", () -> {
            FeatureClashes x = new FeatureClashes();
            due(x.removeArrow(1, 1), NONE);
            x.setArrow(1, 1, 0, 0);
            due(x.removeArrow(1, 1), 0);
            due(x.removeArrow(1, 1), NONE);
            Twins.dueWithoutChange(Made.SMALL, NONE, y -> y.removeArrow(2, 1));
        });
    }
}
