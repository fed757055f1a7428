/** Promises 5 to 11: features and their changes. */
final class FeatureSentences {
    private static final int BAD_INDEX = Sentences.BAD_INDEX;
    private static final int BAD_VALUE = Sentences.BAD_VALUE;
    private static final int FULL = Sentences.FULL;
    private static final int NONE = Sentences.NONE;
    private static final int STOP = Sentences.STOP;
    private static final int LEAST = Sentences.LEAST;
    private static final int MOST = Sentences.MOST;

    /** Arguments feature, state and letter, of which one or more are wrong for a full object. */
    private static final int[][] BAD_PLACES = {{-1, 0, 0}, {6, 0, 0}, {0, -1, 0}, {0, 8, 0}, {0, 0, -1}, {0, 0, 4},
        {5, 7, 4}, {5, 8, 3}, {6, 7, 3}, {LEAST, MOST, LEAST}, {MOST, LEAST, MOST}};

    /** The same for a small one, though a full one has them. */
    private static final int[][] BAD_IN_SMALL = {{3, 0, 0}, {0, 3, 0}, {0, 0, 2}};

    private FeatureSentences() {
    }

    static void run() {
        addFeature();
        change();
        changeArguments();
        changeAnswers();
        changeToNone();
        changeToNoneAnswers();
        unchange();
        unchangeAnswers();
        setOn();
        features();
        changes();
    }

    private static void due(long got, long want) {
        Sentences.due(got, want);
    }

    private static void addFeature() {
        Sentences.says(5, "Makes a feature without changes.", () -> {
            FeatureClashes x = Made.plain(8, 4, 6);
            for (int f = 0; f < 6; f++) {
                for (int cell = 0; cell < 32; cell++) {
                    x.change(f, cell / 4, cell % 4, 7, 9);
                }
            }
            // The features that were there once leave no changes behind.
            x.begin(8, 4);
            for (int f = 0; f < 6; f++) {
                x.addFeature();
                due(x.changes(f), 0);
                due(x.unchange(f, 0, 0), NONE);
                due(x.unchange(f, 7, 3), NONE);
            }
            due(x.effect(0), NONE);
        });
        Sentences.says(5, "Returns its number", () -> {
            FeatureClashes x = new FeatureClashes();
            for (int f = 0; f < 6; f++) {
                due(x.changes(f), BAD_INDEX);
                due(x.addFeature(), f);
                due(x.changes(f), 0);
            }
            x.begin(1, 1);
            due(x.addFeature(), 0);
            x.setOn(0, false);
            due(x.addFeature(), 1);
        });
        Sentences.says(5, "FULL if there are 6 features", () -> {
            Twins.dueRefused(Made.FULL, FULL, x -> x.addFeature());
            FeatureClashes x = Made.plain(2, 2, 5);
            due(x.addFeature(), 5);
            due(x.addFeature(), FULL);
            due(x.addFeature(), FULL);
            // Features that are off take room too.
            Made.turnAll(x, false);
            due(x.addFeature(), FULL);
            due(x.features(), 6);
            due(x.changes(6), BAD_INDEX);
            x.begin(2, 2);
            due(x.addFeature(), 0);
        });
    }

    private static void change() {
        Sentences.says(6, "Lets a feature set an arrow, in place of a change of this arrow that it has.", () -> {
            FeatureClashes x = Made.plain(3, 2, 2);
            x.setArrow(2, 0, 2, 7);
            x.add(0);
            x.add(0);
            due(x.answer(0, 0), STOP);
            due(x.change(0, 0, 0, 2, 4), 1);
            due(x.answer(0, 0), 4);
            due(x.answer(0, 1), 7);
            due(x.change(0, 0, 0, 0, 5), 1);
            due(x.answer(0, 0), 5);
            due(x.answer(0, 1), 5);
            due(x.changeToNone(0, 0, 0), 1);
            due(x.change(0, 0, 0, 2, 6), 1);
            due(x.answer(0, 0), 6);
            due(x.answer(0, 1), 7);
            // Neither the base machine nor another feature has it.
            due(x.answer(-1, 0), STOP);
            due(x.answer(1, 0), STOP);
            due(x.changes(1), 0);
            due(x.removeArrow(0, 0), NONE);
        });
    }

    private static void changeArguments() {
        Sentences.says(6, "`feature`: a feature", () -> {
            for (int count = 1; count <= 6; count++) {
                FeatureClashes x = Made.plain(2, 2, count);
                x.setOn(0, false);
                Sentences.dueRange(0, count - 1, BAD_INDEX, v -> x.change(v, 1, 1, 1, 1));
            }
            due(new FeatureClashes().change(0, 0, 0, 0, 0), BAD_INDEX);
        });
        Sentences.says(6, "`state`: a state", () -> {
            for (int states = 1; states <= 8; states++) {
                FeatureClashes x = Made.plain(states, 2, 1);
                Sentences.dueRange(0, states - 1, BAD_INDEX, v -> x.change(0, v, 1, 0, 0));
            }
        });
        Sentences.says(6, "`letter`: a letter", () -> {
            for (int letters = 1; letters <= 4; letters++) {
                FeatureClashes x = Made.plain(2, letters, 1);
                Sentences.dueRange(0, letters - 1, BAD_INDEX, v -> x.change(0, 1, v, 0, 0));
            }
        });
        Sentences.says(6, "`to`: a state", () -> {
            for (int states = 1; states <= 8; states++) {
                FeatureClashes x = Made.plain(states, 2, 1);
                Sentences.dueRange(0, states - 1, BAD_INDEX, v -> x.change(0, 0, 0, v, 0));
            }
        });
        Sentences.says(6, "`output`: 0 to 9", () -> {
            FeatureClashes x = Made.plain(2, 2, 1);
            Sentences.dueRange(0, 9, BAD_VALUE, v -> x.change(0, 1, 1, 1, v));
            x.add(0);
            for (int output = 0; output <= 9; output++) {
                x.change(0, 0, 0, 1, output);
                due(x.answer(0, 0), output);
            }
        });
    }

    private static void changeAnswers() {
        Sentences.says(6, "Returns the number of its changes then", () -> {
            FeatureClashes x = Made.plain(8, 4, 2);
            for (int cell = 0; cell < 32; cell++) {
                due(x.change(1, cell / 4, cell % 4, 7, 9), cell + 1);
            }
            due(x.change(1, 0, 0, 0, 0), 32);
            due(x.change(1, 7, 3, 0, 0), 32);
            due(x.change(0, 7, 3, 0, 0), 1);
            // A change that sets the arrow as it is counts too.
            x.setArrow(0, 0, 3, 3);
            due(x.change(0, 0, 0, 3, 3), 2);
        });
        Sentences.says(6, "BAD_INDEX (also for to)", () -> {
            for (int[] at : BAD_PLACES) {
                Twins.dueRefused(Made.FULL, BAD_INDEX, x -> x.change(at[0], at[1], at[2], 7, 9));
                // Ahead of BAD_VALUE.
                Twins.dueRefused(Made.FULL, BAD_INDEX, x -> x.change(at[0], at[1], at[2], 7, 10));
            }
            for (int to : new int[] {-1, 8, LEAST, MOST}) {
                Twins.dueRefused(Made.FULL, BAD_INDEX, x -> x.change(5, 7, 3, to, 9));
                Twins.dueRefused(Made.FULL, BAD_INDEX, x -> x.change(5, 7, 3, to, 10));
                Twins.dueRefused(Made.FULL, BAD_INDEX, x -> x.change(5, 7, 3, to, -1));
            }
            for (int[] at : BAD_IN_SMALL) {
                Twins.dueRefused(Made.SMALL, BAD_INDEX, x -> x.change(at[0], at[1], at[2], 0, 0));
            }
            Twins.dueRefused(Made.SMALL, BAD_INDEX, x -> x.change(0, 0, 0, 3, 0));
        });
        Sentences.says(6, "BAD_VALUE", () -> {
            for (int output : new int[] {-1, 10, LEAST, MOST}) {
                Twins.dueRefused(Made.FULL, BAD_VALUE, x -> x.change(0, 0, 0, 0, output));
                Twins.dueRefused(Made.FULL, BAD_VALUE, x -> x.change(5, 7, 3, 7, output));
            }
        });
    }

    private static void changeToNone() {
        Sentences.says(7, "Lets a feature remove an arrow, in place of a change of this arrow that it has.", () -> {
            FeatureClashes x = Made.plain(2, 2, 2);
            x.setArrow(0, 0, 0, 4);
            x.add(0);
            due(x.changeToNone(0, 0, 0), 1);
            due(x.answer(0, 0), STOP);
            due(x.change(0, 0, 0, 1, 5), 1);
            due(x.changeToNone(0, 0, 0), 1);
            due(x.answer(0, 0), STOP);
            due(x.changeToNone(0, 0, 0), 1);
            // Neither the base machine nor another feature loses it.
            due(x.answer(-1, 0), 4);
            due(x.answer(1, 0), 4);
            due(x.changes(1), 0);
            due(x.removeArrow(0, 0), 4);
        });
        Sentences.says(7, "`feature`: a feature", () -> {
            for (int count = 1; count <= 6; count++) {
                FeatureClashes x = Made.plain(2, 2, count);
                x.setOn(0, false);
                Sentences.dueRange(0, count - 1, BAD_INDEX, v -> x.changeToNone(v, 1, 1));
            }
            due(new FeatureClashes().changeToNone(0, 0, 0), BAD_INDEX);
        });
        Sentences.says(7, "`state`: a state", () -> {
            for (int states = 1; states <= 8; states++) {
                FeatureClashes x = Made.plain(states, 2, 1);
                Sentences.dueRange(0, states - 1, BAD_INDEX, v -> x.changeToNone(0, v, 1));
            }
        });
        Sentences.says(7, "`letter`: a letter", () -> {
            for (int letters = 1; letters <= 4; letters++) {
                FeatureClashes x = Made.plain(2, letters, 1);
                Sentences.dueRange(0, letters - 1, BAD_INDEX, v -> x.changeToNone(0, 1, v));
            }
        });
    }

    private static void changeToNoneAnswers() {
        Sentences.says(7, "Returns the number of its changes then", () -> {
            FeatureClashes x = Made.plain(8, 4, 2);
            for (int cell = 0; cell < 32; cell++) {
                due(x.changeToNone(1, cell / 4, cell % 4), cell + 1);
            }
            due(x.changeToNone(1, 7, 3), 32);
            due(x.changeToNone(0, 7, 3), 1);
            due(x.changeToNone(0, 7, 3), 1);
        });
        Sentences.says(7, "BAD_INDEX", () -> {
            for (int[] at : BAD_PLACES) {
                Twins.dueRefused(Made.FULL, BAD_INDEX, x -> x.changeToNone(at[0], at[1], at[2]));
            }
            for (int[] at : BAD_IN_SMALL) {
                Twins.dueRefused(Made.SMALL, BAD_INDEX, x -> x.changeToNone(at[0], at[1], at[2]));
            }
        });
    }

    private static void unchange() {
        Sentences.says(8, "Takes a change back: the feature does not change this arrow any more.", () -> {
            FeatureClashes x = Made.plain(2, 2, 2);
            x.setArrow(0, 0, 0, 4);
            x.add(0);
            x.change(0, 0, 0, 1, 5);
            x.change(1, 0, 0, 1, 6);
            due(x.unchange(0, 0, 0), 0);
            due(x.answer(0, 0), 4);
            due(x.clash(0, 1), 0);
            due(x.answer(1, 0), 6);
            x.changeToNone(0, 0, 0);
            due(x.answer(0, 0), STOP);
            due(x.unchange(0, 0, 0), 0);
            due(x.answer(0, 0), 4);
            // It is not the base machine's arrow of that time: what is set there later is seen.
            x.setArrow(0, 0, 0, 8);
            due(x.answer(0, 0), 8);
        });
        Sentences.says(8, "`feature`: a feature", () -> {
            for (int count = 1; count <= 6; count++) {
                FeatureClashes x = Made.plain(2, 2, count);
                x.setOn(0, false);
                Sentences.dueRange(0, count - 1, BAD_INDEX, v -> x.unchange(v, 1, 1));
            }
            due(new FeatureClashes().unchange(0, 0, 0), BAD_INDEX);
        });
        Sentences.says(8, "`state`: a state", () -> {
            for (int states = 1; states <= 8; states++) {
                FeatureClashes x = Made.plain(states, 2, 1);
                Sentences.dueRange(0, states - 1, BAD_INDEX, v -> x.unchange(0, v, 1));
            }
        });
        Sentences.says(8, "`letter`: a letter", () -> {
            for (int letters = 1; letters <= 4; letters++) {
                FeatureClashes x = Made.plain(2, letters, 1);
                Sentences.dueRange(0, letters - 1, BAD_INDEX, v -> x.unchange(0, 1, v));
            }
        });
    }

    private static void unchangeAnswers() {
        Sentences.says(8, "Returns the number of its changes then", () -> {
            FeatureClashes x = Made.plain(8, 4, 2);
            for (int cell = 0; cell < 32; cell++) {
                x.changeToNone(1, cell / 4, cell % 4);
            }
            for (int cell = 31; cell >= 0; cell--) {
                due(x.unchange(1, cell / 4, cell % 4), cell);
            }
        });
        Sentences.says(8, "BAD_INDEX", () -> {
            for (int[] at : BAD_PLACES) {
                Twins.dueRefused(Made.FULL, BAD_INDEX, x -> x.unchange(at[0], at[1], at[2]));
            }
            for (int[] at : BAD_IN_SMALL) {
                Twins.dueRefused(Made.SMALL, BAD_INDEX, x -> x.unchange(at[0], at[1], at[2]));
            }
        });
        Sentences.says(8, "NONE if it does not change it", () -> {
            FeatureClashes x = Made.plain(2, 2, 2);
            x.setArrow(0, 0, 0, 0);
            due(x.unchange(0, 0, 0), NONE);
            x.change(0, 0, 0, 0, 0);
            due(x.unchange(1, 0, 0), NONE);
            due(x.unchange(0, 0, 1), NONE);
            due(x.unchange(0, 1, 0), NONE);
            due(x.unchange(0, 0, 0), 0);
            due(x.unchange(0, 0, 0), NONE);
            Twins.dueWithoutChange(Made.FULL, NONE, y -> y.unchange(0, 7, 3));
        });
    }

    private static void setOn() {
        Sentences.says(9, "`feature`: a feature", () -> {
            for (int count = 1; count <= 6; count++) {
                FeatureClashes x = Made.plain(2, 2, count);
                Sentences.dueRange(0, count - 1, BAD_INDEX, v -> x.setOn(v, false));
                Sentences.dueRange(0, count - 1, BAD_INDEX, v -> x.setOn(v, true));
            }
            due(new FeatureClashes().setOn(0, true), BAD_INDEX);
        });
        Sentences.says(9, "`on`: whether it is on from now on", () -> {
            FeatureClashes x = Made.rivals(6);
            x.add(0);
            due(x.answer(-2, 0), 5);
            x.setOn(5, false);
            due(x.answer(-2, 0), 4);
            due(x.orders(), 120);
            x.setOn(5, false);
            due(x.orders(), 120);
            x.setOn(0, false);
            due(x.orders(), 24);
            x.setOn(5, true);
            due(x.orders(), 120);
            due(x.answer(-2, 0), 5);
            x.setOn(5, true);
            due(x.orders(), 120);
            // Its changes stay.
            due(x.changes(0), 1);
        });
        Sentences.says(9, "Returns 1 if it was on before, 0 if not", () -> {
            FeatureClashes x = Made.plain(1, 1, 6);
            for (int f = 0; f < 6; f++) {
                due(x.setOn(f, true), 1);
                due(x.setOn(f, false), 1);
                due(x.setOn(f, false), 0);
            }
            for (int f = 0; f < 6; f++) {
                due(x.setOn(f, true), 0);
                due(x.setOn(f, true), 1);
            }
        });
        Sentences.says(9, "BAD_INDEX", () -> {
            for (int f : new int[] {-1, 6, LEAST, MOST}) {
                Twins.dueRefused(Made.FULL, BAD_INDEX, x -> x.setOn(f, false));
                Twins.dueRefused(Made.FULL, BAD_INDEX, x -> x.setOn(f, true));
            }
            Twins.dueRefused(Made.SMALL, BAD_INDEX, x -> x.setOn(3, true));
            // It is on at first, whatever was said of it before it was made.
            FeatureClashes x = Made.plain(1, 1, 1);
            x.setOn(1, false);
            x.addFeature();
            due(x.setOn(1, true), 1);
        });
    }

    private static void features() {
        Sentences.says(10, "Returns the number of features", () -> {
            FeatureClashes x = new FeatureClashes();
            for (int count = 0; count < 6; count++) {
                due(x.features(), count);
                x.addFeature();
            }
            due(x.features(), 6);
            x.addFeature();
            due(x.features(), 6);
            Made.turnAll(x, false);
            due(x.features(), 6);
            x.begin(2, 2);
            due(x.features(), 0);
            Twins.dueWithoutChange(Made.FULL, 6, y -> y.features());
        });
    }

    private static void changes() {
        Sentences.says(11, "`feature`: a feature", () -> {
            for (int count = 1; count <= 6; count++) {
                FeatureClashes x = Made.plain(2, 2, count);
                x.setOn(count - 1, false);
                Sentences.dueRange(0, count - 1, BAD_INDEX, x::changes);
            }
        });
        Sentences.says(11, "Returns the number of its changes", () -> {
            FeatureClashes x = Made.plain(8, 4, 6);
            for (int cell = 0; cell < 32; cell++) {
                due(x.changes(5), cell);
                x.change(5, cell / 4, cell % 4, 0, 0);
            }
            due(x.changes(5), 32);
            x.changeToNone(5, 0, 0);
            due(x.changes(5), 32);
            x.unchange(5, 0, 0);
            due(x.changes(5), 31);
            due(x.changes(4), 0);
            x.clearText();
            x.read(5);
            due(x.changes(5), 0);
        });
        Sentences.says(11, "BAD_INDEX", () -> {
            for (int f : new int[] {-1, 6, LEAST, MOST}) {
                Twins.dueRefused(Made.FULL, BAD_INDEX, x -> x.changes(f));
            }
            Twins.dueRefused(Made.SMALL, BAD_INDEX, x -> x.changes(3));
            due(new FeatureClashes().changes(0), BAD_INDEX);
        });
    }
}
