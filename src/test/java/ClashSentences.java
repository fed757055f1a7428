/** Promises 16 to 20: clashes, witnesses, results, reach. */
final class ClashSentences {
    private static final int BAD_INDEX = Sentences.BAD_INDEX;
    private static final int NONE = Sentences.NONE;
    private static final int LEAST = Sentences.LEAST;
    private static final int MOST = Sentences.MOST;

    /** Pairs of arguments that are not two features of a full object. */
    private static final int[][] BAD_PAIRS = {{-1, 0}, {0, -1}, {6, 0}, {0, 6}, {6, 5}, {5, 6}, {-1, -1}, {6, 6},
        {0, 0}, {5, 5}, {LEAST, MOST}, {MOST, LEAST}, {32, 1}, {1, 32}};

    private ClashSentences() {
    }

    static void run() {
        clash();
        clashAnswers();
        witness();
        witnessLetters();
        witnessErrors();
        clashes();
        results();
        resultsAlike();
        reach();
        reachAnswers();
    }

    private static void due(long got, long want) {
        Sentences.due(got, want);
    }

    private static void clash() {
        Sentences.says(16, "`feature`: a feature", () -> {
            for (int count = 3; count <= 6; count++) {
                FeatureClashes x = Made.rivals(count);
                x.setOn(0, false);
                Sentences.dueRange(0, count - 1, BAD_INDEX, v -> x.clash(v, 1));
            }
        });
        Sentences.says(16, "`other`: another feature", () -> {
            for (int count = 3; count <= 6; count++) {
                FeatureClashes x = Made.rivals(count);
                x.setOn(0, false);
                Sentences.dueRange(0, count - 1, BAD_INDEX, v -> x.clash(1, v));
                for (int f = 0; f < count; f++) {
                    due(x.clash(f, f), BAD_INDEX);
                }
            }
        });
    }

    private static void clashAnswers() {
        Sentences.says(16, "Returns 1 if both clash, 0 if not", () -> {
            FeatureClashes x = Made.plain(2, 2, 6);
            x.setArrow(0, 0, 1, 0);
            // Features without changes do not clash.
            due(x.clash(0, 5), 0);
            due(x.clash(5, 0), 0);
            x.change(0, 1, 1, 0, 0);
            due(x.clash(0, 5), 0);
            x.change(5, 1, 1, 0, 9);
            due(x.clash(0, 5), 1);
            due(x.clash(5, 0), 1);
            x.change(5, 1, 1, 0, 0);
            due(x.clash(0, 5), 0);
            x.changeToNone(5, 1, 1);
            due(x.clash(0, 5), 1);
            x.changeToNone(0, 1, 1);
            due(x.clash(0, 5), 0);
            Twins.dueWithoutChange(Made.FULL, 1, y -> y.clash(4, 0));
            Twins.dueWithoutChange(Made.FULL, 0, y -> y.clash(5, 0));
        });
        Sentences.says(16, "BAD_INDEX, also if they are the same", () -> {
            for (int[] pair : BAD_PAIRS) {
                Twins.dueRefused(Made.FULL, BAD_INDEX, x -> x.clash(pair[0], pair[1]));
            }
            Twins.dueRefused(Made.SMALL, BAD_INDEX, x -> x.clash(0, 3));
            Twins.dueRefused(Made.SMALL, BAD_INDEX, x -> x.clash(3, 0));
            Twins.dueRefused(Made.SMALL, BAD_INDEX, x -> x.clash(2, 2));
            due(new FeatureClashes().clash(0, 1), BAD_INDEX);
            due(Made.plain(2, 2, 1).clash(0, 0), BAD_INDEX);
        });
    }

    private static void witness() {
        Sentences.says(17, "`feature`: a feature", () -> {
            for (int count = 3; count <= 6; count++) {
                FeatureClashes x = Made.rivals(count);
                x.setOn(0, false);
                Sentences.dueRange(0, count - 1, BAD_INDEX, v -> x.witness(v, 1, 0));
            }
        });
        Sentences.says(17, "`other`: another feature", () -> {
            for (int count = 3; count <= 6; count++) {
                FeatureClashes x = Made.rivals(count);
                x.setOn(0, false);
                Sentences.dueRange(0, count - 1, BAD_INDEX, v -> x.witness(1, v, 0));
                due(x.witness(1, 1, 0), BAD_INDEX);
            }
        });
        Sentences.says(17, "`index`: the index of a letter in the witness of their clash, counted from 0", () -> {
            // The one word that comes to the arrow in which both differ is "dcba".
            FeatureClashes x = Made.plain(4, 4, 2);
            for (int state = 0; state < 3; state++) {
                x.setArrow(state, 3 - state, state + 1, 0);
            }
            x.change(0, 3, 0, 0, 1);
            x.changeToNone(1, 3, 0);
            for (int index = 0; index < 4; index++) {
                due(x.witness(0, 1, index), 3 - index);
                due(x.witness(1, 0, index), 3 - index);
            }
            due(x.witness(0, 1, 4), NONE);
            due(x.witness(0, 1, -1), BAD_INDEX);
        });
    }

    private static void witnessLetters() {
        Sentences.says(17, "Returns the letter", () -> {
            for (int letter = 0; letter < 4; letter++) {
                FeatureClashes x = Made.plain(1, 4, 2);
                x.change(0, 0, letter, 0, 0);
                x.change(1, 0, letter, 0, 9);
                due(x.witness(0, 1, 0), letter);
                due(x.witness(1, 0, 0), letter);
                due(x.witness(0, 1, 1), NONE);
            }
            // Both machines answer alike for long: the one stays in state 7, the other one goes round.
            FeatureClashes y = Made.plain(8, 2, 2);
            for (int state = 0; state < 7; state++) {
                y.setArrow(state, 0, state + 1, 0);
            }
            y.setArrow(6, 1, 6, 1);
            y.change(0, 7, 0, 7, 0);
            y.change(1, 7, 0, 0, 0);
            for (int index = 0; index < 14; index++) {
                due(y.witness(0, 1, index), 0);
            }
            due(y.witness(0, 1, 14), 1);
            due(y.witness(0, 1, 15), NONE);
            Twins.dueWithoutChange(Made.SMALL, 0, z -> z.witness(1, 0, 0));
        });
    }

    private static void witnessErrors() {
        Sentences.says(17, "BAD_INDEX if there are no such features, or they are the same, or index is negative",
            () -> {
                for (int[] pair : BAD_PAIRS) {
                    Twins.dueRefused(Made.FULL, BAD_INDEX, x -> x.witness(pair[0], pair[1], 0));
                    // Ahead of NONE.
                    Twins.dueRefused(Made.FULL, BAD_INDEX, x -> x.witness(pair[0], pair[1], MOST));
                }
                for (int index : new int[] {-1, -5, LEAST}) {
                    Twins.dueRefused(Made.FULL, BAD_INDEX, x -> x.witness(0, 5, index));
                    // Both do not clash here.
                    Twins.dueRefused(Made.SMALL, BAD_INDEX, x -> x.witness(0, 2, index));
                }
            });
        Sentences.says(17, "NONE if they do not clash, or the witness is not so long", () -> {
            FeatureClashes x = Made.plain(2, 2, 2);
            due(x.witness(0, 1, 0), NONE);
            due(x.witness(0, 1, MOST), NONE);
            x.setArrow(0, 0, 1, 0);
            x.change(0, 1, 0, 0, 1);
            x.change(1, 1, 0, 0, 2);
            due(x.witness(0, 1, 1), 0);
            due(x.witness(0, 1, 2), NONE);
            due(x.witness(0, 1, 64), NONE);
            due(x.witness(0, 1, MOST), NONE);
            // The letters of an earlier, longer witness are not seen.
            x.change(0, 0, 1, 0, 1);
            x.change(1, 0, 1, 0, 2);
            due(x.witness(0, 1, 0), 1);
            due(x.witness(0, 1, 1), NONE);
            x.change(0, 0, 1, 0, 2);
            x.change(0, 1, 0, 0, 2);
            due(x.witness(0, 1, 0), NONE);
        });
    }

    private static void clashes() {
        Sentences.says(18, "Returns the number of pairs of features that are on and clash", () -> {
            due(new FeatureClashes().clashes(), 0);
            due(Made.rivals(1).clashes(), 0);
            due(Made.rivals(2).clashes(), 1);
            due(Made.plain(8, 4, 6).clashes(), 0);
            FeatureClashes x = Made.rivals(6);
            due(x.clashes(), 15);
            // Priorities make no difference.
            due(x.resolve(), 15);
            due(x.clashes(), 15);
            int[] left = {10, 6, 3, 1, 0, 0};
            for (int f = 0; f < 6; f++) {
                x.setOn(f, false);
                due(x.clashes(), left[f]);
            }
            x.setOn(0, true);
            x.setOn(5, true);
            due(x.clashes(), 1);
            x.change(5, 0, 0, 0, 0);
            due(x.clashes(), 0);
        });
    }

    private static void results() {
        Sentences.says(19, "Counts the results that the orders of the features can have: of all orders of the "
            + "features that are on, whatever the priorities are, the greatest number of which no two give machines "
            + "that are alike.", () -> {
                FeatureClashes x = Made.rivals(6);
                due(x.results(), 6);
                due(x.resolve(), 15);
                due(x.orders(), 1);
                due(x.results(), 6);
                x.setOn(0, false);
                due(x.results(), 5);
                x.setOn(5, false);
                due(x.results(), 4);
                FeatureClashes y = Made.allOrdersDiffer();
                int[] factorials = {1, 1, 2, 6, 24, 120, 720};
                due(y.results(), 720);
                due(y.resolve(), 15);
                due(y.results(), 720);
                for (int f = 5; f >= 0; f--) {
                    y.setOn(f, false);
                    due(y.results(), factorials[f]);
                }
            });
    }

    private static void resultsAlike() {
        Sentences.says(19, "Returns this number (1 if no feature is on)", () -> {
            due(new FeatureClashes().results(), 1);
            due(Made.plain(8, 4, 6).results(), 1);
            FeatureClashes off = Made.rivals(6);
            Made.turnAll(off, false);
            due(off.results(), 1);
            off.setOn(3, true);
            due(off.results(), 1);
            off.setOn(4, true);
            due(off.results(), 2);
            // Machines that differ in their arrows, not in their answers, are one result.
            FeatureClashes x = Made.plain(3, 2, 2);
            x.change(0, 0, 0, 1, 0);
            x.change(1, 0, 0, 2, 0);
            due(x.results(), 1);
            x.setArrow(1, 1, 0, 0);
            due(x.results(), 2);
            x.setArrow(2, 1, 0, 0);
            due(x.results(), 1);
            // A change where no word comes makes none.
            FeatureClashes y = Made.plain(2, 1, 2);
            y.change(0, 1, 0, 0, 1);
            y.change(1, 1, 0, 0, 2);
            due(y.results(), 1);
            y.setArrow(0, 0, 1, 0);
            due(y.results(), 2);
            Twins.dueWithoutChange(Made.SMALL, 2, z -> z.results());
        });
    }

    private static void reach() {
        Sentences.says(20, "`feature`: a feature", () -> {
            for (int count = 1; count <= 6; count++) {
                FeatureClashes x = Made.plain(2, 2, count);
                x.setOn(0, false);
                Sentences.dueRange(0, count - 1, BAD_INDEX, x::reach);
            }
        });
        Sentences.says(20, "BAD_INDEX", () -> {
            for (int f : new int[] {-1, 6, LEAST, MOST}) {
                Twins.dueRefused(Made.FULL, BAD_INDEX, x -> x.reach(f));
            }
            Twins.dueRefused(Made.SMALL, BAD_INDEX, x -> x.reach(3));
            due(new FeatureClashes().reach(0), BAD_INDEX);
        });
    }

    private static void reachAnswers() {
        Sentences.says(20, "Returns the number of its changes whose state can be reached from state 0 in the base "
            + "machine, or in the base machine with this feature alone put on it (state 0 can always be reached)",
            () -> {
                FeatureClashes x = Made.plain(8, 4, 2);
                due(x.reach(0), 0);
                // State 0 is reached without any arrow, the others are not.
                for (int cell = 0; cell < 32; cell++) {
                    x.changeToNone(0, cell / 4, cell % 4);
                }
                due(x.reach(0), 4);
                // In the base machine alone: the feature takes each of these arrows off.
                for (int state = 1; state < 8; state++) {
                    x.setArrow(state == 1 ? 0 : 9 - state, 3, 8 - state, 0);
                    due(x.reach(0), 4 * (state + 1));
                }
                due(x.reach(0), 32);
                // With the feature alone: there is no such arrow in the base machine.
                FeatureClashes y = Made.plain(8, 1, 2);
                for (int state = 0; state < 8; state++) {
                    y.change(0, state, 0, (state + 7) % 8, 0);
                }
                due(y.reach(0), 8);
                // Reached by a part of the way in each of both machines is not reached.
                FeatureClashes z = Made.plain(4, 2, 2);
                z.setArrow(0, 0, 1, 0);
                z.changeToNone(0, 0, 0);
                z.change(0, 1, 0, 2, 0);
                z.change(0, 2, 0, 3, 0);
                due(z.reach(0), 2);
                // Another feature's arrows count not, nor does it whether it is on.
                z.change(1, 0, 1, 2, 0);
                due(z.reach(0), 2);
                z.setOn(0, false);
                due(z.reach(0), 2);
                due(z.reach(1), 1);
            });
    }
}
