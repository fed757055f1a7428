/** Promises 21 to 28: priorities, orders, what is open and what is resolved. */
final class PrioritySentences {
    private static final int BAD_INDEX = Sentences.BAD_INDEX;
    private static final int NOT_POSSIBLE = Sentences.NOT_POSSIBLE;
    private static final int NONE = Sentences.NONE;
    private static final int LEAST = Sentences.LEAST;
    private static final int MOST = Sentences.MOST;
    private static final int[] FACTORIALS = {1, 1, 2, 6, 24, 120, 720};

    private PrioritySentences() {
    }

    static void run() {
        setBefore();
        setBeforeAnswers();
        setBeforeErrors();
        clearPriorities();
        isBefore();
        orders();
        resolved();
        resolvedAnswers();
        open();
        isResolved();
        resolve();
        resolveAnswers();
    }

    private static void due(long got, long want) {
        Sentences.due(got, want);
    }

    private static void dueOrder(FeatureClashes x, int... order) {
        for (int place = 0; place < order.length; place++) {
            due(x.resolved(place), order[place]);
        }
        due(x.resolved(order.length), NONE);
    }

    private static void setBefore() {
        Sentences.says(21, "Tells a priority.", () -> {
            FeatureClashes x = Made.rivals(3);
            x.add(0);
            due(x.answer(-2, 0), 2);
            due(x.setBefore(2, 0), 1);
            due(x.isBefore(2, 0), 1);
            due(x.isBefore(0, 2), 0);
            due(x.answer(-2, 0), 0);
            dueOrder(x, 1, 2, 0);
            due(x.setBefore(0, 1), 3);
            dueOrder(x, 2, 0, 1);
            due(x.answer(-2, 0), 1);
        });
        Sentences.says(21, "(It may be told already.)", () -> {
            FeatureClashes x = Made.plain(1, 1, 4);
            due(x.setBefore(3, 1), 1);
            due(x.setBefore(3, 1), 1);
            due(x.setBefore(1, 0), 3);
            due(x.setBefore(1, 0), 3);
            // Also by way of another one.
            due(x.setBefore(3, 0), 3);
            due(x.setBefore(3, 0), 3);
            due(x.clearPriorities(), 3);
        });
        Sentences.says(21, "`first`: a feature", () -> {
            for (int count = 3; count <= 6; count++) {
                FeatureClashes x = Made.plain(1, 1, count);
                x.setOn(0, false);
                Sentences.dueRange(0, count - 1, BAD_INDEX, v -> x.setBefore(v, 1));
            }
        });
        Sentences.says(21, "`second`: another feature", () -> {
            for (int count = 3; count <= 6; count++) {
                FeatureClashes x = Made.plain(1, 1, count);
                x.setOn(0, false);
                Sentences.dueRange(0, count - 1, BAD_INDEX, v -> x.setBefore(1, v));
                due(x.setBefore(1, 1), BAD_INDEX);
            }
        });
    }

    private static void setBeforeAnswers() {
        Sentences.says(21, "Returns the number of pairs of features of which one is before the other one then", () -> {
            FeatureClashes x = Made.plain(1, 1, 6);
            // Features that are off count too.
            x.setOn(2, false);
            int[] counts = {1, 3, 6, 10, 15};
            for (int f = 0; f < 5; f++) {
                due(x.setBefore(f, f + 1), counts[f]);
            }
            due(x.setBefore(0, 5), 15);
            x.clearPriorities();
            // Two chains of three are joined: each one of the first is before each one of the second.
            due(x.setBefore(5, 3), 1);
            due(x.setBefore(3, 1), 3);
            due(x.setBefore(4, 2), 4);
            due(x.setBefore(2, 0), 6);
            due(x.setBefore(1, 4), 15);
            x.clearPriorities();
            // In the middle of others: what is before the first one is before all behind the second one.
            due(x.setBefore(0, 2), 1);
            due(x.setBefore(1, 2), 2);
            due(x.setBefore(3, 4), 3);
            due(x.setBefore(3, 5), 4);
            due(x.setBefore(2, 3), 13);
        });
    }

    private static void setBeforeErrors() {
        Sentences.says(21, "BAD_INDEX, also if they are the same", () -> {
            int[][] bad = {{-1, 0}, {0, -1}, {6, 0}, {0, 6}, {0, 0}, {5, 5}, {6, 6}, {-1, -1}, {LEAST, MOST},
                {MOST, LEAST}, {32, 1}, {1, 32}};
            for (int[] pair : bad) {
                Twins.dueRefused(Made.FULL, BAD_INDEX, x -> x.setBefore(pair[0], pair[1]));
            }
            Twins.dueRefused(Made.SMALL, BAD_INDEX, x -> x.setBefore(3, 0));
            Twins.dueRefused(Made.SMALL, BAD_INDEX, x -> x.setBefore(0, 3));
            due(new FeatureClashes().setBefore(0, 1), BAD_INDEX);
            // Ahead of NOT_POSSIBLE: priorities of features that are no more are no reason.
            FeatureClashes x = Made.plain(1, 1, 2);
            x.setBefore(1, 0);
            x.begin(1, 1);
            x.addFeature();
            due(x.setBefore(0, 1), BAD_INDEX);
            x.addFeature();
            due(x.setBefore(0, 1), 1);
        });
        Sentences.says(21, "NOT_POSSIBLE if the second one is before the first one", () -> {
            // 4 before 2, 2 before 0.
            Twins.dueRefused(Made.FULL, NOT_POSSIBLE, x -> x.setBefore(2, 4));
            Twins.dueRefused(Made.FULL, NOT_POSSIBLE, x -> x.setBefore(0, 2));
            Twins.dueRefused(Made.FULL, NOT_POSSIBLE, x -> x.setBefore(0, 4));
            Twins.dueRefused(Made.SMALL, NOT_POSSIBLE, x -> x.setBefore(0, 1));
            FeatureClashes x = Made.plain(1, 1, 6);
            for (int f = 0; f < 5; f++) {
                x.setBefore(f, f + 1);
            }
            Made.turnAll(x, false);
            for (int f = 0; f < 6; f++) {
                for (int g = 0; g < 6; g++) {
                    due(x.setBefore(f, g), f < g ? 15 : f == g ? BAD_INDEX : NOT_POSSIBLE);
                }
            }
        });
    }

    private static void clearPriorities() {
        Sentences.says(22, "Removes all priorities.", () -> {
            FeatureClashes x = Made.rivals(6);
            due(x.resolve(), 15);
            x.setOn(4, false);
            x.clearPriorities();
            for (int f = 0; f < 6; f++) {
                for (int g = 0; g < 6; g++) {
                    due(x.isBefore(f, g), 0);
                }
            }
            due(x.orders(), 120);
            due(x.setBefore(5, 0), 1);
            x.setOn(4, true);
            due(x.open(), 14);
            // The features and their changes stay.
            due(x.features(), 6);
            due(x.clashes(), 15);
        });
        Sentences.says(22, "Returns the number of pairs of features of which one was before the other one", () -> {
            due(new FeatureClashes().clearPriorities(), 0);
            FeatureClashes x = Made.plain(1, 1, 6);
            due(x.clearPriorities(), 0);
            x.setBefore(5, 0);
            due(x.clearPriorities(), 1);
            due(x.clearPriorities(), 0);
            x.setBefore(0, 1);
            x.setBefore(1, 2);
            x.setOn(1, false);
            due(x.clearPriorities(), 3);
            for (int f = 5; f > 0; f--) {
                x.setBefore(f, f - 1);
            }
            Made.turnAll(x, false);
            due(x.clearPriorities(), 15);
        });
    }

    private static void isBefore() {
        Sentences.says(23, "`first`: a feature", () -> {
            for (int count = 1; count <= 6; count++) {
                FeatureClashes x = Made.plain(1, 1, count);
                x.setOn(count - 1, false);
                Sentences.dueRange(0, count - 1, BAD_INDEX, v -> x.isBefore(v, 0));
            }
        });
        Sentences.says(23, "`second`: a feature", () -> {
            for (int count = 1; count <= 6; count++) {
                FeatureClashes x = Made.plain(1, 1, count);
                x.setOn(count - 1, false);
                Sentences.dueRange(0, count - 1, BAD_INDEX, v -> x.isBefore(0, v));
                // A feature, not another one: they may be the same.
                due(x.isBefore(count - 1, count - 1), 0);
            }
        });
        Sentences.says(23, "Returns 1 if the first one is before the second one, 0 if not", () -> {
            FeatureClashes x = Made.plain(1, 1, 6);
            due(x.isBefore(0, 5), 0);
            for (int f = 5; f > 0; f--) {
                x.setBefore(f, f - 1);
            }
            for (int f = 0; f < 6; f++) {
                for (int g = 0; g < 6; g++) {
                    due(x.isBefore(f, g), f > g ? 1 : 0);
                }
            }
            Twins.dueWithoutChange(Made.FULL, 1, y -> y.isBefore(4, 0));
            Twins.dueWithoutChange(Made.FULL, 0, y -> y.isBefore(0, 4));
            Twins.dueWithoutChange(Made.FULL, 0, y -> y.isBefore(3, 5));
        });
        Sentences.says(23, "BAD_INDEX", () -> {
            int[][] bad = {{-1, 0}, {0, -1}, {6, 0}, {0, 6}, {6, 6}, {-1, -1}, {LEAST, MOST}, {32, 0}, {4, 32}};
            for (int[] pair : bad) {
                Twins.dueRefused(Made.FULL, BAD_INDEX, x -> x.isBefore(pair[0], pair[1]));
            }
            Twins.dueRefused(Made.SMALL, BAD_INDEX, x -> x.isBefore(3, 0));
            Twins.dueRefused(Made.SMALL, BAD_INDEX, x -> x.isBefore(0, 3));
            due(new FeatureClashes().isBefore(0, 0), BAD_INDEX);
        });
    }

    private static void orders() {
        Sentences.says(24, "Returns the number of orders that the priorities allow (1 if no feature is on)", () -> {
            FeatureClashes x = new FeatureClashes();
            for (int count = 0; count <= 6; count++) {
                due(x.orders(), FACTORIALS[count]);
                x.addFeature();
            }
            int[] left = {360, 120, 30, 6, 1};
            for (int f = 5; f > 0; f--) {
                x.setBefore(f, f - 1);
                due(x.orders(), left[5 - f]);
            }
            x.clearPriorities();
            for (int f = 0; f < 6; f++) {
                due(x.orders(), FACTORIALS[6 - f]);
                x.setOn(f, false);
            }
            due(x.orders(), 1);
            // Priorities of features that are off leave it at that.
            x.setBefore(0, 1);
            due(x.orders(), 1);
            x.setOn(5, true);
            due(x.orders(), 1);
            x.setOn(0, true);
            due(x.orders(), 2);
        });
    }

    private static void resolved() {
        Sentences.says(25, "`place`: the place in the resolved order, counted from 0", () -> {
            FeatureClashes x = Made.plain(1, 1, 6);
            for (int f = 5; f > 0; f--) {
                x.setBefore(f, f - 1);
            }
            dueOrder(x, 5, 4, 3, 2, 1, 0);
            x.setOn(5, false);
            x.setOn(2, false);
            dueOrder(x, 4, 3, 1, 0);
        });
        Sentences.says(25, "Returns the feature at this place", () -> {
            FeatureClashes x = Made.plain(1, 1, 6);
            dueOrder(x, 0, 1, 2, 3, 4, 5);
            x.setBefore(5, 0);
            dueOrder(x, 1, 2, 3, 4, 5, 0);
            x.setBefore(4, 1);
            dueOrder(x, 2, 3, 4, 1, 5, 0);
            x.setOn(4, false);
            dueOrder(x, 1, 2, 3, 5, 0);
            Twins.dueWithoutChange(Made.FULL, 1, y -> y.resolved(0));
        });
    }

    private static void resolvedAnswers() {
        Sentences.says(25, "BAD_INDEX if place is negative", () -> {
            for (int place : new int[] {-1, -2, LEAST}) {
                Twins.dueRefused(Made.FULL, BAD_INDEX, x -> x.resolved(place));
                // Ahead of NONE.
                due(new FeatureClashes().resolved(place), BAD_INDEX);
            }
            FeatureClashes x = Made.plain(1, 1, 3);
            due(x.resolved(0), 0);
        });
        Sentences.says(25, "NONE if it has not so many features", () -> {
            FeatureClashes x = new FeatureClashes();
            for (int count = 0; count <= 6; count++) {
                due(x.resolved(count), NONE);
                due(x.resolved(MOST), NONE);
                if (count > 0) {
                    due(x.resolved(count - 1), count - 1);
                }
                x.addFeature();
            }
            for (int f = 0; f < 6; f++) {
                x.setOn(f, false);
                due(x.resolved(5 - f), NONE);
            }
            due(x.resolved(0), NONE);
        });
    }

    private static void open() {
        Sentences.says(26, "Returns the number of pairs of features that are open", () -> {
            due(new FeatureClashes().open(), 0);
            due(Made.plain(8, 4, 6).open(), 0);
            FeatureClashes x = Made.rivals(6);
            due(x.open(), 15);
            int left = 15;
            for (int f = 0; f < 5; f++) {
                x.setBefore(f, f + 1);
                left -= f + 1;
                due(x.open(), left);
            }
            x.clearPriorities();
            int[] pairs = {10, 6, 3, 1, 0, 0};
            for (int f = 0; f < 6; f++) {
                x.setOn(f, false);
                due(x.open(), pairs[f]);
            }
            Twins.dueWithoutChange(Made.SMALL, 0, y -> y.open());
        });
    }

    private static void isResolved() {
        Sentences.says(27, "Returns 1 if all orders that the priorities allow give machines that are alike, 0 if not",
            () -> {
                due(new FeatureClashes().isResolved(), 1);
                due(Made.plain(8, 4, 6).isResolved(), 1);
                due(Made.rivals(1).isResolved(), 1);
                FeatureClashes x = Made.rivals(6);
                due(x.isResolved(), 0);
                // As soon as the last one is settled, though ten pairs are open.
                for (int f = 0; f < 5; f++) {
                    due(x.isResolved(), 0);
                    x.setBefore(f, 5);
                }
                due(x.isResolved(), 1);
                due(x.open(), 10);
                x.setOn(5, false);
                due(x.isResolved(), 0);
                Made.turnAll(x, false);
                due(x.isResolved(), 1);
                x.setOn(2, true);
                due(x.isResolved(), 1);
                x.setOn(3, true);
                due(x.isResolved(), 0);
                x.change(2, 0, 0, 0, 3);
                due(x.isResolved(), 1);
                // Six orders are left, and no two of them are alike; then one.
                FeatureClashes y = Made.allOrdersDiffer();
                for (int f = 5; f > 1; f--) {
                    y.setBefore(f, f - 1);
                }
                due(y.isResolved(), 0);
                y.setBefore(1, 0);
                due(y.isResolved(), 1);
                // No pair clashes, yet the third feature lets the order of the others be seen.
                FeatureClashes z = Made.plain(3, 2, 3);
                z.change(0, 2, 0, 2, 5);
                z.change(1, 2, 0, 0, 4);
                z.change(2, 0, 1, 2, 5);
                due(z.open(), 0);
                due(z.isResolved(), 0);
                z.setBefore(1, 0);
                due(z.isResolved(), 1);
                // A priority of features that change nothing in common does not settle what others do.
                FeatureClashes w = Made.plain(1, 2, 3);
                w.change(0, 0, 0, 0, 1);
                w.change(1, 0, 0, 0, 2);
                w.change(2, 0, 1, 0, 3);
                w.setBefore(2, 0);
                due(w.isResolved(), 0);
                w.setBefore(1, 2);
                due(w.isResolved(), 1);
            });
    }

    private static void resolve() {
        Sentences.says(28, "Tells priorities until no pair is open: as long as there is one, for the open pair with "
            + "the lowest feature, of several the one with the lowest other feature, the lower feature becomes one "
            + "before the higher one.", () -> {
                FeatureClashes x = Made.rivals(6);
                x.resolve();
                due(x.open(), 0);
                dueOrder(x, 0, 1, 2, 3, 4, 5);
                // 0 before 1 comes first, and with it 5 before 1: that pair is not open then.
                x.clearPriorities();
                x.setBefore(5, 0);
                due(x.resolve(), 10);
                due(x.open(), 0);
                dueOrder(x, 5, 0, 1, 2, 3, 4);
                // Of the pairs with 0 the one with 1 comes first: 3, which is behind 1, is not told.
                x.clearPriorities();
                x.setBefore(1, 3);
                due(x.resolve(), 13);
                dueOrder(x, 0, 1, 2, 3, 4, 5);
                // What is off, or does not clash, is left alone.
                x.clearPriorities();
                x.setOn(0, false);
                x.unchange(3, 0, 0);
                due(x.resolve(), 6);
                for (int f = 1; f < 6; f++) {
                    due(x.isBefore(0, f), 0);
                    due(x.isBefore(f, 0), 0);
                    due(x.isBefore(f, 3), 0);
                    due(x.isBefore(3, f), 0);
                }
                due(x.clearPriorities(), 6);
            });
    }

    private static void resolveAnswers() {
        Sentences.says(28, "Returns the number of priorities that were told by it", () -> {
            due(new FeatureClashes().resolve(), 0);
            due(Made.plain(8, 4, 6).resolve(), 0);
            due(Made.rivals(1).resolve(), 0);
            FeatureClashes x = Made.rivals(6);
            due(x.resolve(), 15);
            due(x.resolve(), 0);
            due(x.clearPriorities(), 15);
            // Pairs that are settled by way of others are not told: only 1 before 2 is.
            FeatureClashes y = Made.rivals(3);
            y.setBefore(0, 1);
            y.setBefore(0, 2);
            due(y.resolve(), 1);
            y.clearPriorities();
            y.setBefore(2, 0);
            due(y.resolve(), 1);
            due(y.clearPriorities(), 3);
            Made.turnAll(y, false);
            due(y.resolve(), 0);
            due(y.clearPriorities(), 0);
        });
    }
}
