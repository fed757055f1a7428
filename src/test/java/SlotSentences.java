import java.math.BigInteger;
import java.util.ArrayList;
import java.util.List;

/** Promises 33 to 35: the slots and the checksum. */
final class SlotSentences {
    private static final int BAD_INDEX = Sentences.BAD_INDEX;
    private static final int NOT_POSSIBLE = Sentences.NOT_POSSIBLE;
    private static final int NONE = Sentences.NONE;
    private static final int STOP = Sentences.STOP;
    private static final int LEAST = Sentences.LEAST;
    private static final int MOST = Sentences.MOST;

    /** More than any word has letters: a bound for a loop that a wrong answer would keep going. */
    private static final int MANY = 100;

    private SlotSentences() {
    }

    static void run() {
        save();
        saveAnswers();
        restore();
        restoreAnswers();
        checksum();
        checksumValues();
    }

    private static void due(long got, long want) {
        Sentences.due(got, want);
    }

    private static void save() {
        Sentences.says(33, "Saves the base machine with its numbers of states and letters, the features, which of them "
            + "are on, and the priorities, in place of what the slot keeps.", () -> {
                for (int slot = 0; slot < 2; slot++) {
                    FeatureClashes x = Made.FULL.get();
                    x.save(slot);
                    long sum = x.checksum();
                    int length = x.clearWord();
                    long sumWithoutWord = x.checksum();
                    x.begin(1, 1);
                    x.restore(slot);
                    due(x.checksum(), sumWithoutWord);
                    for (int i = 0; i < length; i++) {
                        x.add((i * i + i / 3) % 4);
                    }
                    due(x.checksum(), sum);
                    due(x.setOn(3, true), 0);
                    due(x.setOn(5, true), 1);
                    due(x.isBefore(4, 0), 1);
                    due(x.clearPriorities(), 3);
                    due(x.removeArrow(7, 3), 10 * (53 % 8) + 69 % 10);
                    // In place of it something smaller, which leaves nothing of it behind.
                    x.begin(1, 2);
                    x.addFeature();
                    x.save(slot);
                    x.begin(8, 4);
                    due(x.restore(slot), 1);
                    due(x.changes(0), 0);
                    due(x.setOn(0, true), 1);
                    due(x.removeArrow(0, 0), NONE);
                    due(x.clearPriorities(), 0);
                    due(x.begin(1, 1), 12);
                }
            });
        Sentences.says(33, "`slot`: 0 or 1", () -> {
            Sentences.dueRange(0, 1, BAD_INDEX, Made.rivals(2)::save);
            // Each slot keeps its own.
            FeatureClashes x = Made.rivals(2);
            x.save(0);
            due(x.restore(1), NOT_POSSIBLE);
            x.begin(3, 3);
            x.save(1);
            due(x.restore(0), 2);
            due(x.restore(1), 0);
            due(x.begin(2, 2), 33);
            x.save(0);
            due(x.restore(1), 0);
            due(x.begin(2, 2), 33);
        });
    }

    private static void saveAnswers() {
        Sentences.says(33, "Returns the number of features", () -> {
            FeatureClashes x = new FeatureClashes();
            for (int count = 0; count <= 6; count++) {
                due(x.save(count % 2), count);
                x.addFeature();
            }
            Made.turnAll(x, false);
            due(x.save(0), 6);
        });
        Sentences.says(33, "BAD_INDEX", () -> {
            for (int slot : new int[] {-1, 2, LEAST, MOST}) {
                Twins.dueRefused(Made.FULL, BAD_INDEX, x -> x.save(slot));
                Twins.dueRefused(Made.SMALL, BAD_INDEX, x -> x.save(slot));
            }
        });
    }

    private static void restore() {
        Sentences.says(34, "Makes the base machine, the features, which of them are on, and the priorities as they "
            + "were saved; the word becomes empty.", () -> {
                FeatureClashes x = Made.FULL.get();
                x.save(1);
                for (int cell = 0; cell < 32; cell++) {
                    x.removeArrow(cell / 4, cell % 4);
                }
                for (int f = 0; f < 6; f++) {
                    x.changeToNone(f, f, 0);
                    x.setOn(f, f == 3);
                }
                x.clearPriorities();
                x.setBefore(0, 4);
                due(x.restore(1), 6);
                due(x.answer(-1, 0), NONE);
                due(x.clearWord(), 0);
                FeatureClashes y = Made.FULL.get();
                y.clearWord();
                due(x.checksum(), y.checksum());
                for (int cell = 0; cell < 32; cell++) {
                    due(x.removeArrow(cell / 4, cell % 4), y.removeArrow(cell / 4, cell % 4));
                }
                for (int f = 0; f < 6; f++) {
                    due(x.setOn(f, true), f == 3 ? 0 : 1);
                }
                due(x.isBefore(4, 0), 1);
                due(x.isBefore(0, 4), 0);
                // The text stays.
                due(x.clearText(), 80);
                // Features that were made later are gone, and made anew they have no changes.
                due(x.restore(0), 3);
                due(x.changes(3), BAD_INDEX);
                due(x.setOn(1, true), 0);
                due(x.isBefore(2, 1), 1);
                due(x.addFeature(), 3);
                due(x.changes(3), 0);
                due(x.setOn(3, true), 1);
            });
        Sentences.says(34, "The slot keeps them.", () -> {
            FeatureClashes x = Made.FULL.get();
            due(x.restore(0), 3);
            long sum = x.checksum();
            // What is done after it does not come into the slot.
            x.setArrow(0, 0, 7, 9);
            x.changeToNone(0, 0, 0);
            x.setOn(0, false);
            x.setBefore(0, 2);
            x.addFeature();
            x.begin(2, 2);
            for (int i = 0; i < 3; i++) {
                due(x.restore(0), 3);
                due(x.checksum(), sum);
            }
        });
    }

    private static void restoreAnswers() {
        Sentences.says(34, "`slot`: 0 or 1", () -> {
            FeatureClashes x = Made.rivals(2);
            x.save(0);
            x.addFeature();
            x.save(1);
            Sentences.dueRange(0, 1, BAD_INDEX, x::restore);
            due(x.restore(0), 2);
            due(x.restore(1), 3);
        });
        Sentences.says(34, "Returns the number of features then", () -> {
            FeatureClashes x = new FeatureClashes();
            for (int count = 0; count <= 6; count++) {
                Made.turnAll(x, count % 2 == 0);
                x.save(count % 2);
                x.begin(2, 2);
                Made.addFeatures(x, 6 - count);
                due(x.restore(count % 2), count);
                due(x.features(), count);
                x.addFeature();
            }
        });
        Sentences.says(34, "BAD_INDEX", () -> {
            for (int slot : new int[] {-1, 2, LEAST, MOST}) {
                Twins.dueRefused(Made.FULL, BAD_INDEX, x -> x.restore(slot));
                // Ahead of NOT_POSSIBLE: no slot has been saved in.
                due(new FeatureClashes().restore(slot), BAD_INDEX);
            }
        });
        Sentences.says(34, "NOT_POSSIBLE if nothing has been saved in the slot", () -> {
            Twins.dueRefused(Made.FULL, NOT_POSSIBLE, x -> x.restore(1));
            Twins.dueRefused(Made.SMALL, NOT_POSSIBLE, x -> x.restore(0));
            FeatureClashes x = new FeatureClashes();
            due(x.restore(0), NOT_POSSIBLE);
            due(x.restore(1), NOT_POSSIBLE);
            due(x.save(2), BAD_INDEX);
            due(x.restore(1), NOT_POSSIBLE);
            // A save of an object as at first is a save.
            due(x.save(0), 0);
            due(x.restore(0), 0);
            due(x.restore(1), NOT_POSSIBLE);
        });
    }

    /** The sum of the values in whole numbers without a limit, cut to 64 bits at the end. */
    private static long sumOf(int... values) {
        BigInteger sum = BigInteger.valueOf(83);
        for (int value : values) {
            sum = sum.multiply(BigInteger.valueOf(31)).add(BigInteger.valueOf(value));
        }
        return sum.longValue();
    }

    private static void checksum() {
        Sentences.says(35, "Computes a checksum.", () -> {
            FeatureClashes x = Made.FULL.get();
            long sum = x.checksum();
            due(x.checksum(), sum);
            Twins.dueWithoutChange(Made.FULL, sum, y -> y.checksum());
            // Neither the text nor the slots are in it.
            x.clearText();
            x.save(1);
            due(x.checksum(), sum);
        });
        Sentences.says(35, "Returns the checksum", () -> {
            // 0 features; no clash, one order, none open, resolved: a sum without a wrap.
            due(new FeatureClashes().checksum(), 2376220495L);
            // The first run under ../shared/tests has this.
            FeatureClashes x = Made.plain(2, 2, 0);
            x.setArrow(0, 0, 1, 1);
            x.setArrow(1, 1, 0, 2);
            Made.addFeatures(x, 2);
            x.change(0, 1, 0, 1, 3);
            x.change(1, 1, 0, 0, 3);
            x.setBefore(1, 0);
            Made.addWord(x, 0, 0, 1);
            due(x.checksum(), -762824473284205710L);
        });
    }

    private static void checksumValues() {
        Sentences.says(35, "It starts with h = 83; for each of the following values, in this order, h becomes "
            + "31 * h + value (as longs, with overflow): features(); for each feature changes() and reach(), and for "
            + "each higher feature clash() of both and the letters of their witness; clashes(), orders(), open(), "
            + "isResolved(); the features of the resolved order; the letters of the word of effect(); the answers of "
            + "the resolved machine to the letters of the word.", () -> {
                due(new FeatureClashes().checksum(), sumOf(0, 0, 1, 0, 1));
                FeatureClashes x = Made.plain(2, 2, 3);
                x.setArrow(0, 1, 1, 6);
                x.change(0, 1, 0, 1, 7);
                x.change(1, 1, 0, 1, 8);
                x.changeToNone(1, 0, 0);
                x.setOn(2, false);
                x.setBefore(1, 0);
                Made.addWord(x, 1, 0, 1);
                due(x.checksum(), sumOf(3, 1, 1, 1, 1, 0, 0, 2, 2, 0, 0, 0, 1, 1, 0, 1, 1, 0, 1, 0, 6, 7, STOP));
                // No feature on: the pairs' clashes and witnesses are in it all the same.
                Made.turnAll(x, false);
                due(x.checksum(), sumOf(3, 1, 1, 1, 1, 0, 0, 2, 2, 0, 0, 0, 0, 1, 0, 1, 6, STOP, STOP));
                // All of six rivals, and the longest word: the sum has wrapped around many times.
                FeatureClashes y = Made.rivals(6);
                Made.addWord(y, new int[20]);
                due(y.checksum(), sumOf(6, 1, 1, 1, 0, 1, 0, 1, 0, 1, 0, 1, 0, 1, 1, 1, 0, 1, 0, 1, 0, 1, 0,
                    1, 1, 1, 0, 1, 0, 1, 0, 1, 1, 1, 0, 1, 0, 1, 1, 1, 0, 1, 1, 15, 720, 15, 0, 0, 1, 2, 3, 4, 5, 0,
                    5, 5, 5, 5, 5, 5, 5, 5, 5, 5, 5, 5, 5, 5, 5, 5, 5, 5, 5, 5));
                dueAsAsked(Made.FULL.get());
                dueAsAsked(Made.SMALL.get());
                dueAsAsked(Made.allOrdersDiffer());
            });
    }

    /** The checksum is that of the answers which the other calls give. */
    private static void dueAsAsked(FeatureClashes x) {
        List<Integer> values = new ArrayList<>();
        values.add(x.features());
        for (int f = 0; f < x.features(); f++) {
            values.add(x.changes(f));
            values.add(x.reach(f));
            for (int g = f + 1; g < x.features(); g++) {
                values.add(x.clash(f, g));
                for (int index = 0; x.witness(f, g, index) >= 0 && index < MANY; index++) {
                    values.add(x.witness(f, g, index));
                }
            }
        }
        values.add(x.clashes());
        values.add(x.orders());
        values.add(x.open());
        values.add(x.isResolved());
        for (int place = 0; x.resolved(place) >= 0 && place < MANY; place++) {
            values.add(x.resolved(place));
        }
        for (int index = 0; x.effect(index) >= 0 && index < MANY; index++) {
            values.add(x.effect(index));
        }
        for (int index = 0; x.answer(-2, index) >= 0 && index < MANY; index++) {
            values.add(x.answer(-2, index));
        }
        int[] row = values.stream().mapToInt(Integer::intValue).toArray();
        due(x.checksum(), sumOf(row));
    }
}
