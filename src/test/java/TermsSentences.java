/** The sentences ahead of the promises: "What it is" and "Terms". */
final class TermsSentences {
    private static final int BAD_INDEX = Sentences.BAD_INDEX;
    private static final int BAD_VALUE = Sentences.BAD_VALUE;
    private static final int NOT_POSSIBLE = Sentences.NOT_POSSIBLE;
    private static final int FULL = Sentences.FULL;
    private static final int NONE = Sentences.NONE;
    private static final int STOP = Sentences.STOP;
    private static final int LEAST = Sentences.LEAST;
    private static final int MOST = Sentences.MOST;

    private TermsSentences() {
    }

    static void run() {
        manyCalls();
        machines();
        words();
        alike();
        features();
        onAndOff();
        clashes();
        priorities();
        orders();
        open();
        text();
        faults();
        orderOfChecks();
        noneIsNoError();
        errorsChangeNothing();
        constants();
    }

    private static void says(String sentence, Runnable test) {
        Sentences.says(Sentences.TERMS, sentence, test);
    }

    private static void due(long got, long want) {
        Sentences.due(got, want);
    }

    private static void manyCalls() {
        says("An object is used for at most 512 calls after it has been made; what later calls answer is free.", () -> {
            // 37 calls make it, and the sum is the 38th; then the dearest ones, up to the 512th.
            FeatureClashes x = Made.allOrdersDiffer();
            long sum = x.checksum();
            for (int call = 39; call <= 511; call += 2) {
                due(x.results(), 720);
                due(x.checksum(), sum);
            }
            FeatureClashes y = new FeatureClashes();
            for (int call = 1; call <= 510; call += 3) {
                due(y.begin(1 + call % 8, 4), call == 1 ? 22 : 10 * (1 + (call - 3) % 8) + 4);
                due(y.addFeature(), 0);
                due(y.save(call % 2), 1);
            }
            due(y.restore(0), 1);
            due(y.restore(1), 1);
        });
    }

    private static void machines() {
        says("There are n states, 0 to n - 1, with n from 1 to 8, at first 2, and k letters, 0 to k - 1 (written a to "
            + "d), with k from 1 to 4, at first 2.", () -> {
                due(new FeatureClashes().begin(1, 1), 22);
                dueSize(new FeatureClashes(), 2, 2);
                for (int n = 1; n <= 8; n++) {
                    for (int k = 1; k <= 4; k++) {
                        dueSize(Made.plain(n, k, 1), n, k);
                    }
                }
                due(new FeatureClashes().begin(0, 1), BAD_VALUE);
                due(new FeatureClashes().begin(9, 1), BAD_VALUE);
                due(new FeatureClashes().begin(1, 0), BAD_VALUE);
                due(new FeatureClashes().begin(1, 5), BAD_VALUE);
            });
        says("For each state and letter there is an arrow, which leads to a state and has an output from 0 to 9, "
            + "or there is none.", () -> {
                FeatureClashes x = Made.plain(8, 4, 0);
                for (int cell = 0; cell < 32; cell++) {
                    due(x.removeArrow(cell / 4, cell % 4), NONE);
                    due(x.setArrow(cell / 4, cell % 4, 7 - cell / 4, 9 - cell % 10), NONE);
                }
                for (int cell = 0; cell < 32; cell++) {
                    due(x.removeArrow(cell / 4, cell % 4), 10 * (7 - cell / 4) + 9 - cell % 10);
                    due(x.removeArrow(cell / 4, cell % 4), NONE);
                }
                due(x.setArrow(0, 0, 8, 0), BAD_INDEX);
                due(x.setArrow(0, 0, 0, 10), BAD_VALUE);
                due(x.setArrow(0, 0, -1, 0), BAD_INDEX);
                due(x.setArrow(0, 0, 0, -1), BAD_VALUE);
            });
        says("At first there are no arrows in the base machine.", () -> {
            FeatureClashes x = new FeatureClashes();
            for (int cell = 0; cell < 4; cell++) {
                Made.addWord(x, cell % 2);
                due(x.answer(-1, 0), STOP);
                due(x.removeArrow(cell / 2, cell % 2), NONE);
            }
        });
    }

    private static void dueSize(FeatureClashes x, int states, int letters) {
        due(x.removeArrow(0, 0), NONE);
        due(x.removeArrow(states - 1, letters - 1), NONE);
        due(x.removeArrow(states, 0), BAD_INDEX);
        due(x.removeArrow(0, letters), BAD_INDEX);
        due(x.add(letters - 1), 1);
        due(x.add(letters), BAD_INDEX);
        Made.write(x, (char) ('0' + states - 1) + "" + (char) ('a' + letters - 1) + ">" + (states - 1) + "/9;");
        due(x.faultPosition(), NONE);
        Made.write(x, (char) ('0' + states) + "a-;");
        due(x.faultPosition(), 0);
        Made.write(x, "0" + (char) ('a' + letters) + "-;");
        due(x.faultPosition(), 1);
        Made.write(x, "0a>" + (char) ('0' + states) + "/0;");
        due(x.faultPosition(), 3);
    }

    private static void words() {
        says("A machine is given a word, letter by letter, in state 0 at first: for each letter it goes along the "
            + "arrow of its state for this letter, and answers the output; if there is none, it stops: it answers "
            + "STOP (10), and again for each letter after that.", () -> {
                FeatureClashes x = Made.plain(3, 2, 0);
                x.setArrow(0, 0, 2, 3);
                x.setArrow(2, 1, 1, 0);
                x.setArrow(1, 1, 1, 9);
                Made.addWord(x, 0, 1, 1, 0, 0, 1);
                int[] answers = {3, 0, 9, 10, 10, 10};
                for (int index = 0; index < 6; index++) {
                    due(x.answer(-1, index), answers[index]);
                }
                // It stops at the first letter already, though other states have arrows.
                Made.addWord(x, 1, 0, 1);
                for (int index = 0; index < 3; index++) {
                    due(x.answer(-1, index), 10);
                }
            });
    }

    private static void alike() {
        says("Two machines are alike if they answer each word alike.", () -> {
            // Both orders lead to states which only a long word tells apart.
            FeatureClashes x = Made.plain(8, 1, 2);
            for (int state = 0; state < 7; state++) {
                x.setArrow(state, 0, state + 1, 0);
            }
            x.setArrow(7, 0, 7, 0);
            x.change(0, 0, 0, 1, 0);
            x.change(1, 0, 0, 0, 0);
            due(x.clash(0, 1), 0);
            due(x.results(), 1);
            due(x.isResolved(), 1);
            x.setArrow(7, 0, 7, 1);
            due(x.clash(0, 1), 1);
            due(x.results(), 2);
            due(x.isResolved(), 0);
            for (int index = 0; index < 8; index++) {
                due(x.witness(0, 1, index), 0);
            }
            due(x.witness(0, 1, 8), NONE);
            // STOP for ever and an output for ever are not alike; no arrows at all are.
            FeatureClashes y = Made.plain(1, 1, 2);
            y.changeToNone(0, 0, 0);
            due(y.effect(0), NONE);
            y.change(1, 0, 0, 0, 0);
            due(y.clash(0, 1), 1);
            due(y.effect(0), 0);
            // Both go through the states, each at its own pace, for as long as it takes.
            due(longest(), 15);
            dueRemovedDiffers(0, 1);
            dueRemovedDiffers(1, 0);
            dueEachArrowCounts();
            dueNothingLeftBehind();
        });
    }

    /** One feature sets an arrow, the other one removes it: which one is last makes a difference. */
    private static void dueRemovedDiffers(int setter, int remover) {
        for (int output = 0; output <= 9; output++) {
            FeatureClashes x = Made.plain(1, 1, 2);
            x.change(setter, 0, 0, 0, output);
            x.changeToNone(remover, 0, 0);
            due(x.clash(0, 1), 1);
            due(x.results(), 2);
            due(x.isResolved(), 0);
            x.setBefore(setter, remover);
            due(x.isResolved(), 1);
            due(x.results(), 2);
        }
    }

    /** Eight states that all differ: any arrow, set in two ways, makes machines that are not alike. */
    private static void dueEachArrowCounts() {
        for (int cell = 0; cell < 32; cell++) {
            for (int output = 0; output < 9; output++) {
                dueDifferent(cell, 70 + output, 71 + output);
            }
            for (int to = 0; to < 7; to++) {
                dueDifferent(cell, 10 * to + 9, 10 * to + 19);
            }
        }
    }

    private static void dueDifferent(int cell, int arrow, int other) {
        FeatureClashes x = Made.plain(8, 4, 2);
        for (int state = 0; state < 8; state++) {
            for (int letter = 0; letter < 3; letter++) {
                x.setArrow(state, letter, (state + 1) % 8, state + letter);
            }
            x.setArrow(state, 3, 0, state);
        }
        x.change(0, cell / 4, cell % 4, arrow / 10, arrow % 10);
        x.change(1, cell / 4, cell % 4, other / 10, other % 10);
        due(x.clash(0, 1), 1);
        due(x.results(), 2);
        due(x.isResolved(), 0);
        x.change(0, cell / 4, cell % 4, other / 10, other % 10);
        due(x.clash(0, 1), 0);
        due(x.results(), 1);
        due(x.isResolved(), 1);
    }

    /** One order tells states 1 and 2 apart where no word comes; a later one leads to both, which are alike there. */
    private static void dueNothingLeftBehind() {
        FeatureClashes x = Made.plain(3, 2, 3);
        x.setArrow(0, 0, 1, 0);
        x.setArrow(1, 0, 1, 5);
        x.change(0, 0, 1, 2, 0);
        x.change(0, 2, 0, 2, 5);
        x.change(1, 2, 0, 2, 6);
        x.change(2, 0, 1, 1, 0);
        due(x.results(), 2);
        x.setBefore(1, 0);
        due(x.isResolved(), 1);
        due(x.results(), 2);
    }

    /** The length of a witness, as both machines go through their states at their own pace. */
    private static int longest() {
        FeatureClashes x = Made.plain(8, 2, 2);
        for (int state = 0; state < 7; state++) {
            x.setArrow(state, 0, state + 1, 0);
        }
        x.setArrow(6, 1, 6, 1);
        x.change(0, 7, 0, 7, 0);
        x.change(1, 7, 0, 0, 0);
        int length = 0;
        while (length < 100 && x.witness(0, 1, length) != NONE) {
            length++;
        }
        return length;
    }

    private static void features() {
        says("There are at most 6 features, numbered from 0 in the order in which they are made.", () -> {
            FeatureClashes x = Made.plain(1, 1, 0);
            x.add(0);
            for (int f = 0; f < 6; f++) {
                due(x.addFeature(), f);
                due(x.change(f, 0, 0, 0, f), 1);
            }
            due(x.addFeature(), FULL);
            due(x.features(), 6);
            for (int f = 0; f < 6; f++) {
                due(x.answer(f, 0), f);
            }
        });
        says("A feature has changes, at most one for each state and letter: a change sets an arrow, or removes it.",
            () -> {
                FeatureClashes x = Made.plain(8, 4, 1);
                for (int cell = 0; cell < 32; cell++) {
                    due(x.change(0, cell / 4, cell % 4, 1, 1), cell + 1);
                    due(x.changeToNone(0, cell / 4, cell % 4), cell + 1);
                    due(x.change(0, cell / 4, cell % 4, 0, 2), cell + 1);
                }
                due(x.changes(0), 32);
                due(x.changeToNone(0, 0, 0), 32);
                due(x.unchange(0, 0, 0), 31);
                due(x.unchange(0, 0, 0), NONE);
            });
        says("To put a feature on a machine means to carry out its changes.", () -> {
            FeatureClashes x = Made.plain(2, 2, 2);
            x.setArrow(0, 0, 0, 1);
            x.setArrow(0, 1, 0, 2);
            Made.addWord(x, 0, 1);
            // Without changes the machine stays as it is; arrows that it does not change stay.
            due(x.answer(0, 0), 1);
            due(x.answer(0, 1), 2);
            x.change(0, 0, 0, 0, 3);
            x.changeToNone(1, 0, 1);
            due(x.answer(0, 0), 3);
            due(x.answer(0, 1), 2);
            due(x.answer(1, 0), 1);
            due(x.answer(1, 1), STOP);
            // An arrow that is not there can be removed.
            due(x.changeToNone(1, 1, 1), 2);
            due(x.answer(1, 0), 1);
        });
        says("To put features on in an order means to put them on the base machine one after the other; where several "
            + "change the same arrow, the last one holds.", () -> {
                FeatureClashes x = Made.rivals(6);
                x.add(0);
                due(x.answer(-2, 0), 5);
                x.changeToNone(5, 0, 0);
                due(x.answer(-2, 0), STOP);
                x.unchange(5, 0, 0);
                due(x.answer(-2, 0), 4);
                x.setBefore(4, 0);
                due(x.answer(-2, 0), 0);
                Made.turnAll(x, false);
                x.setOn(0, true);
                due(x.answer(-2, 0), 0);
                // The base machine itself stays.
                due(x.answer(-1, 0), 9);
            });
    }

    private static void onAndOff() {
        says("A feature is on or off, at first on.", () -> {
            FeatureClashes x = Made.plain(1, 1, 6);
            for (int f = 0; f < 6; f++) {
                due(x.setOn(f, false), 1);
                due(x.setOn(f, false), 0);
            }
            // A new one is on, though one with its number was off.
            x.begin(1, 1);
            for (int f = 0; f < 6; f++) {
                x.addFeature();
                due(x.setOn(f, false), 1);
            }
        });
        says("In what follows, only features that are on count, except where a feature is named as an argument: such "
            + "ones count also if they are off.", () -> {
                FeatureClashes x = Made.rivals(6);
                x.add(0);
                Made.turnAll(x, false);
                due(x.clashes(), 0);
                due(x.results(), 1);
                due(x.orders(), 1);
                due(x.open(), 0);
                due(x.isResolved(), 1);
                due(x.resolve(), 0);
                due(x.resolved(0), NONE);
                due(x.effect(0), NONE);
                due(x.answer(-2, 0), 9);
                // As arguments:
                due(x.clash(0, 5), 1);
                due(x.witness(0, 5, 0), 0);
                due(x.reach(5), 1);
                due(x.changes(5), 1);
                due(x.change(5, 0, 0, 0, 7), 1);
                due(x.answer(5, 0), 7);
                due(x.changeToNone(5, 0, 0), 1);
                due(x.unchange(5, 0, 0), 0);
                due(x.setBefore(5, 0), 1);
                due(x.isBefore(5, 0), 1);
                Made.write(x, "0a>0/5;");
                due(x.read(5), 1);
                due(x.answer(5, 0), 5);
                due(x.setOn(5, true), 0);
                due(x.answer(-2, 0), 5);
            });
    }

    private static void clashes() {
        says("Two features clash if the base machine with the one and then the other one put on it, and that with them "
            + "in the opposite order, are not alike.", () -> {
                FeatureClashes x = Made.plain(3, 2, 3);
                due(x.clash(0, 1), 0);
                // Both change one arrow, in two ways, but no word comes there.
                x.change(0, 2, 0, 0, 1);
                x.change(1, 2, 0, 0, 2);
                due(x.clash(0, 1), 0);
                // A third feature that leads there does not count; an arrow of the base machine does.
                x.change(2, 0, 1, 2, 0);
                due(x.clash(0, 1), 0);
                x.setArrow(0, 1, 2, 0);
                due(x.clash(0, 1), 1);
                // So does an arrow of one of both.
                x.removeArrow(0, 1);
                x.change(1, 0, 1, 2, 0);
                due(x.clash(0, 1), 1);
                due(x.clash(1, 0), 1);
                // Priorities do not count.
                x.setBefore(0, 1);
                due(x.clash(0, 1), 1);
                x.change(0, 2, 0, 0, 2);
                due(x.clash(0, 1), 0);
            });
        says("The witness of a clash is the shortest word that these two machines answer differently, of several the "
            + "lexicographically first one.", () -> {
                FeatureClashes x = Made.plain(4, 3, 2);
                x.setArrow(0, 0, 1, 0);
                x.setArrow(0, 1, 2, 0);
                x.setArrow(0, 2, 3, 0);
                x.setArrow(1, 0, 3, 0);
                // "aab" comes first by its letters, but "cb" is shorter.
                differ(x, 3, 1);
                dueWitness(x, 2, 1);
                differ(x, 3, 0);
                dueWitness(x, 2, 0);
                differ(x, 2, 2);
                dueWitness(x, 1, 2);
                differ(x, 1, 2);
                dueWitness(x, 0, 2);
                differ(x, 0, 2);
                dueWitness(x, 2);
                differ(x, 0, 1);
                dueWitness(x, 1);
                differ(x, 0, 0);
                dueWitness(x, 0);
                // Of the many words that lead to a state only the first one counts.
                FeatureClashes y = Made.plain(8, 4, 2);
                int[] way = {3, 1, 2, 0, 3, 2, 1};
                for (int state = 0; state < 8; state++) {
                    for (int letter = 0; letter < 4; letter++) {
                        boolean onward = state < 7 && letter >= way[state];
                        y.setArrow(state, letter, onward ? state + 1 : 0, 0);
                    }
                }
                differ(y, 7, 2);
                dueWitness(y, 3, 1, 2, 0, 3, 2, 1, 2);
            });
    }

    private static void differ(FeatureClashes x, int state, int letter) {
        x.change(0, state, letter, 0, 1);
        x.changeToNone(1, state, letter);
    }

    private static void dueWitness(FeatureClashes x, int... word) {
        for (int index = 0; index < word.length; index++) {
            due(x.witness(0, 1, index), word[index]);
            due(x.witness(1, 0, index), word[index]);
        }
        due(x.witness(0, 1, word.length), NONE);
        due(x.witness(1, 0, word.length), NONE);
    }

    private static void priorities() {
        says("A priority is a pair of features, the first one of which is put on before the second one.", () -> {
            FeatureClashes x = Made.rivals(2);
            x.add(0);
            due(x.answer(-2, 0), 1);
            x.setBefore(1, 0);
            due(x.resolved(0), 1);
            due(x.resolved(1), 0);
            due(x.answer(-2, 0), 0);
        });
        says("They can be told only if the second one is not before the first one already.", () -> {
            FeatureClashes x = Made.plain(1, 1, 6);
            for (int f = 0; f < 5; f++) {
                due(x.setBefore(f + 1, f), (f + 1) * (f + 2) / 2);
                due(x.setBefore(f, f + 1), NOT_POSSIBLE);
                due(x.setBefore(0, f + 1), NOT_POSSIBLE);
                due(x.clearPriorities(), (f + 1) * (f + 2) / 2);
                for (int g = 0; g <= f; g++) {
                    x.setBefore(g + 1, g);
                }
            }
            due(x.setBefore(5, 0), 15);
        });
        says("A feature is before another one if there is a priority of them, or if it is before a feature that is "
            + "before the other one (priorities count also for features that are off).", () -> {
                FeatureClashes x = Made.plain(1, 1, 6);
                // The ways meet whichever priority is told last, off or on.
                x.setOn(4, false);
                x.setBefore(0, 3);
                x.setBefore(4, 2);
                due(x.isBefore(0, 2), 0);
                x.setBefore(3, 4);
                due(x.isBefore(0, 3), 1);
                due(x.isBefore(0, 4), 1);
                due(x.isBefore(0, 2), 1);
                due(x.isBefore(3, 2), 1);
                due(x.isBefore(2, 0), 0);
                due(x.isBefore(0, 0), 0);
                due(x.isBefore(0, 1), 0);
                // Off or on later makes no difference.
                Made.turnAll(x, false);
                due(x.isBefore(0, 2), 1);
                due(x.clearPriorities(), 6);
                due(x.isBefore(0, 2), 0);
            });
    }

    private static void orders() {
        says("The orders that the priorities allow are those of all features that are on in which each feature that is "
            + "before another one stands before it.", () -> {
                FeatureClashes x = Made.plain(1, 1, 6);
                due(x.orders(), 720);
                x.setBefore(0, 1);
                due(x.orders(), 360);
                x.setBefore(2, 3);
                due(x.orders(), 180);
                x.setBefore(4, 5);
                due(x.orders(), 90);
                x.setBefore(1, 2);
                due(x.orders(), 15);
                // 0 is before 3 by way of 1 and 2, which are off.
                x.setOn(1, false);
                x.setOn(2, false);
                due(x.orders(), 6);
                x.setOn(3, false);
                due(x.orders(), 3);
                Made.turnAll(x, false);
                due(x.orders(), 1);
            });
        says("The resolved order is the lexicographically first one of them, as a sequence of numbers; the resolved "
            + "machine is the one with the features put on in this order (the base machine, if no feature is on).",
            () -> {
                FeatureClashes x = Made.rivals(6);
                x.add(0);
                dueOrder(x, 0, 1, 2, 3, 4, 5);
                x.setBefore(3, 1);
                dueOrder(x, 0, 2, 3, 1, 4, 5);
                // Each place has the lowest feature that may stand there: 0 waits for 5 alone.
                x.setBefore(5, 0);
                dueOrder(x, 2, 3, 1, 4, 5, 0);
                x.setBefore(4, 2);
                dueOrder(x, 3, 1, 4, 2, 5, 0);
                x.setOn(3, false);
                x.setOn(0, false);
                dueOrder(x, 1, 4, 2, 5);
                Made.turnAll(x, false);
                due(x.resolved(0), NONE);
                due(x.answer(-2, 0), 9);
                due(x.effect(0), NONE);
            });
    }

    private static void dueOrder(FeatureClashes x, int... order) {
        for (int place = 0; place < order.length; place++) {
            due(x.resolved(place), order[place]);
        }
        due(x.resolved(order.length), NONE);
        due(x.answer(-2, 0), order[order.length - 1]);
    }

    private static void open() {
        says("Two features that are on are open if they clash, and neither is before the other one.", () -> {
            FeatureClashes x = Made.rivals(2);
            due(x.open(), 1);
            x.setBefore(0, 1);
            due(x.open(), 0);
            x.clearPriorities();
            x.setBefore(1, 0);
            due(x.open(), 0);
            x.clearPriorities();
            x.setOn(0, false);
            due(x.open(), 0);
            x.setOn(0, true);
            x.setOn(1, false);
            due(x.open(), 0);
            x.setOn(1, true);
            due(x.open(), 1);
            x.change(0, 0, 0, 0, 1);
            due(x.open(), 0);
            // By way of a third one, which is off.
            FeatureClashes y = Made.rivals(3);
            y.setOn(1, false);
            y.setBefore(2, 1);
            due(y.open(), 1);
            y.setBefore(1, 0);
            due(y.open(), 0);
        });
    }

    private static void text() {
        says("The text has at most 80 bytes.", () -> {
            FeatureClashes x = Made.plain(8, 4, 0);
            Made.write(x, Made.LONGEST);
            due(x.append(';'), FULL);
            due(x.faultPosition(), NONE);
            due(x.read(-1), 14);
            due(x.clearText(), 80);
        });
        says("It consists of changes, perhaps none, each followed by a semicolon: the digit of a state, a letter, and "
            + "either a greater-than sign, the digit of a state, a slash and the digit of an output (an arrow is set), "
            + "or a minus sign (it is removed).", () -> {
                FeatureClashes x = Made.plain(8, 4, 0);
                Made.write(x, Made.LONGEST);
                x.read(-1);
                int[] cells = {79, 68, 57, 46, 35, 24, 13, 0};
                for (int state = 0; state < 8; state++) {
                    due(x.removeArrow(state, state % 4), cells[state]);
                }
                x.setArrow(0, 0, 0, 0);
                Made.write(x, "0a-;");
                due(x.read(-1), 1);
                due(x.removeArrow(0, 0), NONE);
                Made.write(x, "");
                due(x.read(-1), 0);
                dueForm(1, 1, "0a>0/0;", '0', '0', 'a', 'a');
                dueForm(2, 2, "1b>1/9;", '0', '1', 'a', 'b');
                dueForm(8, 4, "7d>7/5;", '0', '7', 'a', 'd');
            });
    }

    /** Each of the 128 bytes, in each place of a change: it follows the form or is the fault. */
    private static void dueForm(int states, int letters, String set, char least, char most, char first, char last) {
        char[][] allowed = {{least, most}, {first, last}, {'>', '>'}, {least, most}, {'/', '/'}, {'0', '9'},
            {';', ';'}};
        for (int place = 0; place < set.length(); place++) {
            for (char sign = 0; sign < 128; sign++) {
                boolean good = sign >= allowed[place][0] && sign <= allowed[place][1] || place == 2 && sign == '-';
                int end = place == 6 ? NONE : place + 1;
                due(TextSentences.faultOf(states, letters, set.substring(0, place) + sign), good ? end : place);
            }
        }
        for (char sign = 0; sign < 128; sign++) {
            String removed = set.substring(0, 2) + "-" + sign;
            due(TextSentences.faultOf(states, letters, removed), sign == ';' ? NONE : 3);
        }
    }

    private static void faults() {
        says("The fault position is the index, counted from 0, of the first byte with which the text does not follow "
            + "this form, or its length if it ends too early; a state or letter that there is not (at the time of the "
            + "call) is a fault, and so is the letter of a change whose state and letter a change of the text has "
            + "already.", () -> {
                String whole = "0a>1/9;1b-;";
                int[] ends = {NONE, 1, 2, 3, 4, 5, 6, NONE, 8, 9, 10, NONE};
                for (int length = 0; length <= whole.length(); length++) {
                    due(TextSentences.faultOf(2, 2, whole.substring(0, length)), ends[length]);
                }
                for (int place = 0; place < whole.length(); place++) {
                    due(TextSentences.faultOf(2, 2, whole.substring(0, place) + "?" + whole.substring(place)), place);
                }
                due(TextSentences.faultOf(2, 2, whole + "?"), 11);
                // The time of the call counts, not that of the text.
                FeatureClashes x = Made.plain(8, 4, 0);
                Made.write(x, "0a>7/0;6c-;");
                due(x.faultPosition(), NONE);
                due(faultAfter(x, 7, 4), 3);
                due(faultAfter(x, 8, 2), 8);
                due(faultAfter(x, 6, 4), 3);
                Made.write(x, "0a-;6c-;");
                due(faultAfter(x, 6, 4), 4);
                due(faultAfter(x, 7, 3), NONE);
                x.save(0);
                due(faultAfter(x, 1, 1), 4);
                x.restore(0);
                due(x.faultPosition(), NONE);
                // A repeat: its letter is the fault, as soon as it stands there, and whatever follows.
                due(TextSentences.faultOf(2, 2, "0a-;0"), 5);
                due(TextSentences.faultOf(2, 2, "0a-;0a"), 5);
                due(TextSentences.faultOf(2, 2, "0a-;0a>1/1;"), 5);
                due(TextSentences.faultOf(2, 2, "0a>1/1;0a-;"), 8);
                due(TextSentences.faultOf(2, 2, "0a>1/1;1a-;0b-;1b>0/0;0"), 23);
                due(TextSentences.faultOf(2, 2, "0a>1/1;1a-;0b-;1b>0/0;1b"), 23);
                due(TextSentences.faultOf(2, 2, "0a>1/1;1a-;0b-;1b>0/0;0a"), 23);
                // The state to which it leads is no repeat.
                due(TextSentences.faultOf(2, 2, "0a>1/1;0b>1/1;1a>0/1;"), NONE);
                due(TextSentences.faultOf(8, 4, Made.LONGEST.substring(0, 76) + "0a-;"), 77);
            });
    }

    private static int faultAfter(FeatureClashes x, int states, int letters) {
        x.begin(states, letters);
        return x.faultPosition();
    }

    private static void orderOfChecks() {
        says("Where several can apply, the order of the @return line is the order of the checks.", () -> {
            Twins.dueRefused(Made.FULL, BAD_INDEX, x -> x.setArrow(8, 0, 0, 10));
            Twins.dueRefused(Made.FULL, BAD_INDEX, x -> x.setArrow(0, 4, 0, 10));
            Twins.dueRefused(Made.FULL, BAD_INDEX, x -> x.setArrow(0, 0, 8, 10));
            Twins.dueRefused(Made.FULL, BAD_INDEX, x -> x.change(6, 0, 0, 0, 10));
            Twins.dueRefused(Made.FULL, BAD_INDEX, x -> x.change(0, 8, 0, 0, 10));
            Twins.dueRefused(Made.FULL, BAD_INDEX, x -> x.change(0, 0, 4, 0, 10));
            Twins.dueRefused(Made.FULL, BAD_INDEX, x -> x.change(0, 0, 0, 8, 10));
            Twins.dueRefused(Made.FULL, BAD_VALUE, x -> x.append(128));
            Twins.dueRefused(Made.FULL, FULL, x -> x.append(127));
            Twins.dueRefused(Made.SMALL, BAD_INDEX, x -> x.read(3));
            Twins.dueRefused(Made.SMALL, NOT_POSSIBLE, x -> x.read(2));
            Twins.dueRefused(Made.FULL, BAD_INDEX, x -> x.add(4));
            Twins.dueRefused(Made.FULL, FULL, x -> x.add(3));
            Twins.dueRefused(Made.FULL, BAD_INDEX, x -> x.restore(2));
            Twins.dueRefused(Made.FULL, NOT_POSSIBLE, x -> x.restore(1));
        });
    }

    private static void noneIsNoError() {
        says("NONE is not an error and is returned only if no error applies.", () -> {
            // There is no arrow, no change, no clash, no letter: but an error comes first.
            FeatureClashes x = Made.plain(2, 2, 2);
            due(x.setArrow(0, 0, 0, 10), BAD_VALUE);
            due(x.setArrow(0, 0, 2, 0), BAD_INDEX);
            due(x.removeArrow(2, 0), BAD_INDEX);
            due(x.removeArrow(0, 2), BAD_INDEX);
            due(x.unchange(2, 0, 0), BAD_INDEX);
            due(x.unchange(0, 2, 0), BAD_INDEX);
            due(x.unchange(0, 0, 2), BAD_INDEX);
            due(x.witness(0, 1, -1), BAD_INDEX);
            due(x.witness(0, 0, 0), BAD_INDEX);
            due(x.witness(0, 2, MOST), BAD_INDEX);
            due(x.resolved(-1), BAD_INDEX);
            due(x.answer(2, 0), BAD_INDEX);
            due(x.answer(-3, MOST), BAD_INDEX);
            due(x.answer(-1, -1), BAD_INDEX);
            due(x.effect(-1), BAD_INDEX);
            due(new FeatureClashes().resolved(LEAST), BAD_INDEX);
            // Without an error the call is carried out.
            due(x.setArrow(0, 0, 1, 1), NONE);
            due(x.setArrow(0, 0, 1, 2), 11);
        });
    }

    private static void errorsChangeNothing() {
        says("A call that reports an error changes nothing.", () -> {
            // One for each call and each of its errors; more stand with the promises.
            Twins.dueRefused(Made.FULL, BAD_VALUE, x -> x.begin(8, 5));
            Twins.dueRefused(Made.FULL, BAD_INDEX, x -> x.setArrow(0, 0, 8, 0));
            Twins.dueRefused(Made.FULL, BAD_VALUE, x -> x.setArrow(0, 0, 0, 10));
            Twins.dueRefused(Made.FULL, BAD_INDEX, x -> x.removeArrow(0, 4));
            Twins.dueRefused(Made.FULL, FULL, x -> x.addFeature());
            Twins.dueRefused(Made.FULL, BAD_INDEX, x -> x.change(0, 0, 0, 8, 0));
            Twins.dueRefused(Made.FULL, BAD_VALUE, x -> x.change(0, 0, 0, 0, 10));
            Twins.dueRefused(Made.FULL, BAD_INDEX, x -> x.changeToNone(0, 0, 4));
            Twins.dueRefused(Made.FULL, BAD_INDEX, x -> x.unchange(0, 0, 4));
            Twins.dueRefused(Made.FULL, BAD_INDEX, x -> x.setOn(6, false));
            Twins.dueRefused(Made.FULL, BAD_INDEX, x -> x.changes(6));
            Twins.dueRefused(Made.SMALL, BAD_VALUE, x -> x.append(128));
            Twins.dueRefused(Made.FULL, FULL, x -> x.append(0));
            Twins.dueRefused(Made.FULL, BAD_INDEX, x -> x.read(6));
            Twins.dueRefused(Made.SMALL, NOT_POSSIBLE, x -> x.read(0));
            Twins.dueRefused(Made.SMALL, NOT_POSSIBLE, x -> x.read(-1));
            Twins.dueRefused(Made.FULL, BAD_INDEX, x -> x.clash(0, 0));
            Twins.dueRefused(Made.FULL, BAD_INDEX, x -> x.witness(0, 1, -1));
            Twins.dueRefused(Made.FULL, BAD_INDEX, x -> x.reach(6));
            Twins.dueRefused(Made.FULL, BAD_INDEX, x -> x.setBefore(0, 0));
            Twins.dueRefused(Made.FULL, NOT_POSSIBLE, x -> x.setBefore(0, 4));
            Twins.dueRefused(Made.FULL, BAD_INDEX, x -> x.isBefore(6, 0));
            Twins.dueRefused(Made.FULL, BAD_INDEX, x -> x.resolved(-1));
            Twins.dueRefused(Made.SMALL, BAD_INDEX, x -> x.add(2));
            Twins.dueRefused(Made.FULL, FULL, x -> x.add(0));
            Twins.dueRefused(Made.FULL, BAD_INDEX, x -> x.answer(6, 0));
            Twins.dueRefused(Made.FULL, BAD_INDEX, x -> x.effect(-1));
            Twins.dueRefused(Made.FULL, BAD_INDEX, x -> x.save(2));
            Twins.dueRefused(Made.FULL, BAD_INDEX, x -> x.restore(2));
            Twins.dueRefused(Made.FULL, NOT_POSSIBLE, x -> x.restore(1));
        });
    }

    private static void constants() {
        says("Errors are reported by negative constants.", () -> {
            int[] errors = {FeatureClashes.BAD_INDEX, FeatureClashes.BAD_VALUE, FeatureClashes.NOT_POSSIBLE,
                FeatureClashes.FULL};
            for (int error : errors) {
                due(error < 0 ? 1 : 0, 1);
            }
        });
        says("The constants: `BAD_INDEX = -1`: There is no such state, letter, feature, slot or index.", () -> {
            due(FeatureClashes.BAD_INDEX, -1);
            FeatureClashes x = new FeatureClashes();
            due(x.removeArrow(2, 0), -1);
            due(x.removeArrow(0, 2), -1);
            due(x.changes(0), -1);
            due(x.save(2), -1);
            due(x.effect(-1), -1);
        });
        says("`BAD_VALUE = -2`: Another argument is out of range.", () -> {
            due(FeatureClashes.BAD_VALUE, -2);
            due(new FeatureClashes().begin(9, 1), -2);
            due(new FeatureClashes().setArrow(0, 0, 0, 10), -2);
            due(new FeatureClashes().append(128), -2);
        });
        says("`NOT_POSSIBLE = -3`: The call is not possible now.", () -> {
            due(FeatureClashes.NOT_POSSIBLE, -3);
            // But later it is.
            FeatureClashes x = new FeatureClashes();
            due(x.restore(0), -3);
            x.save(0);
            due(x.restore(0), 0);
            x.append('0');
            due(x.read(-1), -3);
            x.clearText();
            due(x.read(-1), 0);
            Made.addFeatures(x, 2);
            x.setBefore(1, 0);
            due(x.setBefore(0, 1), -3);
            x.clearPriorities();
            due(x.setBefore(0, 1), 1);
        });
        says("`FULL = -4`: There is no room.", () -> {
            due(FeatureClashes.FULL, -4);
            FeatureClashes x = Made.FULL.get();
            due(x.addFeature(), -4);
            due(x.append(0), -4);
            due(x.add(0), -4);
        });
        says("`NONE = -5`: There is no such thing; not an error.", () -> {
            due(FeatureClashes.NONE, -5);
            due(new FeatureClashes().removeArrow(0, 0), -5);
            due(new FeatureClashes().faultPosition(), -5);
            due(new FeatureClashes().resolved(0), -5);
        });
        says("`STOP = 10`: The answer of a machine that has stopped.", () -> {
            due(FeatureClashes.STOP, 10);
            FeatureClashes x = new FeatureClashes();
            x.add(0);
            due(x.answer(-1, 0), 10);
        });
    }
}
