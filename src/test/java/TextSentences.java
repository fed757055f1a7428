/** Promises 12 to 15: the text. */
final class TextSentences {
    private static final int BAD_INDEX = Sentences.BAD_INDEX;
    private static final int BAD_VALUE = Sentences.BAD_VALUE;
    private static final int NOT_POSSIBLE = Sentences.NOT_POSSIBLE;
    private static final int FULL = Sentences.FULL;
    private static final int NONE = Sentences.NONE;
    private static final int STOP = Sentences.STOP;
    private static final int LEAST = Sentences.LEAST;
    private static final int MOST = Sentences.MOST;

    private TextSentences() {
    }

    static void run() {
        append();
        clearText();
        faultPosition();
        noFault();
        read();
        readAnswers();
        readErrors();
    }

    private static void due(long got, long want) {
        Sentences.due(got, want);
    }

    static int faultOf(int states, int letters, String text) {
        FeatureClashes x = Made.plain(states, letters, 0);
        Made.write(x, text);
        return x.faultPosition();
    }

    private static FeatureClashes withText(int states, int letters, int features, String text) {
        FeatureClashes x = Made.plain(states, letters, features);
        Made.write(x, text);
        return x;
    }

    private static void append() {
        Sentences.says(12, "`letter`: 0 to 127", () -> {
            FeatureClashes x = new FeatureClashes();
            Sentences.dueRange(0, 127, BAD_VALUE, x::append);
            due(x.clearText(), 2);
        });
        Sentences.says(12, "Returns the length of the text", () -> {
            FeatureClashes x = new FeatureClashes();
            for (int length = 1; length <= 80; length++) {
                due(x.append(length), length);
            }
            x.clearText();
            due(x.append(0), 1);
            // The bytes stand in the order in which they were appended.
            Made.write(x, "0a>1/4;");
            due(x.faultPosition(), NONE);
            due(x.append('1'), 8);
        });
        Sentences.says(12, "BAD_VALUE", () -> {
            for (int letter : new int[] {-1, 128, 256 + '0', LEAST, MOST}) {
                Twins.dueRefused(Made.SMALL, BAD_VALUE, x -> x.append(letter));
                // Ahead of FULL.
                Twins.dueRefused(Made.FULL, BAD_VALUE, x -> x.append(letter));
            }
        });
        Sentences.says(12, "FULL if it has 80 bytes", () -> {
            Twins.dueRefused(Made.FULL, FULL, x -> x.append(0));
            Twins.dueRefused(Made.FULL, FULL, x -> x.append('0'));
            Twins.dueRefused(Made.FULL, FULL, x -> x.append(127));
            FeatureClashes x = new FeatureClashes();
            for (int length = 1; length <= 79; length++) {
                x.append('0');
            }
            due(x.append(';'), 80);
            due(x.append(';'), FULL);
            due(x.append(';'), FULL);
            due(x.clearText(), 80);
            due(x.append(';'), 1);
        });
    }

    private static void clearText() {
        Sentences.says(13, "Empties the text.", () -> {
            FeatureClashes x = new FeatureClashes();
            Made.write(x, "0a-;0a");
            due(x.faultPosition(), 5);
            x.clearText();
            due(x.faultPosition(), NONE);
            due(x.read(-1), 0);
            // What was there is forgotten: "0a" is not a repeat now, and nothing follows it.
            due(x.append('0'), 1);
            due(x.append('a'), 2);
            due(x.faultPosition(), 2);
            FeatureClashes y = Made.FULL.get();
            long sum = y.checksum();
            y.clearText();
            due(y.checksum(), sum);
        });
        Sentences.says(13, "Returns the length that it had", () -> {
            FeatureClashes x = new FeatureClashes();
            due(x.clearText(), 0);
            x.append('?');
            due(x.clearText(), 1);
            due(x.clearText(), 0);
            due(Made.FULL.get().clearText(), 80);
            due(Made.SMALL.get().clearText(), 12);
        });
    }

    private static void faultPosition() {
        Sentences.says(14, "Returns the fault position of the text", () -> {
            due(faultOf(2, 2, "?"), 0);
            due(faultOf(2, 2, "0"), 1);
            due(faultOf(2, 2, "0a-;0b-"), 7);
            due(faultOf(2, 2, "0a-;0b-:"), 7);
            // Of several faults the first one counts.
            due(faultOf(2, 2, "0a-;2c>9/x."), 4);
            due(faultOf(8, 4, Made.LONGEST.substring(0, 79)), 79);
            due(faultOf(8, 4, Made.LONGEST.substring(0, 79) + ":"), 79);
            due(faultOf(8, 4, Made.LONGEST.substring(0, 76) + "7b>7"), 80);
            due(faultOf(8, 4, Made.LONGEST.substring(0, 76) + "7d>7"), 77);
            Twins.dueWithoutChange(Made.SMALL, 11, x -> x.faultPosition());
        });
    }

    private static void noFault() {
        Sentences.says(14, "NONE if it has no fault", () -> {
            due(new FeatureClashes().faultPosition(), NONE);
            due(faultOf(1, 1, ""), NONE);
            due(faultOf(1, 1, "0a-;"), NONE);
            due(faultOf(1, 1, "0a>0/0;"), NONE);
            due(faultOf(8, 4, "7d>7/9;"), NONE);
            due(faultOf(8, 4, Made.LONGEST), NONE);
            due(faultOf(8, 4, mostChanges()), NONE);
            Twins.dueWithoutChange(Made.FULL, NONE, x -> x.faultPosition());
        });
    }

    /** As many changes as 80 bytes can hold. */
    private static String mostChanges() {
        StringBuilder text = new StringBuilder();
        for (int i = 0; i < 20; i++) {
            text.append((char) ('0' + i % 8)).append((char) ('a' + i / 8)).append("-;");
        }
        return text.toString();
    }

    private static void read() {
        Sentences.says(15, "Makes the changes of the text those of a feature, in place of its changes, "
            + "or carries them out on the base machine.", () -> {
                FeatureClashes x = withText(3, 2, 2, "0a>2/7;2b-;");
                x.setArrow(2, 1, 0, 5);
                x.setArrow(1, 1, 1, 6);
                x.change(0, 1, 1, 0, 0);
                x.change(0, 0, 0, 0, 0);
                x.change(0, 1, 0, 0, 0);
                due(x.read(0), 2);
                due(x.changes(0), 2);
                due(x.unchange(0, 1, 1), NONE);
                due(x.unchange(0, 1, 0), NONE);
                Made.addWord(x, 0, 1, 1);
                due(x.answer(0, 0), 7);
                due(x.answer(0, 1), STOP);
                // Neither the base machine nor another feature has them.
                due(x.answer(-1, 0), STOP);
                due(x.changes(1), 0);
                // On the base machine, what the text does not name stays.
                due(x.read(-1), 2);
                due(x.changes(0), 2);
                due(x.removeArrow(0, 0), 27);
                due(x.removeArrow(2, 1), NONE);
                due(x.removeArrow(1, 1), 16);
                // No changes at all: the feature loses its own, the base machine keeps its arrows.
                x.setArrow(1, 1, 1, 6);
                x.clearText();
                due(x.read(0), 0);
                due(x.changes(0), 0);
                due(x.read(-1), 0);
                due(x.removeArrow(1, 1), 16);
            });
        Sentences.says(15, "The text stays.", () -> {
            FeatureClashes x = withText(2, 2, 2, "0a>1/7;1b-;");
            due(x.read(0), 2);
            due(x.read(1), 2);
            due(x.read(-1), 2);
            due(x.read(-1), 2);
            due(x.clash(0, 1), 0);
            due(x.changes(0), 2);
            due(x.changes(1), 2);
            due(x.faultPosition(), NONE);
            due(x.append('0'), 12);
            due(x.clearText(), 12);
        });
        Sentences.says(15, "`feature`: a feature, or -1 for the base machine", () -> {
            for (int count = 0; count <= 6; count++) {
                FeatureClashes x = withText(2, 2, count, "0a-;");
                Sentences.dueRange(-1, count - 1, BAD_INDEX, x::read);
            }
            FeatureClashes x = withText(2, 2, 6, "0a>0/3;");
            x.setOn(5, false);
            due(x.read(5), 1);
            due(x.changes(5), 1);
            due(x.setOn(5, true), 0);
            due(x.changes(0), 0);
            due(x.removeArrow(0, 0), NONE);
        });
    }

    private static void readAnswers() {
        Sentences.says(15, "Returns the number of changes of the text", () -> {
            due(withText(1, 1, 1, "").read(0), 0);
            due(withText(1, 1, 1, "").read(-1), 0);
            due(withText(1, 1, 1, "0a-;").read(0), 1);
            due(withText(1, 1, 1, "0a>0/9;").read(-1), 1);
            due(withText(8, 4, 1, Made.LONGEST).read(0), 14);
            due(withText(8, 4, 1, mostChanges()).read(0), 20);
            due(withText(8, 4, 1, mostChanges()).read(-1), 20);
            // Of the text, not of what it makes different: there is nothing to remove.
            FeatureClashes x = withText(2, 2, 1, "0a-;0b-;1a-;1b-;");
            due(x.read(-1), 4);
            x.change(0, 0, 0, 0, 0);
            due(x.read(0), 4);
            due(x.read(0), 4);
        });
    }

    private static void readErrors() {
        Sentences.says(15, "BAD_INDEX", () -> {
            for (int f : new int[] {-2, 6, LEAST, MOST}) {
                Twins.dueRefused(Made.FULL, BAD_INDEX, x -> x.read(f));
                // Ahead of NOT_POSSIBLE.
                Twins.dueRefused(Made.SMALL, BAD_INDEX, x -> x.read(f));
            }
            Twins.dueRefused(Made.SMALL, BAD_INDEX, x -> x.read(3));
        });
        Sentences.says(15, "NOT_POSSIBLE if the text has a fault", () -> {
            for (int f = -1; f < 3; f++) {
                int feature = f;
                Twins.dueRefused(Made.SMALL, NOT_POSSIBLE, x -> x.read(feature));
            }
            String whole = "0a>1/7;";
            for (int length = 1; length < whole.length(); length++) {
                due(withText(2, 2, 1, whole.substring(0, length)).read(0), NOT_POSSIBLE);
                due(withText(2, 2, 1, whole.substring(0, length)).read(-1), NOT_POSSIBLE);
            }
            due(withText(2, 2, 1, "0a-;0a-;").read(0), NOT_POSSIBLE);
            due(withText(2, 2, 1, "2a-;").read(0), NOT_POSSIBLE);
            due(withText(2, 2, 1, "0c-;").read(0), NOT_POSSIBLE);
            due(withText(2, 2, 1, "0a>2/0;").read(-1), NOT_POSSIBLE);
            // The states and letters of the time of the call count.
            FeatureClashes x = withText(2, 2, 0, "2c>2/0;");
            due(x.read(-1), NOT_POSSIBLE);
            x.begin(3, 3);
            due(x.read(-1), 1);
            due(x.removeArrow(2, 2), 20);
            x.begin(2, 3);
            due(x.read(-1), NOT_POSSIBLE);
            x.begin(3, 2);
            due(x.read(-1), NOT_POSSIBLE);
        });
    }
}
