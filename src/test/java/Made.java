import java.util.function.Supplier;

/** Objects that the tests of the sentences begin with. */
final class Made {
    /** Everything at its limit, but for slot 1, which is empty. Takes some 190 calls. */
    static final Supplier<FeatureClashes> FULL = Made::full;

    /** A little of everything; the text has a fault, slot 0 is empty. */
    static final Supplier<FeatureClashes> SMALL = Made::small;

    /** The text of a full object: 80 bytes, 14 changes, 8 of which set an arrow. */
    static final String LONGEST = "0a>7/9;1b>6/8;2c>5/7;3d>4/6;4a>3/5;5b>2/4;6c>1/3;7d>0/0;"
        + "7a-;6b-;5c-;4d-;0b-;0c-;";

    private Made() {
    }

    static FeatureClashes plain(int states, int letters, int features) {
        FeatureClashes x = new FeatureClashes();
        x.begin(states, letters);
        addFeatures(x, features);
        return x;
    }

    static void addFeatures(FeatureClashes x, int count) {
        for (int i = 0; i < count; i++) {
            x.addFeature();
        }
    }

    /** All features of it change the output of the one arrow: every two of them clash. */
    static FeatureClashes rivals(int count) {
        FeatureClashes x = plain(1, 1, count);
        x.setArrow(0, 0, 0, 9);
        for (int i = 0; i < count; i++) {
            x.change(i, 0, 0, 0, i);
        }
        return x;
    }

    /** Each pair of features has an arrow of its own to fight for: all 720 orders differ. */
    static FeatureClashes allOrdersDiffer() {
        FeatureClashes x = plain(4, 4, 6);
        int cell = 0;
        for (int low = 0; low < 6; low++) {
            for (int high = low + 1; high < 6; high++) {
                int to = (cell / 4 + 1) % 4;
                x.change(low, cell / 4, cell % 4, to, low);
                x.change(high, cell / 4, cell % 4, to, high);
                cell++;
            }
        }
        return x;
    }

    static void write(FeatureClashes x, String text) {
        x.clearText();
        for (int i = 0; i < text.length(); i++) {
            x.append(text.charAt(i));
        }
    }

    static void addWord(FeatureClashes x, int... letters) {
        x.clearWord();
        for (int letter : letters) {
            x.add(letter);
        }
    }

    static void turnAll(FeatureClashes x, boolean on) {
        for (int feature = 0; feature < x.features(); feature++) {
            x.setOn(feature, on);
        }
    }

    private static FeatureClashes full() {
        FeatureClashes x = plain(8, 4, 0);
        for (int cell = 0; cell < 32; cell++) {
            x.setArrow(cell / 4, cell % 4, (3 * (cell / 4) + cell + 1) % 8, (cell / 4 + 2 * cell) % 10);
        }
        for (int f = 0; f < 6; f++) {
            x.addFeature();
            for (int i = 0; i < 5; i++) {
                x.change(f, (f + i) % 8, i % 4, (5 * f + i) % 8, (f + 3 * i) % 10);
            }
            x.changeToNone(f, (f + 7) % 8, f % 4);
            if (f == 2) {
                x.setOn(1, false);
                x.setBefore(2, 1);
                x.save(0);
                x.setOn(1, true);
                x.clearPriorities();
            }
        }
        x.setOn(3, false);
        x.setBefore(4, 2);
        x.setBefore(2, 0);
        write(x, LONGEST);
        for (int i = 0; i < 20; i++) {
            x.add((i * i + i / 3) % 4);
        }
        return x;
    }

    private static FeatureClashes small() {
        FeatureClashes x = plain(2, 3, 1);
        x.setArrow(1, 2, 1, 4);
        x.change(0, 0, 2, 1, 6);
        x.save(1);
        x.begin(3, 2);
        x.setArrow(0, 0, 1, 1);
        x.setArrow(1, 1, 2, 2);
        addFeatures(x, 3);
        x.change(0, 1, 0, 2, 3);
        x.change(1, 1, 0, 0, 3);
        x.changeToNone(1, 1, 1);
        x.setOn(2, false);
        x.setBefore(1, 0);
        write(x, "0a-;1b>2/5;x");
        addWord(x, 0, 0, 1);
        return x;
    }
}
