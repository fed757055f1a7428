/** For each promise of the document: ordinary inputs, the edges that it names, wrong inputs. */
public final class PromiseTest {
    private static final int BAD_INDEX = -1;
    private static final int BAD_VALUE = -2;
    private static final int NOT_POSSIBLE = -3;
    private static final int FULL = -4;
    private static final int NONE = -5;
    private static final int STOP = 10;
    private static final int LEAST = Integer.MIN_VALUE;
    private static final int MOST = Integer.MAX_VALUE;

    private static int wrong = 0;
    private static int promise = 0;
    private static int row = 0;

    private static void due(long got, long want) {
        row++;
        if (got != want) {
            wrong++;
            StackTraceElement at = new Throwable().getStackTrace()[1];
            System.out.println("promise " + promise + ", check " + row + " (" + at.getMethodName() + ", line "
                + at.getLineNumber() + "): answered " + got + ", due is " + want);
        }
    }

    private static void promise(int number) {
        promise = number;
        row = 0;
    }

    public static void main(String[] args) {
        newObject();
        begin();
        beginKeepsTextAndSlots();
        setArrow();
        removeArrow();
        addFeature();
        change();
        changeToNone();
        unchange();
        setOn();
        features();
        changes();
        append();
        clearText();
        faultPosition();
        faultPositionOfStatesAndLetters();
        faultPositionOfRepeats();
        read();
        readOnBase();
        clash();
        clashOfOffFeatures();
        witness();
        longestWitness();
        witnessAmongManyWords();
        clashes();
        results();
        mostResults();
        resultsThatAreAlike();
        resultsThatComeBack();
        resultsThatDifferLate();
        reach();
        setBefore();
        clearPriorities();
        isBefore();
        orders();
        resolved();
        open();
        isResolved();
        resolve();
        add();
        clearWord();
        answer();
        effect();
        save();
        restore();
        checksum();
        errorsChangeNothing();
        System.out.println(wrong == 0 ? "PromiseTest: all answers are as due" : "PromiseTest: " + wrong + " wrong");
        if (wrong != 0) {
            System.exit(1);
        }
    }

    private static FeatureClashes withFeatures(int states, int letters, int count) {
        FeatureClashes x = new FeatureClashes();
        x.begin(states, letters);
        for (int i = 0; i < count; i++) {
            x.addFeature();
        }
        return x;
    }

    /** All features of it change the output of the one arrow: every two of them clash. */
    private static FeatureClashes rivals(int count) {
        FeatureClashes x = withFeatures(1, 1, count);
        x.setArrow(0, 0, 0, 9);
        for (int i = 0; i < count; i++) {
            x.change(i, 0, 0, 0, i);
        }
        return x;
    }

    private static void write(FeatureClashes x, String text) {
        x.clearText();
        for (int i = 0; i < text.length(); i++) {
            x.append(text.charAt(i));
        }
    }

    private static int faultOf(FeatureClashes x, String text) {
        write(x, text);
        return x.faultPosition();
    }

    private static void newObject() {
        promise(1);
        FeatureClashes x = new FeatureClashes();
        due(x.features(), 0);
        due(x.clearWord(), 0);
        due(x.clearText(), 0);
        due(x.faultPosition(), NONE);
        due(x.restore(0), NOT_POSSIBLE);
        due(x.restore(1), NOT_POSSIBLE);
        due(x.clearPriorities(), 0);
        for (int state = 0; state < 2; state++) {
            for (int letter = 0; letter < 2; letter++) {
                due(x.removeArrow(state, letter), NONE);
            }
        }
        due(x.removeArrow(2, 0), BAD_INDEX);
        due(x.removeArrow(0, 2), BAD_INDEX);
        due(x.clashes(), 0);
        due(x.results(), 1);
        due(x.orders(), 1);
        due(x.open(), 0);
        due(x.isResolved(), 1);
        due(x.resolve(), 0);
        due(x.resolved(0), NONE);
        due(x.effect(0), NONE);
        due(x.answer(-1, 0), NONE);
        due(x.begin(1, 1), 22);
    }

    private static void begin() {
        promise(2);
        FeatureClashes x = new FeatureClashes();
        due(x.begin(8, 4), 22);
        due(x.begin(1, 1), 84);
        due(x.begin(0, 1), BAD_VALUE);
        due(x.begin(9, 1), BAD_VALUE);
        due(x.begin(1, 0), BAD_VALUE);
        due(x.begin(1, 5), BAD_VALUE);
        due(x.begin(LEAST, MOST), BAD_VALUE);
        due(x.begin(3, 2), 11);
        x.setArrow(2, 1, 2, 7);
        x.addFeature();
        x.addFeature();
        x.change(0, 2, 1, 0, 1);
        x.setOn(1, false);
        x.setBefore(0, 1);
        x.add(1);
        due(x.begin(3, 9), BAD_VALUE);
        due(x.features(), 2);
        due(x.begin(3, 2), 32);
        due(x.features(), 0);
        due(x.clearWord(), 0);
        due(x.clearPriorities(), 0);
        due(x.removeArrow(2, 1), NONE);
        due(x.addFeature(), 0);
        due(x.addFeature(), 1);
        due(x.changes(0), 0);
        due(x.isBefore(0, 1), 0);
        due(x.setOn(1, true), 1);
        x.begin(3, 2);
        due(x.orders(), 1);
        due(x.resolved(0), NONE);
    }

    private static void beginKeepsTextAndSlots() {
        promise(2);
        FeatureClashes x = rivals(3);
        x.save(1);
        write(x, "0a-;");
        x.begin(2, 2);
        due(x.restore(0), NOT_POSSIBLE);
        due(x.restore(1), 3);
        due(x.clearText(), 4);
    }

    private static void setArrow() {
        promise(3);
        FeatureClashes x = new FeatureClashes();
        x.begin(3, 2);
        due(x.setArrow(2, 1, 2, 9), NONE);
        due(x.setArrow(2, 1, 0, 0), 29);
        due(x.setArrow(2, 1, 1, 5), 0);
        due(x.setArrow(-1, 0, 0, 0), BAD_INDEX);
        due(x.setArrow(3, 0, 0, 0), BAD_INDEX);
        due(x.setArrow(0, -1, 0, 0), BAD_INDEX);
        due(x.setArrow(0, 2, 0, 0), BAD_INDEX);
        due(x.setArrow(0, 0, -1, 0), BAD_INDEX);
        due(x.setArrow(0, 0, 3, 0), BAD_INDEX);
        due(x.setArrow(0, 0, 3, 10), BAD_INDEX);
        due(x.setArrow(0, 0, 0, -1), BAD_VALUE);
        due(x.setArrow(0, 0, 0, 10), BAD_VALUE);
        due(x.setArrow(LEAST, MOST, LEAST, MOST), BAD_INDEX);
        due(x.removeArrow(0, 0), NONE);
        due(x.setArrow(2, 1, 2, 10), BAD_VALUE);
        due(x.removeArrow(2, 1), 15);
    }

    private static void removeArrow() {
        promise(4);
        FeatureClashes x = new FeatureClashes();
        x.begin(8, 4);
        x.setArrow(7, 3, 7, 9);
        x.setArrow(0, 0, 0, 0);
        due(x.removeArrow(7, 3), 79);
        due(x.removeArrow(7, 3), NONE);
        due(x.removeArrow(0, 0), 0);
        due(x.removeArrow(0, 0), NONE);
        due(x.removeArrow(8, 0), BAD_INDEX);
        due(x.removeArrow(-1, 0), BAD_INDEX);
        due(x.removeArrow(0, 4), BAD_INDEX);
        due(x.removeArrow(0, -1), BAD_INDEX);
        due(x.removeArrow(MOST, LEAST), BAD_INDEX);
    }

    private static void addFeature() {
        promise(5);
        FeatureClashes x = new FeatureClashes();
        for (int i = 0; i < 6; i++) {
            due(x.addFeature(), i);
            due(x.changes(i), 0);
            due(x.setOn(i, true), 1);
        }
        due(x.addFeature(), FULL);
        due(x.features(), 6);
    }

    private static void change() {
        promise(6);
        FeatureClashes x = withFeatures(3, 2, 2);
        due(x.change(1, 0, 0, 2, 9), 1);
        due(x.change(1, 2, 1, 0, 0), 2);
        due(x.change(1, 2, 1, 1, 3), 2);
        due(x.changeToNone(1, 0, 1), 3);
        due(x.change(1, 0, 1, 1, 4), 3);
        due(x.change(-1, 0, 0, 0, 0), BAD_INDEX);
        due(x.change(2, 0, 0, 0, 0), BAD_INDEX);
        due(x.change(0, -1, 0, 0, 0), BAD_INDEX);
        due(x.change(0, 3, 0, 0, 0), BAD_INDEX);
        due(x.change(0, 0, -1, 0, 0), BAD_INDEX);
        due(x.change(0, 0, 2, 0, 0), BAD_INDEX);
        due(x.change(0, 0, 0, -1, 0), BAD_INDEX);
        due(x.change(0, 0, 0, 3, 10), BAD_INDEX);
        due(x.change(0, 0, 0, 0, 10), BAD_VALUE);
        due(x.change(0, 0, 0, 0, -1), BAD_VALUE);
        due(x.changes(0), 0);
        x.add(0);
        x.add(1);
        x.add(0);
        due(x.answer(1, 0), 9);
        due(x.answer(1, 1), 3);
        due(x.answer(1, 2), STOP);
        due(x.answer(-1, 0), STOP);
    }

    private static void changeToNone() {
        promise(7);
        FeatureClashes x = withFeatures(2, 2, 1);
        x.setArrow(0, 0, 0, 4);
        x.add(0);
        due(x.answer(0, 0), 4);
        due(x.changeToNone(0, 0, 0), 1);
        due(x.answer(0, 0), STOP);
        due(x.change(0, 0, 0, 1, 5), 1);
        due(x.answer(0, 0), 5);
        due(x.changeToNone(0, 0, 0), 1);
        due(x.answer(0, 0), STOP);
        due(x.changeToNone(0, 1, 1), 2);
        due(x.changeToNone(0, 1, 1), 2);
        due(x.changeToNone(1, 0, 0), BAD_INDEX);
        due(x.changeToNone(-1, 0, 0), BAD_INDEX);
        due(x.changeToNone(0, 2, 0), BAD_INDEX);
        due(x.changeToNone(0, -1, 0), BAD_INDEX);
        due(x.changeToNone(0, 0, 2), BAD_INDEX);
        due(x.changeToNone(0, 0, -1), BAD_INDEX);
        due(x.changes(0), 2);
        due(x.answer(-1, 0), 4);
    }

    private static void unchange() {
        promise(8);
        FeatureClashes x = withFeatures(2, 2, 2);
        x.setArrow(0, 0, 0, 4);
        x.change(0, 0, 0, 1, 5);
        x.changeToNone(0, 1, 1);
        x.change(1, 0, 0, 1, 6);
        x.add(0);
        due(x.unchange(0, 0, 1), NONE);
        due(x.unchange(0, 0, 0), 1);
        due(x.answer(0, 0), 4);
        due(x.unchange(0, 0, 0), NONE);
        due(x.unchange(0, 1, 1), 0);
        due(x.changes(1), 1);
        due(x.unchange(2, 0, 0), BAD_INDEX);
        due(x.unchange(-1, 0, 0), BAD_INDEX);
        due(x.unchange(1, 2, 0), BAD_INDEX);
        due(x.unchange(1, -1, 0), BAD_INDEX);
        due(x.unchange(1, 0, 2), BAD_INDEX);
        due(x.unchange(1, 0, -1), BAD_INDEX);
        due(x.changes(1), 1);
    }

    private static void setOn() {
        promise(9);
        FeatureClashes x = rivals(3);
        due(x.setOn(1, true), 1);
        due(x.setOn(1, false), 1);
        due(x.setOn(1, false), 0);
        due(x.clashes(), 1);
        due(x.setOn(1, true), 0);
        due(x.clashes(), 3);
        due(x.setOn(3, true), BAD_INDEX);
        due(x.setOn(-1, false), BAD_INDEX);
        due(x.setOn(MOST, false), BAD_INDEX);
        due(x.orders(), 6);
    }

    private static void features() {
        promise(10);
        FeatureClashes x = rivals(4);
        due(x.features(), 4);
        x.setOn(0, false);
        due(x.features(), 4);
        x.addFeature();
        due(x.features(), 5);
    }

    private static void changes() {
        promise(11);
        FeatureClashes x = withFeatures(8, 4, 1);
        due(x.changes(0), 0);
        for (int i = 0; i < 32; i++) {
            x.change(0, i / 4, i % 4, 0, 0);
            due(x.changes(0), i + 1);
        }
        x.setOn(0, false);
        due(x.changes(0), 32);
        due(x.changes(1), BAD_INDEX);
        due(x.changes(-1), BAD_INDEX);
    }

    private static void append() {
        promise(12);
        FeatureClashes x = new FeatureClashes();
        due(x.append(0), 1);
        due(x.append(127), 2);
        due(x.append(-1), BAD_VALUE);
        due(x.append(128), BAD_VALUE);
        for (int i = 3; i <= 80; i++) {
            due(x.append('a'), i);
        }
        due(x.append('a'), FULL);
        due(x.append(128), BAD_VALUE);
        due(x.append(LEAST), BAD_VALUE);
        due(x.clearText(), 80);
    }

    private static void clearText() {
        promise(13);
        FeatureClashes x = new FeatureClashes();
        due(x.clearText(), 0);
        x.append('?');
        due(x.clearText(), 1);
        due(x.clearText(), 0);
        due(x.faultPosition(), NONE);
        due(x.append('0'), 1);
    }

    private static void faultPosition() {
        promise(14);
        FeatureClashes x = new FeatureClashes();
        due(faultOf(x, ""), NONE);
        due(faultOf(x, "0a-;"), NONE);
        due(faultOf(x, "0a>1/9;"), NONE);
        due(faultOf(x, "1b>0/0;0a-;1a>1/5;"), NONE);
        String whole = "0a>1/9;";
        for (int i = 1; i < whole.length(); i++) {
            due(faultOf(x, whole.substring(0, i)), i);
        }
        due(faultOf(x, "0a-"), 3);
        due(faultOf(x, ";"), 0);
        due(faultOf(x, "0a-;;"), 4);
        due(faultOf(x, "a0-;"), 0);
        due(faultOf(x, "0A-;"), 1);
        due(faultOf(x, "00-;"), 1);
        due(faultOf(x, "0a<1/1;"), 2);
        due(faultOf(x, "0a=;"), 2);
        due(faultOf(x, "0a>a/1;"), 3);
        due(faultOf(x, "0a>1-1;"), 4);
        due(faultOf(x, "0a>1/:;"), 5);
        due(faultOf(x, "0a>1/.;"), 5);
        due(faultOf(x, "0a>1/11;"), 6);
        due(faultOf(x, "0a-1;"), 3);
        due(faultOf(x, "0a- ;"), 3);
        due(faultOf(x, " 0a-;"), 0);
        due(faultOf(x, "0a-; "), 4);
        due(faultOf(x, "0a-;1a>1/9;0b-?0b"), 14);
    }

    private static void faultPositionOfStatesAndLetters() {
        promise(14);
        FeatureClashes x = new FeatureClashes();
        due(faultOf(x, "2a-;"), 0);
        due(faultOf(x, "/a-;"), 0);
        due(faultOf(x, "0c-;"), 1);
        due(faultOf(x, "0`-;"), 1);
        due(faultOf(x, "0a>2/0;"), 3);
        due(faultOf(x, "0a>//0;"), 3);
        x.begin(8, 4);
        due(x.faultPosition(), 3);
        due(faultOf(x, "7d>7/9;"), NONE);
        due(faultOf(x, "8a-;"), 0);
        due(faultOf(x, "9a-;"), 0);
        due(faultOf(x, "0e-;"), 1);
        due(faultOf(x, "0a>8/9;"), 3);
        write(x, "7d>7/9;");
        x.begin(7, 4);
        due(x.faultPosition(), 0);
        x.begin(8, 3);
        due(x.faultPosition(), 1);
        write(x, "0a>7/9;");
        due(x.faultPosition(), NONE);
        x.begin(7, 3);
        due(x.faultPosition(), 3);
    }

    private static void faultPositionOfRepeats() {
        promise(14);
        FeatureClashes x = new FeatureClashes();
        due(faultOf(x, "0a-;0a-;"), 5);
        due(faultOf(x, "0a>1/1;0a>1/1;"), 8);
        due(faultOf(x, "0a-;1a-;0b-;1b-;0"), 17);
        due(faultOf(x, "0a-;1a-;0b-;1b-;0a"), 17);
        due(faultOf(x, "0a-;1a-;0b-;1b-;"), NONE);
        x.begin(8, 4);
        StringBuilder longest = new StringBuilder();
        for (int i = 0; i < 20; i++) {
            longest.append((char) ('0' + i % 8)).append((char) ('a' + i / 8)).append("-;");
        }
        due(faultOf(x, longest.toString()), NONE);
        x.addFeature();
        due(x.read(0), 20);
        due(faultOf(x, longest.substring(0, 76) + "7d>7"), 80);
    }

    private static void read() {
        promise(15);
        FeatureClashes x = withFeatures(2, 2, 2);
        x.setArrow(0, 0, 0, 3);
        x.change(0, 1, 1, 1, 1);
        write(x, "0a>1/7;1a-;");
        due(x.read(0), 2);
        due(x.changes(0), 2);
        due(x.unchange(0, 1, 1), NONE);
        x.add(0);
        x.add(0);
        due(x.answer(0, 0), 7);
        due(x.answer(-1, 0), 3);
        due(x.changes(1), 0);
        due(x.read(2), BAD_INDEX);
        due(x.read(-2), BAD_INDEX);
        due(x.clearText(), 11);
        write(x, "0a-;x");
        due(x.read(2), BAD_INDEX);
        due(x.read(-2), BAD_INDEX);
        due(x.read(0), NOT_POSSIBLE);
        due(x.read(-1), NOT_POSSIBLE);
        due(x.changes(0), 2);
        due(x.answer(0, 0), 7);
        due(x.answer(-1, 0), 3);
        write(x, "0a-");
        due(x.read(0), NOT_POSSIBLE);
        x.clearText();
        due(x.read(-1), 0);
        due(x.answer(-1, 0), 3);
        due(x.read(0), 0);
        due(x.changes(0), 0);
        x.setOn(1, false);
        write(x, "1b>0/9;");
        due(x.read(1), 1);
        due(x.setOn(1, true), 0);
        due(x.changes(1), 1);
    }

    private static void readOnBase() {
        promise(15);
        FeatureClashes x = new FeatureClashes();
        x.setArrow(0, 0, 0, 3);
        x.setArrow(0, 1, 1, 4);
        x.setArrow(1, 1, 1, 5);
        write(x, "0a-;1a-;0b>0/8;1b>0/9;");
        due(x.read(-1), 4);
        due(x.clearText(), 22);
        due(x.removeArrow(0, 0), NONE);
        due(x.removeArrow(1, 0), NONE);
        due(x.removeArrow(0, 1), 8);
        due(x.removeArrow(1, 1), 9);
        x.setArrow(1, 0, 1, 2);
        write(x, "0a>1/1;");
        due(x.read(-1), 1);
        due(x.removeArrow(1, 0), 12);
        due(x.removeArrow(0, 0), 11);
    }

    private static void clash() {
        promise(16);
        FeatureClashes x = withFeatures(3, 2, 3);
        due(x.clash(0, 1), 0);
        due(x.clash(0, 0), BAD_INDEX);
        due(x.clash(3, 0), BAD_INDEX);
        due(x.clash(0, 3), BAD_INDEX);
        due(x.clash(-1, 0), BAD_INDEX);
        due(x.clash(0, -1), BAD_INDEX);
        x.change(0, 0, 0, 1, 4);
        x.change(1, 0, 0, 1, 5);
        due(x.clash(0, 1), 1);
        due(x.clash(1, 0), 1);
        due(x.clash(0, 2), 0);
        x.change(1, 0, 0, 1, 4);
        due(x.clash(0, 1), 0);
        // States 1 and 2 answer alike, so it makes no difference which one follows.
        x.change(1, 0, 0, 2, 4);
        due(x.clash(0, 1), 0);
        x.setArrow(2, 1, 0, 0);
        due(x.clash(0, 1), 1);
        x.setArrow(1, 1, 0, 0);
        due(x.clash(0, 1), 0);
        x.changeToNone(1, 0, 0);
        due(x.clash(0, 1), 1);
        x.changeToNone(0, 0, 0);
        due(x.clash(0, 1), 0);
        // An arrow that no word comes to.
        x.change(0, 2, 0, 0, 1);
        x.change(1, 2, 0, 0, 2);
        due(x.clash(0, 1), 0);
        x.setArrow(0, 1, 2, 1);
        due(x.clash(0, 1), 1);
    }

    private static void clashOfOffFeatures() {
        promise(16);
        FeatureClashes x = rivals(2);
        x.setOn(0, false);
        x.setOn(1, false);
        due(x.clash(0, 1), 1);
        due(x.witness(0, 1, 0), 0);
        x.setBefore(0, 1);
        due(x.clash(0, 1), 1);
        // A third feature does not count, though it would hide the clash.
        due(x.addFeature(), 2);
        x.changeToNone(2, 0, 0);
        due(x.clash(1, 0), 1);
    }

    private static void witness() {
        promise(17);
        FeatureClashes x = withFeatures(3, 3, 2);
        x.setArrow(0, 2, 1, 0);
        x.setArrow(0, 1, 2, 0);
        x.setArrow(2, 0, 1, 0);
        // The words "ca" and "cc" both show it, "baa" too, but that is longer.
        x.change(0, 1, 0, 0, 1);
        x.change(1, 1, 0, 0, 2);
        x.change(0, 1, 2, 0, 1);
        x.change(1, 1, 2, 0, 2);
        due(x.witness(0, 1, 0), 2);
        due(x.witness(0, 1, 1), 0);
        due(x.witness(0, 1, 2), NONE);
        due(x.witness(1, 0, 0), 2);
        due(x.witness(1, 0, 1), 0);
        due(x.witness(1, 0, MOST), NONE);
        // Now "ba" shows it as well, and comes before "ca".
        x.change(0, 2, 0, 0, 3);
        x.change(1, 2, 0, 0, 4);
        due(x.witness(0, 1, 0), 1);
        due(x.witness(0, 1, 1), 0);
        due(x.witness(0, 1, 2), NONE);
        due(x.witness(0, 1, -1), BAD_INDEX);
        due(x.witness(0, 0, 0), BAD_INDEX);
        due(x.witness(0, 2, 0), BAD_INDEX);
        due(x.witness(2, 0, 0), BAD_INDEX);
        due(x.witness(-1, 0, 0), BAD_INDEX);
        due(x.witness(0, -1, 0), BAD_INDEX);
        FeatureClashes y = withFeatures(2, 2, 2);
        due(y.witness(0, 1, 0), NONE);
        due(y.witness(0, 1, -1), BAD_INDEX);
    }

    private static void longestWitness() {
        promise(17);
        FeatureClashes x = withFeatures(8, 2, 2);
        for (int state = 0; state < 7; state++) {
            x.setArrow(state, 0, state + 1, 0);
        }
        x.setArrow(6, 1, 6, 1);
        x.change(0, 7, 0, 7, 0);
        x.change(1, 7, 0, 0, 0);
        // After 8 letters one machine is in state 7, the other in 0; only in 6 b is answered.
        for (int index = 0; index < 14; index++) {
            due(x.witness(0, 1, index), 0);
        }
        due(x.witness(0, 1, 14), 1);
        due(x.witness(0, 1, 15), NONE);
    }

    /** Many words lead to the same states; only the first one to each of them counts. */
    private static void witnessAmongManyWords() {
        promise(17);
        FeatureClashes x = withFeatures(8, 4, 2);
        int[] way = {3, 1, 2, 0, 3, 2, 1};
        for (int state = 0; state < 8; state++) {
            for (int letter = 0; letter < 4; letter++) {
                x.setArrow(state, letter, 0, 0);
            }
        }
        for (int state = 0; state < 7; state++) {
            for (int letter = way[state]; letter < 4; letter++) {
                x.setArrow(state, letter, state + 1, 0);
            }
        }
        x.change(0, 7, 2, 0, 1);
        x.change(1, 7, 2, 0, 2);
        for (int index = 0; index < 7; index++) {
            due(x.witness(0, 1, index), way[index]);
        }
        due(x.witness(0, 1, 7), 2);
        due(x.witness(0, 1, 8), NONE);
    }

    private static void clashes() {
        promise(18);
        FeatureClashes x = rivals(6);
        due(x.clashes(), 15);
        x.setOn(5, false);
        due(x.clashes(), 10);
        x.setOn(0, false);
        due(x.clashes(), 6);
        x.change(1, 0, 0, 0, 2);
        due(x.clashes(), 5);
        x.setBefore(3, 4);
        due(x.clashes(), 5);
        for (int i = 0; i < 5; i++) {
            x.setOn(i, false);
        }
        due(x.clashes(), 0);
    }

    private static void results() {
        promise(19);
        FeatureClashes x = rivals(6);
        due(x.results(), 6);
        x.setBefore(0, 1);
        x.setBefore(1, 2);
        due(x.results(), 6);
        x.setOn(3, false);
        due(x.results(), 5);
        for (int i = 0; i < 6; i++) {
            x.setOn(i, false);
        }
        due(x.results(), 1);
        x.setOn(2, true);
        due(x.results(), 1);
    }

    /** Each pair of features has an arrow of its own to fight for: all 720 orders differ. */
    private static FeatureClashes allOrdersDiffer() {
        FeatureClashes x = withFeatures(4, 4, 6);
        int cell = 0;
        for (int low = 0; low < 6; low++) {
            for (int high = low + 1; high < 6; high++) {
                int to = (cell / 4 + 1) % 4;
                x.change(low, cell / 4, cell % 4, to, low);
                x.change(high, cell / 4, cell % 4, to, high);
                cell++;
            }
        }
        return x;
    }

    private static void mostResults() {
        promise(19);
        FeatureClashes x = allOrdersDiffer();
        due(x.results(), 720);
        due(x.orders(), 720);
        due(x.clashes(), 15);
        x.setOn(5, false);
        due(x.results(), 120);
        x.setOn(5, true);
        due(x.isResolved(), 0);
        due(x.resolve(), 15);
        due(x.isResolved(), 1);
        due(x.results(), 720);
    }

    private static void resultsThatAreAlike() {
        promise(19);
        FeatureClashes x = withFeatures(4, 1, 3);
        x.setArrow(1, 0, 2, 5);
        x.setArrow(2, 0, 1, 5);
        x.setArrow(3, 0, 3, 5);
        // Whichever of them is last, state 0 goes to a state that answers 5 for ever.
        x.change(0, 0, 0, 1, 0);
        x.change(1, 0, 0, 2, 0);
        x.change(2, 0, 0, 3, 0);
        due(x.results(), 1);
        x.setArrow(3, 0, 3, 6);
        due(x.results(), 2);
        x.removeArrow(3, 0);
        due(x.results(), 2);
        x.change(2, 0, 0, 0, 0);
        due(x.results(), 2);
        x.changeToNone(2, 0, 0);
        due(x.results(), 2);
    }

    /** No arrow, an arrow back to state 0 and one to a state that is like it. */
    private static void resultsThatComeBack() {
        promise(19);
        FeatureClashes x = withFeatures(3, 2, 3);
        x.setArrow(0, 0, 0, 0);
        x.setArrow(1, 0, 1, 0);
        x.setArrow(0, 1, 0, 0);
        x.setArrow(1, 1, 1, 0);
        x.change(0, 0, 1, 0, 0);
        x.change(1, 0, 1, 1, 0);
        due(x.results(), 1);
        x.changeToNone(2, 0, 1);
        due(x.results(), 2);
        x.change(2, 0, 1, 2, 0);
        due(x.results(), 2);
        // All states answer 0 for ever then, whichever feature is last.
        x.setArrow(2, 0, 1, 0);
        x.setArrow(2, 1, 1, 0);
        due(x.results(), 1);
        x.setArrow(1, 1, 1, 9);
        due(x.results(), 3);
        x.setArrow(2, 1, 1, 9);
        due(x.results(), 2);
    }

    /** Two chains of states that differ only at their ends. */
    private static void resultsThatDifferLate() {
        promise(19);
        FeatureClashes x = withFeatures(8, 1, 2);
        x.change(0, 0, 0, 1, 0);
        x.change(1, 0, 0, 4, 0);
        for (int i = 0; i < 2; i++) {
            x.setArrow(1 + i, 0, 2 + i, 0);
            x.setArrow(4 + i, 0, 5 + i, 0);
        }
        due(x.results(), 1);
        x.setArrow(3, 0, 7, 0);
        due(x.results(), 2);
        x.setArrow(6, 0, 7, 0);
        due(x.results(), 1);
        x.setArrow(6, 0, 7, 1);
        due(x.results(), 2);
        due(x.clash(0, 1), 1);
        x.setArrow(3, 0, 7, 1);
        due(x.results(), 1);
    }

    private static void reach() {
        promise(20);
        FeatureClashes x = withFeatures(5, 2, 2);
        due(x.reach(0), 0);
        x.change(0, 0, 0, 0, 1);
        due(x.reach(0), 1);
        x.change(0, 4, 0, 0, 1);
        x.changeToNone(0, 4, 1);
        due(x.reach(0), 1);
        x.setArrow(0, 1, 2, 0);
        x.setArrow(2, 0, 4, 0);
        due(x.reach(0), 3);
        // Reached in the base machine alone, as the feature takes the way there off.
        x.changeToNone(0, 0, 1);
        due(x.reach(0), 4);
        x.removeArrow(0, 1);
        due(x.reach(0), 2);
        // Reached with the feature alone.
        x.change(0, 0, 1, 2, 0);
        due(x.reach(0), 4);
        // What another feature reaches does not count.
        x.removeArrow(2, 0);
        x.change(1, 2, 0, 4, 0);
        due(x.reach(0), 2);
        x.setOn(0, false);
        due(x.reach(0), 2);
        due(x.reach(1), 0);
        due(x.reach(2), BAD_INDEX);
        due(x.reach(-1), BAD_INDEX);
        // The way there may be long, against the order of the states.
        FeatureClashes y = withFeatures(8, 1, 1);
        y.setArrow(0, 0, 7, 0);
        for (int state = 7; state > 1; state--) {
            y.setArrow(state, 0, state - 1, 0);
        }
        y.changeToNone(0, 1, 0);
        due(y.reach(0), 1);
    }

    private static void setBefore() {
        promise(21);
        FeatureClashes x = withFeatures(1, 1, 6);
        due(x.setBefore(0, 1), 1);
        due(x.setBefore(0, 1), 1);
        due(x.setBefore(1, 0), NOT_POSSIBLE);
        due(x.setBefore(2, 3), 2);
        due(x.setBefore(1, 2), 6);
        due(x.setBefore(3, 0), NOT_POSSIBLE);
        due(x.setBefore(0, 3), 6);
        x.setOn(1, false);
        x.setOn(4, false);
        due(x.setBefore(5, 4), 7);
        due(x.setBefore(4, 0), 15);
        due(x.setBefore(3, 5), NOT_POSSIBLE);
        due(x.setBefore(0, 0), BAD_INDEX);
        due(x.setBefore(6, 0), BAD_INDEX);
        due(x.setBefore(0, 6), BAD_INDEX);
        due(x.setBefore(-1, 0), BAD_INDEX);
        due(x.setBefore(0, -1), BAD_INDEX);
        due(x.setBefore(5, 3), 15);
    }

    private static void clearPriorities() {
        promise(22);
        FeatureClashes x = withFeatures(1, 1, 4);
        x.setBefore(0, 1);
        x.setBefore(1, 2);
        due(x.clearPriorities(), 3);
        due(x.clearPriorities(), 0);
        due(x.isBefore(0, 1), 0);
        due(x.isBefore(0, 2), 0);
        due(x.setBefore(2, 0), 1);
        x.setOn(2, false);
        due(x.clearPriorities(), 1);
    }

    private static void isBefore() {
        promise(23);
        FeatureClashes x = withFeatures(1, 1, 4);
        x.setBefore(3, 1);
        x.setBefore(1, 0);
        due(x.isBefore(3, 1), 1);
        due(x.isBefore(3, 0), 1);
        due(x.isBefore(0, 3), 0);
        due(x.isBefore(1, 3), 0);
        due(x.isBefore(2, 3), 0);
        due(x.isBefore(3, 3), 0);
        x.setOn(1, false);
        due(x.isBefore(3, 0), 1);
        due(x.isBefore(4, 0), BAD_INDEX);
        due(x.isBefore(0, 4), BAD_INDEX);
        due(x.isBefore(-1, 0), BAD_INDEX);
        due(x.isBefore(0, -1), BAD_INDEX);
        due(x.isBefore(4, 4), BAD_INDEX);
    }

    private static void orders() {
        promise(24);
        FeatureClashes x = withFeatures(1, 1, 0);
        int[] factorials = {1, 1, 2, 6, 24, 120, 720};
        due(x.orders(), 1);
        for (int i = 1; i <= 6; i++) {
            x.addFeature();
            due(x.orders(), factorials[i]);
        }
        x.setBefore(5, 0);
        due(x.orders(), 360);
        x.setBefore(5, 1);
        due(x.orders(), 240);
        x.setBefore(1, 0);
        due(x.orders(), 120);
        // 5 is before 0 by way of 1, also if 1 is off.
        x.setOn(1, false);
        due(x.orders(), 60);
        x.setOn(0, false);
        due(x.orders(), 24);
        for (int i = 0; i < 6; i++) {
            x.setOn(i, false);
        }
        due(x.orders(), 1);
    }

    private static void resolved() {
        promise(25);
        FeatureClashes x = withFeatures(1, 1, 4);
        for (int i = 0; i < 4; i++) {
            due(x.resolved(i), i);
        }
        due(x.resolved(4), NONE);
        due(x.resolved(MOST), NONE);
        due(x.resolved(-1), BAD_INDEX);
        x.setBefore(3, 0);
        int[] withOnePriority = {1, 2, 3, 0};
        for (int i = 0; i < 4; i++) {
            due(x.resolved(i), withOnePriority[i]);
        }
        x.setBefore(0, 1);
        int[] withTwo = {2, 3, 0, 1};
        for (int i = 0; i < 4; i++) {
            due(x.resolved(i), withTwo[i]);
        }
        x.setOn(0, false);
        int[] withoutOne = {2, 3, 1, NONE, NONE};
        for (int i = 0; i < 5; i++) {
            due(x.resolved(i), withoutOne[i]);
        }
        FeatureClashes none = new FeatureClashes();
        due(none.resolved(0), NONE);
        due(none.resolved(-1), BAD_INDEX);
    }

    private static void open() {
        promise(26);
        FeatureClashes x = rivals(4);
        due(x.open(), 6);
        x.setBefore(3, 1);
        due(x.open(), 5);
        x.setBefore(1, 0);
        due(x.open(), 3);
        x.setOn(1, false);
        due(x.open(), 2);
        x.setOn(2, false);
        due(x.open(), 0);
        x.clearPriorities();
        due(x.open(), 1);
        x.change(3, 0, 0, 0, 0);
        due(x.open(), 0);
    }

    private static void isResolved() {
        promise(27);
        FeatureClashes x = rivals(3);
        due(x.isResolved(), 0);
        x.setBefore(0, 1);
        due(x.isResolved(), 0);
        // The last one is settled then, though the pair 0, 2 is not: it stays open.
        x.setBefore(2, 1);
        due(x.isResolved(), 1);
        due(x.open(), 1);
        x.setOn(1, false);
        due(x.isResolved(), 0);
        x.setOn(0, false);
        due(x.isResolved(), 1);
        x.setOn(2, false);
        due(x.isResolved(), 1);
        // A third feature shows what two of them hide: there is no clash, yet two results.
        FeatureClashes y = withFeatures(3, 2, 3);
        y.change(0, 2, 0, 2, 5);
        y.change(1, 2, 0, 0, 4);
        y.change(2, 0, 1, 2, 5);
        due(y.clashes(), 0);
        due(y.open(), 0);
        due(y.isResolved(), 0);
        y.setBefore(1, 0);
        due(y.isResolved(), 1);
        // A priority between features that change nothing in common settles nothing else.
        FeatureClashes z = withFeatures(1, 2, 3);
        z.change(0, 0, 0, 0, 1);
        z.change(1, 0, 0, 0, 2);
        z.change(2, 0, 1, 0, 3);
        z.setBefore(2, 0);
        due(z.isResolved(), 0);
        z.setBefore(1, 2);
        due(z.isResolved(), 1);
        due(z.open(), 0);
    }

    private static void resolve() {
        promise(28);
        FeatureClashes x = rivals(4);
        due(x.resolve(), 6);
        due(x.resolve(), 0);
        due(x.open(), 0);
        for (int low = 0; low < 4; low++) {
            for (int high = low + 1; high < 4; high++) {
                due(x.isBefore(low, high), 1);
            }
        }
        x.clearPriorities();
        x.setBefore(3, 0);
        // 0 before 1, so 3 before 1; then 0 before 2, so 3 before 2; then 1 before 2.
        due(x.resolve(), 3);
        due(x.isBefore(3, 1), 1);
        due(x.isBefore(1, 2), 1);
        due(x.resolved(0), 3);
        x.clearPriorities();
        x.setOn(2, false);
        due(x.resolve(), 3);
        due(x.isBefore(1, 2), 0);
        due(x.isBefore(2, 3), 0);
        FeatureClashes y = withFeatures(1, 1, 3);
        due(y.resolve(), 0);
        due(y.clearPriorities(), 0);
    }

    private static void add() {
        promise(29);
        FeatureClashes x = new FeatureClashes();
        x.begin(1, 3);
        due(x.add(3), BAD_INDEX);
        due(x.add(-1), BAD_INDEX);
        for (int i = 1; i <= 20; i++) {
            due(x.add(i % 3), i);
        }
        due(x.add(0), FULL);
        due(x.add(3), BAD_INDEX);
        due(x.clearWord(), 20);
    }

    private static void clearWord() {
        promise(30);
        FeatureClashes x = new FeatureClashes();
        due(x.clearWord(), 0);
        x.add(0);
        x.add(1);
        due(x.clearWord(), 2);
        due(x.answer(-1, 0), NONE);
        due(x.clearWord(), 0);
        due(x.add(1), 1);
    }

    private static void answer() {
        promise(31);
        FeatureClashes x = withFeatures(2, 2, 2);
        x.setArrow(0, 0, 1, 1);
        x.setArrow(1, 0, 0, 2);
        x.change(0, 1, 1, 1, 3);
        x.change(1, 1, 1, 0, 4);
        int[] word = {0, 1, 0, 0};
        for (int letter : word) {
            x.add(letter);
        }
        int[] ofBase = {1, STOP, STOP, STOP};
        int[] ofFirst = {1, 3, 2, 1};
        int[] ofSecond = {1, 4, 1, 2};
        for (int i = 0; i < 4; i++) {
            due(x.answer(-1, i), ofBase[i]);
            due(x.answer(0, i), ofFirst[i]);
            due(x.answer(1, i), ofSecond[i]);
            due(x.answer(-2, i), ofSecond[i]);
        }
        x.setBefore(1, 0);
        due(x.answer(-2, 1), 3);
        x.setOn(0, false);
        due(x.answer(-2, 1), 4);
        due(x.answer(0, 1), 3);
        x.setOn(1, false);
        due(x.answer(-2, 1), STOP);
        due(x.answer(-2, 4), NONE);
        due(x.answer(1, MOST), NONE);
        due(x.answer(-3, 0), BAD_INDEX);
        due(x.answer(2, 0), BAD_INDEX);
        due(x.answer(2, 9), BAD_INDEX);
        due(x.answer(0, -1), BAD_INDEX);
        due(x.answer(-2, -1), BAD_INDEX);
        due(x.answer(LEAST, LEAST), BAD_INDEX);
    }

    private static void effect() {
        promise(32);
        FeatureClashes x = withFeatures(3, 2, 2);
        x.setArrow(0, 1, 1, 0);
        x.setArrow(0, 0, 2, 0);
        due(x.effect(0), NONE);
        due(x.effect(-1), BAD_INDEX);
        x.change(0, 1, 0, 0, 1);
        due(x.effect(0), 1);
        due(x.effect(1), 0);
        due(x.effect(2), NONE);
        due(x.effect(MOST), NONE);
        x.change(1, 2, 1, 0, 1);
        due(x.effect(0), 0);
        due(x.effect(1), 1);
        due(x.effect(2), NONE);
        x.changeToNone(0, 2, 1);
        due(x.effect(0), 0);
        x.setBefore(1, 0);
        due(x.effect(0), 1);
        due(x.effect(1), 0);
        x.setOn(0, false);
        due(x.effect(0), 0);
        x.setOn(1, false);
        due(x.effect(0), NONE);
        due(x.effect(-1), BAD_INDEX);
        // Another way that is answered alike is no effect.
        FeatureClashes y = withFeatures(2, 1, 1);
        y.setArrow(0, 0, 0, 7);
        y.setArrow(1, 0, 1, 7);
        y.change(0, 0, 0, 1, 7);
        due(y.effect(0), NONE);
    }

    private static void save() {
        promise(33);
        FeatureClashes x = rivals(2);
        due(x.save(2), BAD_INDEX);
        due(x.save(-1), BAD_INDEX);
        due(x.save(0), 2);
        x.begin(2, 3);
        due(x.save(1), 0);
        due(x.restore(0), 2);
        due(x.restore(1), 0);
        x.addFeature();
        due(x.save(0), 1);
        due(x.restore(0), 1);
        due(x.begin(1, 1), 23);
    }

    private static void restore() {
        promise(34);
        FeatureClashes x = rivals(3);
        x.setBefore(2, 0);
        x.setOn(1, false);
        due(x.restore(0), NOT_POSSIBLE);
        due(x.restore(2), BAD_INDEX);
        due(x.restore(-1), BAD_INDEX);
        x.save(0);
        long sum = x.checksum();
        x.setArrow(0, 0, 0, 1);
        x.addFeature();
        x.changeToNone(0, 0, 0);
        x.setOn(1, true);
        x.clearPriorities();
        x.setBefore(0, 2);
        x.add(0);
        write(x, "0a-;");
        due(x.restore(1), NOT_POSSIBLE);
        due(x.clearWord(), 1);
        x.add(0);
        due(x.restore(0), 3);
        due(x.checksum(), sum);
        due(x.clearWord(), 0);
        x.add(0);
        due(x.answer(-1, 0), 9);
        due(x.answer(0, 0), 0);
        due(x.answer(1, 0), 1);
        due(x.answer(2, 0), 2);
        due(x.restore(0), 3);
        due(x.clearWord(), 0);
        due(x.clearText(), 4);
        due(x.isBefore(2, 0), 1);
        due(x.isBefore(0, 2), 0);
        due(x.setOn(1, true), 0);
        due(x.removeArrow(0, 0), 9);
        x.begin(8, 4);
        due(x.restore(0), 3);
        due(x.checksum(), sum);
        due(x.begin(1, 1), 11);
    }

    private static long mix(long sum, int... values) {
        long mixed = sum;
        for (int value : values) {
            mixed = 31 * mixed + value;
        }
        return mixed;
    }

    private static void checksum() {
        promise(35);
        FeatureClashes empty = new FeatureClashes();
        due(empty.checksum(), mix(83, 0, 0, 1, 0, 1));
        FeatureClashes x = withFeatures(2, 2, 3);
        x.setArrow(0, 1, 1, 6);
        x.change(0, 1, 0, 1, 7);
        x.change(1, 1, 0, 1, 8);
        x.changeToNone(1, 0, 0);
        x.setOn(2, false);
        x.setBefore(1, 0);
        x.add(1);
        x.add(0);
        x.add(1);
        long sum = mix(83, 3);
        sum = mix(sum, 1, 1, 1, 1, 0, 0);
        sum = mix(sum, 2, 2, 0);
        sum = mix(sum, 0, 0);
        sum = mix(sum, 1, 1, 0, 1);
        sum = mix(sum, 1, 0);
        sum = mix(sum, 1, 0);
        sum = mix(sum, 6, 7, STOP);
        due(x.checksum(), sum);
        due(x.checksum(), sum);
        x.append('?');
        due(x.checksum(), sum);
        x.save(1);
        due(x.checksum(), sum);
        // The word of effect() is another one than the witness of the last pair.
        FeatureClashes y = withFeatures(2, 2, 2);
        y.setArrow(0, 1, 1, 6);
        y.change(0, 1, 0, 1, 7);
        y.change(1, 1, 0, 1, 8);
        y.change(1, 0, 0, 0, 2);
        long other = mix(83, 2);
        other = mix(other, 1, 1, 1, 1, 0);
        other = mix(other, 2, 2);
        other = mix(other, 1, 2, 1, 0);
        other = mix(other, 0, 1);
        other = mix(other, 0);
        due(y.checksum(), other);
    }

    /** Each error is reported while there is much that it could spoil. */
    private static void errorsChangeNothing() {
        promise(0);
        FeatureClashes x = allOrdersDiffer();
        x.setBefore(4, 2);
        x.setOn(3, false);
        x.add(1);
        x.add(2);
        write(x, "0a-;x");
        x.save(0);
        long sum = x.checksum();
        int[] bad = {LEAST, -3, 9, 128, MOST};
        for (int v : bad) {
            due(x.begin(v, 1), BAD_VALUE);
            due(x.begin(1, v), BAD_VALUE);
            due(x.setArrow(0, v, 0, 0), BAD_INDEX);
            due(x.setArrow(0, 0, v, 0), BAD_INDEX);
            due(x.removeArrow(v, 0), BAD_INDEX);
            due(x.change(v, 0, 0, 0, 0), BAD_INDEX);
            due(x.changeToNone(0, v, 0), BAD_INDEX);
            due(x.unchange(0, 0, v), BAD_INDEX);
            due(x.setOn(v, false), BAD_INDEX);
            due(x.read(v), BAD_INDEX);
            due(x.setBefore(v, 0), BAD_INDEX);
            due(x.add(v), BAD_INDEX);
            due(x.save(v), BAD_INDEX);
            due(x.restore(v), BAD_INDEX);
        }
        due(x.setArrow(0, 0, 0, 10), BAD_VALUE);
        due(x.change(0, 0, 0, 0, 10), BAD_VALUE);
        due(x.addFeature(), FULL);
        due(x.append(128), BAD_VALUE);
        due(x.read(0), NOT_POSSIBLE);
        due(x.read(-1), NOT_POSSIBLE);
        due(x.setBefore(2, 4), NOT_POSSIBLE);
        due(x.restore(1), NOT_POSSIBLE);
        due(x.checksum(), sum);
        due(x.clearText(), 5);
        x.restore(0);
        x.add(1);
        x.add(2);
        due(x.checksum(), sum);
    }
}
