import java.util.Arrays;

/** A finder of clashes between features. */
public final class FeatureClashes {
    public static final int BAD_INDEX = -1;
    public static final int BAD_VALUE = -2;
    public static final int NOT_POSSIBLE = -3;
    public static final int FULL = -4;
    public static final int NONE = -5;
    public static final int STOP = 10;

    private static final int MAX_STATES = 8;
    private static final int MAX_LETTERS = 4;
    private static final int MAX_FEATURES = 6;
    private static final int MAX_OUTPUT = 9;
    private static final int MAX_TEXT = 80;
    private static final int MAX_BYTE = 127;
    private static final int MAX_WORD = 20;
    private static final int SLOTS = 2;

    private static final int BASE = -1;
    private static final int RESOLVED = -2;

    /*
     * A machine is a row of cells, one for each state and letter. A cell holds an arrow as
     * 10 * the state to which it leads + its output, or NO_ARROW. The changes of a feature
     * are such a row too, with KEEP where the feature changes nothing.
     */
    private static final int CELLS = MAX_STATES * MAX_LETTERS;
    private static final int NO_ARROW = -1;
    private static final int KEEP = -2;

    private final Setup setup = new Setup();
    private final Setup[] slots = {new Setup(), new Setup()};
    private final boolean[] saved = new boolean[SLOTS];
    private final Text text = new Text();
    private final int[] word = new int[MAX_WORD];
    private int wordLength = 0;

    // Rows for working in, made once: no call makes an object.
    private final int[] firstMachine = new int[CELLS];
    private final int[] secondMachine = new int[CELLS];
    private final int[] resolvedOrder = new int[MAX_FEATURES];
    private final int[] orderCounts = new int[1 << MAX_FEATURES];
    private final Difference difference = new Difference();
    private final Outcomes outcomes = new Outcomes();

    public FeatureClashes() {
    }

    // ---- the base machine

    public int begin(int states, int letters) {
        if (states < 1 || states > MAX_STATES || letters < 1 || letters > MAX_LETTERS) {
            return BAD_VALUE;
        }
        int previous = 10 * setup.states + setup.letters;
        setup.startAnew(states, letters);
        wordLength = 0;
        return previous;
    }

    public int setArrow(int state, int letter, int to, int output) {
        if (!setup.hasCell(state, letter) || !setup.hasState(to)) {
            return BAD_INDEX;
        }
        if (!isOutput(output)) {
            return BAD_VALUE;
        }
        return replaceArrow(cellOf(state, letter), arrowOf(to, output));
    }

    public int removeArrow(int state, int letter) {
        if (!setup.hasCell(state, letter)) {
            return BAD_INDEX;
        }
        return replaceArrow(cellOf(state, letter), NO_ARROW);
    }

    private int replaceArrow(int cell, int arrow) {
        int previous = setup.base[cell];
        setup.base[cell] = arrow;
        return previous == NO_ARROW ? NONE : previous;
    }

    // ---- features

    public int addFeature() {
        if (setup.featureCount >= MAX_FEATURES) {
            return FULL;
        }
        return setup.makeFeature();
    }

    public int change(int feature, int state, int letter, int to, int output) {
        if (!setup.hasFeature(feature) || !setup.hasCell(state, letter) || !setup.hasState(to)) {
            return BAD_INDEX;
        }
        if (!isOutput(output)) {
            return BAD_VALUE;
        }
        setup.edits[feature][cellOf(state, letter)] = arrowOf(to, output);
        return setup.countEdits(feature);
    }

    public int changeToNone(int feature, int state, int letter) {
        if (!setup.hasFeature(feature) || !setup.hasCell(state, letter)) {
            return BAD_INDEX;
        }
        setup.edits[feature][cellOf(state, letter)] = NO_ARROW;
        return setup.countEdits(feature);
    }

    public int unchange(int feature, int state, int letter) {
        if (!setup.hasFeature(feature) || !setup.hasCell(state, letter)) {
            return BAD_INDEX;
        }
        int cell = cellOf(state, letter);
        if (setup.edits[feature][cell] == KEEP) {
            return NONE;
        }
        setup.edits[feature][cell] = KEEP;
        return setup.countEdits(feature);
    }

    public int setOn(int feature, boolean on) {
        if (!setup.hasFeature(feature)) {
            return BAD_INDEX;
        }
        int previous = setup.isOn(feature) ? 1 : 0;
        setup.turn(feature, on);
        return previous;
    }

    public int features() {
        return setup.featureCount;
    }

    public int changes(int feature) {
        if (!setup.hasFeature(feature)) {
            return BAD_INDEX;
        }
        return setup.countEdits(feature);
    }

    // ---- text

    public int append(int letter) {
        if (letter < 0 || letter > MAX_BYTE) {
            return BAD_VALUE;
        }
        if (text.length >= MAX_TEXT) {
            return FULL;
        }
        text.bytes[text.length] = letter;
        text.length++;
        return text.length;
    }

    public int clearText() {
        int previous = text.length;
        text.length = 0;
        return previous;
    }

    public int faultPosition() {
        return text.parse(setup.states, setup.letters);
    }

    public int read(int feature) {
        if (feature != BASE && !setup.hasFeature(feature)) {
            return BAD_INDEX;
        }
        if (text.parse(setup.states, setup.letters) != NONE) {
            return NOT_POSSIBLE;
        }
        if (feature == BASE) {
            putOn(setup.base, text.edits, setup.base);
        } else {
            copyRow(text.edits, setup.edits[feature]);
        }
        return text.editCount;
    }

    // ---- clashes

    public int clash(int feature, int other) {
        if (!areTwoFeatures(feature, other)) {
            return BAD_INDEX;
        }
        return findWitness(feature, other) ? 1 : 0;
    }

    public int witness(int feature, int other, int index) {
        if (!areTwoFeatures(feature, other) || index < 0) {
            return BAD_INDEX;
        }
        findWitness(feature, other);
        return difference.letterAt(index);
    }

    public int clashes() {
        int count = 0;
        for (int low = 0; low < setup.featureCount; low++) {
            for (int high = low + 1; high < setup.featureCount; high++) {
                if (setup.isOn(low) && setup.isOn(high) && findWitness(low, high)) {
                    count++;
                }
            }
        }
        return count;
    }

    public int results() {
        return outcomes.countKinds(setup, false, Outcomes.MAX_ORDERS);
    }

    public int reach(int feature) {
        if (!setup.hasFeature(feature)) {
            return BAD_INDEX;
        }
        int[] edits = setup.edits[feature];
        putOn(setup.base, edits, firstMachine);
        int reached = reachedStates(setup.base) | reachedStates(firstMachine);
        int count = 0;
        for (int cell = 0; cell < CELLS; cell++) {
            if (edits[cell] != KEEP && hasBit(reached, cell / MAX_LETTERS)) {
                count++;
            }
        }
        return count;
    }

    private boolean areTwoFeatures(int feature, int other) {
        return setup.hasFeature(feature) && setup.hasFeature(other) && feature != other;
    }

    /** Returns whether both clash; if so, the difference is the witness. */
    private boolean findWitness(int feature, int other) {
        putOn(setup.base, setup.edits[feature], firstMachine);
        putOn(firstMachine, setup.edits[other], firstMachine);
        putOn(setup.base, setup.edits[other], secondMachine);
        putOn(secondMachine, setup.edits[feature], secondMachine);
        difference.search(firstMachine, secondMachine, setup.letters);
        return difference.length > 0;
    }

    private int reachedStates(int[] machine) {
        int reached = 1;
        // A state that can be reached at all is reached with fewer letters than there are states.
        for (int round = 1; round < setup.states; round++) {
            for (int cell = 0; cell < CELLS; cell++) {
                if (machine[cell] != NO_ARROW && hasBit(reached, cell / MAX_LETTERS)) {
                    reached |= 1 << targetOf(machine[cell]);
                }
            }
        }
        return reached;
    }

    // ---- priorities

    public int setBefore(int first, int second) {
        if (!areTwoFeatures(first, second)) {
            return BAD_INDEX;
        }
        if (setup.stands(second, first)) {
            return NOT_POSSIBLE;
        }
        setup.prefer(first, second);
        return setup.countPriorities();
    }

    public int clearPriorities() {
        int previous = setup.countPriorities();
        Arrays.fill(setup.earlier, 0);
        return previous;
    }

    public int isBefore(int first, int second) {
        if (!setup.hasFeature(first) || !setup.hasFeature(second)) {
            return BAD_INDEX;
        }
        return setup.stands(first, second) ? 1 : 0;
    }

    public int orders() {
        // orderCounts[set]: in how many orders the features of this set can be the first ones.
        orderCounts[0] = 1;
        for (int set = 1; set <= setup.onSet; set++) {
            orderCounts[set] = (set & ~setup.onSet) == 0 ? countOrdersOf(set) : 0;
        }
        return orderCounts[setup.onSet];
    }

    public int resolved(int place) {
        if (place < 0) {
            return BAD_INDEX;
        }
        int count = findResolvedOrder();
        return place < count ? resolvedOrder[place] : NONE;
    }

    public int open() {
        int count = 0;
        for (int low = 0; low < setup.featureCount; low++) {
            for (int high = low + 1; high < setup.featureCount; high++) {
                if (isOpenPair(low, high)) {
                    count++;
                }
            }
        }
        return count;
    }

    public int isResolved() {
        // A second kind settles it: there is no need to look for a third one.
        return outcomes.countKinds(setup, true, 2) < 2 ? 1 : 0;
    }

    public int resolve() {
        int told = 0;
        // One pass will do: a priority never opens a pair, so no pair behind us opens again.
        for (int low = 0; low < setup.featureCount; low++) {
            for (int high = low + 1; high < setup.featureCount; high++) {
                if (isOpenPair(low, high)) {
                    setup.prefer(low, high);
                    told++;
                }
            }
        }
        return told;
    }

    private int countOrdersOf(int set) {
        int count = 0;
        for (int last = 0; last < setup.featureCount; last++) {
            int others = set & ~(1 << last);
            if (others != set && (setup.earlier[last] & setup.onSet & ~others) == 0) {
                count += orderCounts[others];
            }
        }
        return count;
    }

    private boolean isOpenPair(int low, int high) {
        return setup.isOn(low) && setup.isOn(high)
            && !setup.stands(low, high) && !setup.stands(high, low)
            && findWitness(low, high);
    }

    /** Fills resolvedOrder and returns how many features it has. */
    private int findResolvedOrder() {
        int unplaced = setup.onSet;
        int count = 0;
        for (int place = 0; place < MAX_FEATURES && unplaced != 0; place++) {
            int feature = lowestReady(unplaced);
            resolvedOrder[place] = feature;
            unplaced &= ~(1 << feature);
            count++;
        }
        return count;
    }

    private int lowestReady(int unplaced) {
        for (int feature = 0; feature < MAX_FEATURES; feature++) {
            if (hasBit(unplaced, feature) && (setup.earlier[feature] & unplaced) == 0) {
                return feature;
            }
        }
        return 0;
    }

    private void buildResolvedMachine(int[] machine) {
        copyRow(setup.base, machine);
        int count = findResolvedOrder();
        for (int place = 0; place < count; place++) {
            putOn(machine, setup.edits[resolvedOrder[place]], machine);
        }
    }

    // ---- words

    public int add(int letter) {
        if (!setup.hasLetter(letter)) {
            return BAD_INDEX;
        }
        if (wordLength >= MAX_WORD) {
            return FULL;
        }
        word[wordLength] = letter;
        wordLength++;
        return wordLength;
    }

    public int clearWord() {
        int previous = wordLength;
        wordLength = 0;
        return previous;
    }

    public int answer(int which, int index) {
        boolean known = which == BASE || which == RESOLVED || setup.hasFeature(which);
        if (!known || index < 0) {
            return BAD_INDEX;
        }
        if (index >= wordLength) {
            return NONE;
        }
        buildMachine(which, firstMachine);
        return answerOf(firstMachine, index);
    }

    public int effect(int index) {
        if (index < 0) {
            return BAD_INDEX;
        }
        findEffect();
        return difference.letterAt(index);
    }

    private void buildMachine(int which, int[] machine) {
        if (which == RESOLVED) {
            buildResolvedMachine(machine);
        } else if (which == BASE) {
            copyRow(setup.base, machine);
        } else {
            putOn(setup.base, setup.edits[which], machine);
        }
    }

    private int answerOf(int[] machine, int index) {
        int state = 0;
        int output = STOP;
        for (int place = 0; place <= index && place < wordLength; place++) {
            int arrow = machine[cellOf(state, word[place])];
            if (arrow == NO_ARROW) {
                return STOP;
            }
            state = targetOf(arrow);
            output = outputOf(arrow);
        }
        return output;
    }

    private void findEffect() {
        buildResolvedMachine(firstMachine);
        difference.search(firstMachine, setup.base, setup.letters);
    }

    // ---- slots, checksum

    public int save(int slot) {
        if (!isSlot(slot)) {
            return BAD_INDEX;
        }
        slots[slot].copyFrom(setup);
        saved[slot] = true;
        return setup.featureCount;
    }

    public int restore(int slot) {
        if (!isSlot(slot)) {
            return BAD_INDEX;
        }
        if (!saved[slot]) {
            return NOT_POSSIBLE;
        }
        setup.copyFrom(slots[slot]);
        wordLength = 0;
        return setup.featureCount;
    }

    public long checksum() {
        long sum = mix(83L, features());
        for (int feature = 0; feature < setup.featureCount; feature++) {
            sum = mix(sum, changes(feature));
            sum = mix(sum, reach(feature));
            for (int higher = feature + 1; higher < setup.featureCount; higher++) {
                sum = mix(sum, clash(feature, higher));
                sum = mixDifference(sum);
            }
        }
        sum = mix(sum, clashes());
        sum = mix(sum, orders());
        sum = mix(sum, open());
        sum = mix(sum, isResolved());
        sum = mixResolvedOrder(sum);
        findEffect();
        sum = mixDifference(sum);
        return mixAnswers(sum);
    }

    private static boolean isSlot(int slot) {
        return slot >= 0 && slot < SLOTS;
    }

    private static long mix(long sum, int value) {
        return 31L * sum + value;
    }

    private long mixDifference(long sum) {
        long mixed = sum;
        for (int index = 0; index < difference.length; index++) {
            mixed = mix(mixed, difference.letterAt(index));
        }
        return mixed;
    }

    private long mixResolvedOrder(long sum) {
        long mixed = sum;
        int count = findResolvedOrder();
        for (int place = 0; place < count; place++) {
            mixed = mix(mixed, resolvedOrder[place]);
        }
        return mixed;
    }

    private long mixAnswers(long sum) {
        long mixed = sum;
        buildResolvedMachine(firstMachine);
        for (int index = 0; index < wordLength; index++) {
            mixed = mix(mixed, answerOf(firstMachine, index));
        }
        return mixed;
    }

    // ---- cells, arrows, rows, sets

    private static int cellOf(int state, int letter) {
        return state * MAX_LETTERS + letter;
    }

    private static int arrowOf(int to, int output) {
        return 10 * to + output;
    }

    private static int targetOf(int arrow) {
        return arrow / 10;
    }

    private static int outputOf(int arrow) {
        return arrow % 10;
    }

    private static boolean isOutput(int output) {
        return output >= 0 && output <= MAX_OUTPUT;
    }

    private static boolean hasBit(int set, int member) {
        return (set >> member & 1) == 1;
    }

    private static void copyRow(int[] from, int[] to) {
        System.arraycopy(from, 0, to, 0, CELLS);
    }

    /** Makes result the machine with the edits carried out; both may be the same row. */
    private static void putOn(int[] machine, int[] edits, int[] result) {
        for (int cell = 0; cell < CELLS; cell++) {
            result[cell] = edits[cell] == KEEP ? machine[cell] : edits[cell];
        }
    }

    /** All that a slot keeps: the base machine, the features and the priorities. */
    private static final class Setup {
        int states = 2;
        int letters = 2;
        int featureCount = 0;
        /** The features that are on, one bit each. */
        int onSet = 0;
        final int[] base = new int[CELLS];
        final int[][] edits = new int[MAX_FEATURES][CELLS];
        /** For each feature the set of all that are before it, not only of those told. */
        final int[] earlier = new int[MAX_FEATURES];

        Setup() {
            Arrays.fill(base, NO_ARROW);
        }

        void startAnew(int newStates, int newLetters) {
            states = newStates;
            letters = newLetters;
            featureCount = 0;
            onSet = 0;
            Arrays.fill(base, NO_ARROW);
            Arrays.fill(earlier, 0);
        }

        void copyFrom(Setup other) {
            states = other.states;
            letters = other.letters;
            featureCount = other.featureCount;
            onSet = other.onSet;
            copyRow(other.base, base);
            for (int feature = 0; feature < MAX_FEATURES; feature++) {
                copyRow(other.edits[feature], edits[feature]);
                earlier[feature] = other.earlier[feature];
            }
        }

        boolean hasState(int state) {
            return state >= 0 && state < states;
        }

        boolean hasLetter(int letter) {
            return letter >= 0 && letter < letters;
        }

        boolean hasCell(int state, int letter) {
            return hasState(state) && hasLetter(letter);
        }

        boolean hasFeature(int feature) {
            return feature >= 0 && feature < featureCount;
        }

        int makeFeature() {
            int feature = featureCount;
            Arrays.fill(edits[feature], KEEP);
            turn(feature, true);
            featureCount++;
            return feature;
        }

        int countEdits(int feature) {
            int count = 0;
            for (int cell = 0; cell < CELLS; cell++) {
                if (edits[feature][cell] != KEEP) {
                    count++;
                }
            }
            return count;
        }

        boolean isOn(int feature) {
            return hasBit(onSet, feature);
        }

        void turn(int feature, boolean on) {
            onSet = on ? onSet | 1 << feature : onSet & ~(1 << feature);
        }

        /** Whether the first feature is before the second one. */
        boolean stands(int first, int second) {
            return hasBit(earlier[second], first);
        }

        /** Puts first before second, and so before all that second is before. */
        void prefer(int first, int second) {
            int added = earlier[first] | 1 << first;
            for (int feature = 0; feature < MAX_FEATURES; feature++) {
                if (feature == second || stands(second, feature)) {
                    earlier[feature] |= added;
                }
            }
        }

        int countPriorities() {
            int count = 0;
            for (int feature = 0; feature < MAX_FEATURES; feature++) {
                count += Integer.bitCount(earlier[feature]);
            }
            return count;
        }
    }

    /** The text of changes, and what it says. */
    private static final class Text {
        private static final int AT_STATE = 0;
        private static final int AT_LETTER = 1;
        private static final int AT_KIND = 2;
        private static final int AT_TARGET = 3;
        private static final int AT_SLASH = 4;
        private static final int AT_OUTPUT = 5;
        private static final int AT_END = 6;

        final int[] bytes = new int[MAX_TEXT];
        int length = 0;
        /** The changes of the text, if the last parse found no fault. */
        final int[] edits = new int[CELLS];
        int editCount = 0;

        private int states = 0;
        private int letters = 0;
        private int step = AT_STATE;
        private int state = 0;
        private int cell = 0;
        private int target = 0;

        /** Returns the fault position, or NONE. */
        int parse(int stateCount, int letterCount) {
            states = stateCount;
            letters = letterCount;
            step = AT_STATE;
            editCount = 0;
            Arrays.fill(edits, KEEP);
            for (int index = 0; index < length; index++) {
                if (!takes(bytes[index])) {
                    return index;
                }
            }
            return step == AT_STATE ? NONE : length;
        }

        private boolean takes(int sign) {
            switch (step) {
                case AT_STATE:
                    return takesState(sign);
                case AT_LETTER:
                    return takesLetter(sign);
                case AT_KIND:
                    return takesKind(sign);
                case AT_TARGET:
                    return takesTarget(sign);
                case AT_SLASH:
                    step = AT_OUTPUT;
                    return sign == '/';
                case AT_OUTPUT:
                    return takesOutput(sign);
                default:
                    step = AT_STATE;
                    editCount++;
                    return sign == ';';
            }
        }

        private boolean takesState(int sign) {
            state = sign - '0';
            step = AT_LETTER;
            return state >= 0 && state < states;
        }

        private boolean takesLetter(int sign) {
            int letter = sign - 'a';
            if (letter < 0 || letter >= letters) {
                return false;
            }
            cell = cellOf(state, letter);
            step = AT_KIND;
            return edits[cell] == KEEP;
        }

        private boolean takesKind(int sign) {
            if (sign == '-') {
                edits[cell] = NO_ARROW;
                step = AT_END;
                return true;
            }
            step = AT_TARGET;
            return sign == '>';
        }

        private boolean takesTarget(int sign) {
            target = sign - '0';
            step = AT_SLASH;
            return target >= 0 && target < states;
        }

        private boolean takesOutput(int sign) {
            int output = sign - '0';
            if (!isOutput(output)) {
                return false;
            }
            edits[cell] = arrowOf(target, output);
            step = AT_END;
            return true;
        }
    }

    /** Finds the first of the shortest words that two machines answer differently. */
    private static final class Difference {
        private static final int PAIRS = MAX_STATES * MAX_STATES;

        /** The length of the word that was found; 0 if the machines are alike. */
        int length = 0;
        private final int[] letters = new int[PAIRS];

        // The pairs of states that both machines can be in together, in the order in which
        // their first words come: the shorter ones first, then by letters.
        private final int[] ones = new int[PAIRS];
        private final int[] twos = new int[PAIRS];
        private final int[] depths = new int[PAIRS];
        private final int[] parents = new int[PAIRS];
        private final int[] lastLetters = new int[PAIRS];
        private final boolean[] met = new boolean[PAIRS];
        private int pairCount = 0;

        int letterAt(int index) {
            return index >= 0 && index < length ? letters[index] : NONE;
        }

        void search(int[] one, int[] two, int letterCount) {
            length = 0;
            pairCount = 0;
            for (int pair = 0; pair < PAIRS; pair++) {
                met[pair] = false;
            }
            meet(0, 0, -1, 0);
            for (int pair = 0; pair < pairCount && pair < PAIRS; pair++) {
                for (int letter = 0; letter < letterCount; letter++) {
                    int arrow = one[cellOf(ones[pair], letter)];
                    int otherArrow = two[cellOf(twos[pair], letter)];
                    if (answersDiffer(arrow, otherArrow)) {
                        keepWord(pair, letter);
                        return;
                    }
                    if (arrow != NO_ARROW) {
                        meet(targetOf(arrow), targetOf(otherArrow), pair, letter);
                    }
                }
            }
        }

        private static boolean answersDiffer(int arrow, int otherArrow) {
            if (arrow == NO_ARROW || otherArrow == NO_ARROW) {
                return arrow != otherArrow;
            }
            return outputOf(arrow) != outputOf(otherArrow);
        }

        private void meet(int one, int two, int parent, int letter) {
            int name = one * MAX_STATES + two;
            if (met[name] || pairCount >= PAIRS) {
                return;
            }
            met[name] = true;
            ones[pairCount] = one;
            twos[pairCount] = two;
            depths[pairCount] = parent < 0 ? 0 : depths[parent] + 1;
            parents[pairCount] = parent;
            lastLetters[pairCount] = letter;
            pairCount++;
        }

        private void keepWord(int lastPair, int lastLetter) {
            int depth = depths[lastPair];
            length = depth + 1;
            letters[depth] = lastLetter;
            int pair = lastPair;
            for (int place = depth - 1; place >= 0; place--) {
                letters[place] = lastLetters[pair];
                pair = parents[pair];
            }
        }
    }

    /** Brings a machine to a form that all machines alike to it share, and no others. */
    private static final class Shape {
        static final int LONGS = MAX_STATES / 2;
        private static final int ARROW_BITS = 7;
        private static final int STATE_BITS = ARROW_BITS * MAX_LETTERS;

        /** The signatures of the states that are needed, two in a long. */
        final long[] form = new long[LONGS];
        private final int[] groups = new int[MAX_STATES];
        private final int[] signatures = new int[MAX_STATES];
        /** For each state the number of its group, in the order in which words come to them. */
        private final int[] numbers = new int[MAX_STATES];
        /** A state of the group with each number. */
        private final int[] leaders = new int[MAX_STATES];
        private int numberCount = 0;

        void take(int[] machine, int states, int letters) {
            groupStates(machine, states, letters);
            numberGroups(machine, states, letters);
            Arrays.fill(form, 0L);
            for (int number = 0; number < numberCount; number++) {
                int signature = signatureOf(machine, leaders[number], letters, numbers);
                form[number / 2] = form[number / 2] << STATE_BITS | signature;
            }
        }

        /** Splits the states until those of one group answer each word alike. */
        private void groupStates(int[] machine, int states, int letters) {
            Arrays.fill(groups, 0);
            int count = 1;
            boolean split = true;
            for (int round = 0; round < states && split; round++) {
                for (int state = 0; state < states; state++) {
                    signatures[state] = signatureOf(machine, state, letters, groups);
                }
                int finerCount = groupBySignature(states);
                split = finerCount > count;
                count = finerCount;
            }
        }

        /** What a state answers to each letter, and the name of the state to which it goes. */
        private static int signatureOf(int[] machine, int state, int letters, int[] names) {
            int signature = 0;
            for (int letter = 0; letter < letters; letter++) {
                int arrow = machine[cellOf(state, letter)];
                int code = 0;
                if (arrow != NO_ARROW) {
                    code = 1 + arrowOf(names[targetOf(arrow)], outputOf(arrow));
                }
                signature = signature << ARROW_BITS | code;
            }
            return signature;
        }

        private int groupBySignature(int states) {
            int count = 0;
            for (int state = 0; state < states; state++) {
                int twin = 0;
                while (twin < state && signatures[twin] != signatures[state]) {
                    twin++;
                }
                if (twin < state) {
                    groups[state] = groups[twin];
                } else {
                    groups[state] = count;
                    count++;
                }
            }
            return count;
        }

        private void numberGroups(int[] machine, int states, int letters) {
            Arrays.fill(numbers, -1);
            numberCount = 0;
            numberGroupOf(0, states);
            for (int number = 0; number < numberCount && number < MAX_STATES; number++) {
                for (int letter = 0; letter < letters; letter++) {
                    int arrow = machine[cellOf(leaders[number], letter)];
                    if (arrow != NO_ARROW) {
                        numberGroupOf(targetOf(arrow), states);
                    }
                }
            }
        }

        private void numberGroupOf(int leader, int states) {
            if (numbers[leader] >= 0 || numberCount >= MAX_STATES) {
                return;
            }
            leaders[numberCount] = leader;
            for (int state = 0; state < states; state++) {
                if (groups[state] == groups[leader]) {
                    numbers[state] = numberCount;
                }
            }
            numberCount++;
        }
    }

    /** Counts the kinds of machines, no two of them alike, that orders of features give. */
    private static final class Outcomes {
        static final int MAX_ORDERS = 720;

        private final Shape shape = new Shape();
        private final long[] forms = new long[MAX_ORDERS * Shape.LONGS];
        private int kinds = 0;
        private int limit = 0;
        /** The machine after each number of features put on. */
        private final int[][] stages = new int[MAX_FEATURES + 1][CELLS];
        /** For each feature the set of those that must be put on before it. */
        private final int[] earlier = new int[MAX_FEATURES];
        /** For each feature the set of those that change an arrow in another way than it. */
        private final int[] rivals = new int[MAX_FEATURES];

        /** Counts up to the limit, over all orders or over those that the priorities allow. */
        int countKinds(Setup setup, boolean heedsPriorities, int countLimit) {
            for (int feature = 0; feature < MAX_FEATURES; feature++) {
                earlier[feature] = heedsPriorities ? setup.earlier[feature] : 0;
            }
            limit = Math.min(countLimit, MAX_ORDERS);
            kinds = 0;
            findRivals(setup);
            copyRow(setup.base, stages[0]);
            walkOrders(setup, 0, setup.onSet, -1);
            return kinds;
        }

        private void findRivals(Setup setup) {
            for (int feature = 0; feature < setup.featureCount; feature++) {
                rivals[feature] = 0;
                for (int other = 0; other < setup.featureCount; other++) {
                    if (areRivals(setup.edits[feature], setup.edits[other])) {
                        rivals[feature] |= 1 << other;
                    }
                }
            }
        }

        private static boolean areRivals(int[] edits, int[] otherEdits) {
            for (int cell = 0; cell < CELLS; cell++) {
                boolean bothChange = edits[cell] != KEEP && otherEdits[cell] != KEEP;
                if (bothChange && edits[cell] != otherEdits[cell]) {
                    return true;
                }
            }
            return false;
        }

        private void walkOrders(Setup setup, int depth, int unplaced, int last) {
            if (unplaced == 0 || depth >= MAX_FEATURES) {
                shape.take(stages[depth], setup.states, setup.letters);
                keepForm();
                return;
            }
            for (int feature = 0; feature < setup.featureCount && kinds < limit; feature++) {
                boolean ready = hasBit(unplaced, feature) && (earlier[feature] & unplaced) == 0;
                if (ready && !isRepeat(last, feature)) {
                    putOn(stages[depth], setup.edits[feature], stages[depth + 1]);
                    walkOrders(setup, depth + 1, unplaced & ~(1 << feature), feature);
                }
            }
        }

        /**
         * Neighbours that are no rivals may change places without any difference, so of the
         * orders that differ by this alone only the first one is walked.
         */
        private boolean isRepeat(int last, int feature) {
            return last > feature
                && !hasBit(rivals[last], feature) && !hasBit(earlier[feature], last);
        }

        private void keepForm() {
            if (kinds >= limit || isKnown()) {
                return;
            }
            System.arraycopy(shape.form, 0, forms, kinds * Shape.LONGS, Shape.LONGS);
            kinds++;
        }

        private boolean isKnown() {
            for (int kind = 0; kind < kinds; kind++) {
                if (isFormAt(kind * Shape.LONGS)) {
                    return true;
                }
            }
            return false;
        }

        private boolean isFormAt(int start) {
            for (int index = 0; index < Shape.LONGS; index++) {
                if (forms[start + index] != shape.form[index]) {
                    return false;
                }
            }
            return true;
        }
    }
}
