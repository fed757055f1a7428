import java.util.ArrayList;
import java.util.Arrays;
import java.util.Collections;
import java.util.HashMap;
import java.util.HashSet;
import java.util.List;
import java.util.Map;
import java.util.Random;
import java.util.Set;
import java.util.TreeMap;

/** Long runs of calls by chance (the same each time), against a plain model of the document. */
public final class ModelTest {
    private static final int RUNS = 600;
    private static final int CALLS = 512;
    private static final int MOST_SHOWN = 20;

    private static int wrong = 0;

    public static void main(String[] args) {
        for (int run = 0; run < RUNS && wrong < MOST_SHOWN; run++) {
            new Run(run).play();
        }
        System.out.println(wrong == 0 ? "ModelTest: all answers agree" : "ModelTest: answers differ");
        if (wrong != 0) {
            System.exit(1);
        }
    }

    /** A machine of the model: (state, letter) to {target, output}; no entry, no arrow. */
    private static final class Machine {
        final Map<String, int[]> arrows = new HashMap<>();

        Machine copy() {
            Machine other = new Machine();
            other.arrows.putAll(arrows);
            return other;
        }

        Machine with(Feature feature) {
            Machine other = copy();
            for (Map.Entry<String, int[]> change : feature.changes.entrySet()) {
                if (change.getValue() == null) {
                    other.arrows.remove(change.getKey());
                } else {
                    other.arrows.put(change.getKey(), change.getValue());
                }
            }
            return other;
        }

        /** The answers to a word, then the state, which is -1 if it has stopped. */
        int[] run(List<Integer> word) {
            int[] answers = new int[word.size() + 1];
            int state = 0;
            for (int i = 0; i < word.size(); i++) {
                int[] arrow = state < 0 ? null : arrows.get(key(state, word.get(i)));
                answers[i] = arrow == null ? 10 : arrow[1];
                state = arrow == null ? -1 : arrow[0];
            }
            answers[word.size()] = state;
            return answers;
        }

        Set<Integer> reached() {
            Set<Integer> found = new HashSet<>();
            List<Integer> queue = new ArrayList<>(List.of(0));
            while (!queue.isEmpty()) {
                int state = queue.remove(queue.size() - 1);
                if (found.add(state)) {
                    for (int letter = 0; letter < 4; letter++) {
                        int[] arrow = arrows.get(key(state, letter));
                        if (arrow != null) {
                            queue.add(arrow[0]);
                        }
                    }
                }
            }
            return found;
        }
    }

    private static final class Feature {
        /** null stands for an arrow that is removed. */
        Map<String, int[]> changes = new HashMap<>();
        boolean on = true;

        Feature copy() {
            Feature other = new Feature();
            other.changes = new HashMap<>(changes);
            other.on = on;
            return other;
        }
    }

    private static String key(int state, int letter) {
        return state + "," + letter;
    }

    /** The first of the shortest words with different answers, or null. */
    private static List<Integer> difference(Machine one, Machine two, int letters) {
        List<List<Integer>> level = new ArrayList<>();
        level.add(new ArrayList<>());
        Set<String> seen = new HashSet<>();
        while (!level.isEmpty()) {
            List<List<Integer>> next = new ArrayList<>();
            for (List<Integer> word : level) {
                for (int letter = 0; letter < letters; letter++) {
                    List<Integer> longer = new ArrayList<>(word);
                    longer.add(letter);
                    int[] first = one.run(longer);
                    int[] second = two.run(longer);
                    int last = longer.size() - 1;
                    if (first[last] != second[last]) {
                        return longer;
                    }
                    if (seen.add(first[last + 1] + "/" + second[last + 1])) {
                        next.add(longer);
                    }
                }
            }
            level = next;
        }
        return null;
    }

    /** As difference, but by trying every word: for small machines. */
    private static List<Integer> differenceByAllWords(Machine one, Machine two, int states, int letters) {
        for (int length = 1; length <= 2 * states + 2; length++) {
            int count = (int) Math.pow(letters, length);
            for (int number = 0; number < count; number++) {
                List<Integer> word = new ArrayList<>();
                int rest = number;
                for (int i = 0; i < length; i++) {
                    word.add(0, rest % letters);
                    rest /= letters;
                }
                int[] first = Arrays.copyOf(one.run(word), length);
                int[] second = Arrays.copyOf(two.run(word), length);
                if (!Arrays.equals(first, second)) {
                    return word;
                }
            }
        }
        return null;
    }

    private static final class Model {
        int states = 2;
        int letters = 2;
        Machine base = new Machine();
        List<Feature> features = new ArrayList<>();
        Set<List<Integer>> told = new HashSet<>();
        List<Integer> word = new ArrayList<>();
        String text = "";
        final Model[] slots = new Model[2];

        private void takeFrom(Model other) {
            states = other.states;
            letters = other.letters;
            base = other.base.copy();
            features = new ArrayList<>();
            for (Feature feature : other.features) {
                features.add(feature.copy());
            }
            told = new HashSet<>(other.told);
        }

        boolean state(int s) {
            return 0 <= s && s < states;
        }

        boolean letter(int l) {
            return 0 <= l && l < letters;
        }

        boolean feature(int f) {
            return 0 <= f && f < features.size();
        }

        boolean two(int f, int g) {
            return feature(f) && feature(g) && f != g;
        }

        int begin(int s, int l) {
            if (s < 1 || s > 8 || l < 1 || l > 4) {
                return -2;
            }
            int before = 10 * states + letters;
            states = s;
            letters = l;
            base = new Machine();
            features = new ArrayList<>();
            told = new HashSet<>();
            word = new ArrayList<>();
            return before;
        }

        int setArrow(int s, int l, int to, int output) {
            if (!state(s) || !letter(l) || !state(to)) {
                return -1;
            }
            if (output < 0 || output > 9) {
                return -2;
            }
            int[] old = base.arrows.put(key(s, l), new int[] {to, output});
            return old == null ? -5 : 10 * old[0] + old[1];
        }

        int removeArrow(int s, int l) {
            if (!state(s) || !letter(l)) {
                return -1;
            }
            int[] old = base.arrows.remove(key(s, l));
            return old == null ? -5 : 10 * old[0] + old[1];
        }

        int addFeature() {
            if (features.size() == 6) {
                return -4;
            }
            features.add(new Feature());
            return features.size() - 1;
        }

        int change(int f, int s, int l, int to, int output) {
            if (!feature(f) || !state(s) || !letter(l) || !state(to)) {
                return -1;
            }
            if (output < 0 || output > 9) {
                return -2;
            }
            features.get(f).changes.put(key(s, l), new int[] {to, output});
            return features.get(f).changes.size();
        }

        int changeToNone(int f, int s, int l) {
            if (!feature(f) || !state(s) || !letter(l)) {
                return -1;
            }
            features.get(f).changes.put(key(s, l), null);
            return features.get(f).changes.size();
        }

        int unchange(int f, int s, int l) {
            if (!feature(f) || !state(s) || !letter(l)) {
                return -1;
            }
            if (!features.get(f).changes.containsKey(key(s, l))) {
                return -5;
            }
            features.get(f).changes.remove(key(s, l));
            return features.get(f).changes.size();
        }

        int setOn(int f, boolean on) {
            if (!feature(f)) {
                return -1;
            }
            int before = features.get(f).on ? 1 : 0;
            features.get(f).on = on;
            return before;
        }

        int changes(int f) {
            return feature(f) ? features.get(f).changes.size() : -1;
        }

        int append(int b) {
            if (b < 0 || b > 127) {
                return -2;
            }
            if (text.length() == 80) {
                return -4;
            }
            text += (char) b;
            return text.length();
        }

        int clearText() {
            int before = text.length();
            text = "";
            return before;
        }

        /** Tries each prefix: a prefix is good if something can follow that makes it whole. */
        int faultPosition() {
            Map<String, int[]> found = new TreeMap<>();
            int at = 0;
            while (at < text.length()) {
                String rest = text.substring(at);
                String states09 = "[0-" + (char) ('0' + states - 1) + "]";
                String lettersAd = "[a-" + (char) ('a' + letters - 1) + "]";
                String[] set = {states09, lettersAd, ">", states09, "/", "[0-9]", ";"};
                String[] remove = {states09, lettersAd, "-", ";"};
                int good = Math.max(goodLength(rest, set), goodLength(rest, remove));
                if (good >= 2 && found.containsKey(rest.substring(0, 2))) {
                    return at + 1;
                }
                boolean whole = good > 0 && rest.charAt(good - 1) == ';';
                if (!whole) {
                    return at + good;
                }
                int[] arrow = good == 7 ? new int[] {rest.charAt(3) - '0', rest.charAt(5) - '0'} : null;
                found.put(rest.substring(0, 2), arrow);
                at += good;
            }
            parsed = found;
            return -5;
        }

        Map<String, int[]> parsed = new TreeMap<>();

        private static int goodLength(String rest, String[] form) {
            int good = 0;
            while (good < form.length && good < rest.length()
                && rest.substring(good, good + 1).matches("(?s)" + form[good])) {
                good++;
            }
            return good;
        }

        int read(int f) {
            if (f != -1 && !feature(f)) {
                return -1;
            }
            if (faultPosition() != -5) {
                return -3;
            }
            Feature read = new Feature();
            for (Map.Entry<String, int[]> change : parsed.entrySet()) {
                String name = change.getKey();
                read.changes.put(key(name.charAt(0) - '0', name.charAt(1) - 'a'), change.getValue());
            }
            if (f == -1) {
                base = base.with(read);
            } else {
                features.get(f).changes = read.changes;
            }
            return parsed.size();
        }

        List<Integer> witnessOf(int f, int g) {
            Machine one = base.with(features.get(f)).with(features.get(g));
            Machine two = base.with(features.get(g)).with(features.get(f));
            if (states <= 2 && letters <= 2) {
                return differenceByAllWords(one, two, states, letters);
            }
            return difference(one, two, letters);
        }

        int clash(int f, int g) {
            return !two(f, g) ? -1 : witnessOf(f, g) != null ? 1 : 0;
        }

        int witness(int f, int g, int index) {
            if (!two(f, g) || index < 0) {
                return -1;
            }
            return letterOf(witnessOf(f, g), index);
        }

        private static int letterOf(List<Integer> letters, int index) {
            return letters == null || index >= letters.size() ? -5 : letters.get(index);
        }

        private List<Integer> onFeatures() {
            List<Integer> found = new ArrayList<>();
            for (int f = 0; f < features.size(); f++) {
                if (features.get(f).on) {
                    found.add(f);
                }
            }
            return found;
        }

        int clashes() {
            int count = 0;
            for (int f : onFeatures()) {
                for (int g : onFeatures()) {
                    count += f < g ? clash(f, g) : 0;
                }
            }
            return count;
        }

        private List<List<Integer>> permutations(List<Integer> of) {
            if (of.isEmpty()) {
                return List.of(List.of());
            }
            List<List<Integer>> found = new ArrayList<>();
            for (int first : of) {
                List<Integer> rest = new ArrayList<>(of);
                rest.remove(Integer.valueOf(first));
                for (List<Integer> tail : permutations(rest)) {
                    List<Integer> whole = new ArrayList<>(List.of(first));
                    whole.addAll(tail);
                    found.add(whole);
                }
            }
            return found;
        }

        private Machine machineOf(List<Integer> order) {
            Machine machine = base;
            for (int f : order) {
                machine = machine.with(features.get(f));
            }
            return machine;
        }

        private int kinds(List<List<Integer>> orders, int most) {
            List<Machine> found = new ArrayList<>();
            Set<String> tables = new HashSet<>();
            for (List<Integer> order : orders) {
                Machine machine = machineOf(order);
                TreeMap<String, String> table = new TreeMap<>();
                machine.arrows.forEach((name, arrow) -> table.put(name, Arrays.toString(arrow)));
                if (tables.add(table.toString())) {
                    boolean isNew = true;
                    for (Machine other : found) {
                        isNew = isNew && difference(machine, other, letters) != null;
                    }
                    if (isNew) {
                        found.add(machine);
                    }
                }
                if (found.size() >= most) {
                    return most;
                }
            }
            return found.size();
        }

        int results() {
            return kinds(permutations(onFeatures()), 1000);
        }

        int reach(int f) {
            if (!feature(f)) {
                return -1;
            }
            Set<Integer> reached = base.reached();
            reached.addAll(base.with(features.get(f)).reached());
            int count = 0;
            for (String name : features.get(f).changes.keySet()) {
                count += reached.contains(Integer.parseInt(name.substring(0, name.indexOf(',')))) ? 1 : 0;
            }
            return count;
        }

        private boolean before(int f, int g) {
            Set<Integer> later = new HashSet<>();
            List<Integer> queue = new ArrayList<>(List.of(f));
            while (!queue.isEmpty()) {
                int at = queue.remove(queue.size() - 1);
                for (List<Integer> pair : told) {
                    if (pair.get(0) == at && later.add(pair.get(1))) {
                        queue.add(pair.get(1));
                    }
                }
            }
            return later.contains(g);
        }

        private int pairs() {
            int count = 0;
            for (int f = 0; f < features.size(); f++) {
                for (int g = 0; g < features.size(); g++) {
                    count += before(f, g) ? 1 : 0;
                }
            }
            return count;
        }

        int setBefore(int f, int g) {
            if (!two(f, g)) {
                return -1;
            }
            if (before(g, f)) {
                return -3;
            }
            told.add(List.of(f, g));
            return pairs();
        }

        int clearPriorities() {
            int count = pairs();
            told = new HashSet<>();
            return count;
        }

        int isBefore(int f, int g) {
            return !feature(f) || !feature(g) ? -1 : before(f, g) ? 1 : 0;
        }

        private List<List<Integer>> allowed() {
            boolean[][] before = new boolean[6][6];
            for (int f = 0; f < features.size(); f++) {
                for (int g = 0; g < features.size(); g++) {
                    before[f][g] = before(f, g);
                }
            }
            List<List<Integer>> found = new ArrayList<>();
            for (List<Integer> order : permutations(onFeatures())) {
                boolean good = true;
                for (int i = 0; i < order.size(); i++) {
                    for (int j = i + 1; j < order.size(); j++) {
                        good = good && !before[order.get(j)][order.get(i)];
                    }
                }
                if (good) {
                    found.add(order);
                }
            }
            return found;
        }

        private List<Integer> resolvedOrder() {
            return Collections.min(allowed(), (a, b) -> {
                for (int i = 0; i < a.size(); i++) {
                    if (!a.get(i).equals(b.get(i))) {
                        return a.get(i) - b.get(i);
                    }
                }
                return 0;
            });
        }

        int resolved(int place) {
            return place < 0 ? -1 : letterOf(resolvedOrder(), place);
        }

        private boolean isOpen(int f, int g) {
            return features.get(f).on && features.get(g).on && !before(f, g) && !before(g, f)
                && clash(f, g) == 1;
        }

        int open() {
            int count = 0;
            for (int f = 0; f < features.size(); f++) {
                for (int g = f + 1; g < features.size(); g++) {
                    count += isOpen(f, g) ? 1 : 0;
                }
            }
            return count;
        }

        int isResolved() {
            return kinds(allowed(), 2) == 1 ? 1 : 0;
        }

        int resolve() {
            int count = 0;
            boolean found = true;
            while (found) {
                found = false;
                for (int f = 0; f < features.size() && !found; f++) {
                    for (int g = f + 1; g < features.size() && !found; g++) {
                        if (isOpen(f, g)) {
                            told.add(List.of(f, g));
                            count++;
                            found = true;
                        }
                    }
                }
            }
            return count;
        }

        int add(int l) {
            if (!letter(l)) {
                return -1;
            }
            if (word.size() == 20) {
                return -4;
            }
            word.add(l);
            return word.size();
        }

        int clearWord() {
            int before = word.size();
            word = new ArrayList<>();
            return before;
        }

        int answer(int which, int index) {
            if (which < -2 || which >= features.size() || index < 0) {
                return -1;
            }
            if (index >= word.size()) {
                return -5;
            }
            Machine machine = which == -2 ? machineOf(resolvedOrder())
                : which == -1 ? base : base.with(features.get(which));
            return machine.run(word)[index];
        }

        private List<Integer> effectWord() {
            return difference(machineOf(resolvedOrder()), base, letters);
        }

        int effect(int index) {
            return index < 0 ? -1 : letterOf(effectWord(), index);
        }

        int save(int slot) {
            if (slot < 0 || slot > 1) {
                return -1;
            }
            slots[slot] = new Model();
            slots[slot].takeFrom(this);
            return features.size();
        }

        int restore(int slot) {
            if (slot < 0 || slot > 1) {
                return -1;
            }
            if (slots[slot] == null) {
                return -3;
            }
            takeFrom(slots[slot]);
            word = new ArrayList<>();
            return features.size();
        }

        long checksum() {
            List<Integer> values = new ArrayList<>();
            values.add(features.size());
            for (int f = 0; f < features.size(); f++) {
                values.add(changes(f));
                values.add(reach(f));
                for (int g = f + 1; g < features.size(); g++) {
                    values.add(clash(f, g));
                    List<Integer> witness = witnessOf(f, g);
                    values.addAll(witness == null ? List.of() : witness);
                }
            }
            values.add(clashes());
            values.add(allowed().size());
            values.add(open());
            values.add(isResolved());
            values.addAll(resolvedOrder());
            List<Integer> effect = effectWord();
            values.addAll(effect == null ? List.of() : effect);
            for (int index = 0; index < word.size(); index++) {
                values.add(answer(-2, index));
            }
            long sum = 83;
            for (int value : values) {
                sum = 31 * sum + value;
            }
            return sum;
        }
    }

    /** One object and one model, given the same calls. */
    private static final class Run {
        final int number;
        final Random random;
        final FeatureClashes object = new FeatureClashes();
        final Model model = new Model();
        /** How often a call has an argument by chance from far outside. */
        final double wild;
        int made = 0;

        Run(int number) {
            this.number = number;
            this.random = new Random(number);
            this.wild = number % 5 == 0 ? 0.1 : 0.01;
        }

        private int pick(int bound) {
            return random.nextInt(bound);
        }

        private int argument(int low, int high) {
            if (random.nextDouble() < wild) {
                int[] far = {low - 1, high + 1, -1, -2, -3, high + 2, 1000, Integer.MIN_VALUE,
                    Integer.MAX_VALUE, 80, 128, 32, 64};
                return far[pick(far.length)];
            }
            return low + pick(Math.max(1, high - low + 1));
        }

        private int aState() {
            return argument(0, model.states - 1);
        }

        private int aLetter() {
            return argument(0, model.letters - 1);
        }

        private int aFeature() {
            return argument(0, model.features.size() - 1);
        }

        /** Few outputs, so that machines are often alike. */
        private int anOutput() {
            return random.nextDouble() < 0.9 && wild < 0.05 ? argument(0, 1) : argument(0, 9);
        }

        private void due(String call, long got, long want) {
            made++;
            if (got != want) {
                wrong++;
                System.out.println("run " + number + ", call " + made + ": " + call + " answered " + got
                    + ", due is " + want);
            }
        }

        void play() {
            start();
            while (made < CALLS && wrong < MOST_SHOWN) {
                int kind = pick(100);
                if (kind < 30) {
                    build();
                } else if (kind < 40) {
                    write();
                } else if (kind < 60) {
                    order();
                } else if (kind < 75) {
                    words();
                } else {
                    ask();
                }
                if (pick(25) == 0) {
                    due("checksum()", object.checksum(), model.checksum());
                }
            }
        }

        private void start() {
            int states = number % 3 == 0 ? 1 + pick(8) : 1 + pick(4);
            int letters = number % 3 == 0 ? 1 + pick(4) : 1 + pick(2);
            begin(states, letters);
            for (int i = 0; i < states * letters; i++) {
                setArrow(aState(), aLetter(), aState(), anOutput());
            }
            int count = pick(7);
            for (int f = 0; f < count; f++) {
                due("addFeature()", object.addFeature(), model.addFeature());
                int changes = number % 4 == 0 ? pick(10) : pick(4);
                for (int i = 0; i < changes; i++) {
                    change(f);
                }
            }
        }

        private void begin(int s, int l) {
            due("begin(" + s + ", " + l + ")", object.begin(s, l), model.begin(s, l));
        }

        private void setArrow(int s, int l, int to, int out) {
            due("setArrow(" + s + ", " + l + ", " + to + ", " + out + ")",
                object.setArrow(s, l, to, out), model.setArrow(s, l, to, out));
        }

        private void change(int f) {
            int s = aState();
            int l = aLetter();
            if (pick(4) == 0) {
                due("changeToNone(" + f + ", " + s + ", " + l + ")",
                    object.changeToNone(f, s, l), model.changeToNone(f, s, l));
            } else {
                int to = aState();
                int out = anOutput();
                due("change(" + f + ", " + s + ", " + l + ", " + to + ", " + out + ")",
                    object.change(f, s, l, to, out), model.change(f, s, l, to, out));
            }
        }

        private void build() {
            int kind = pick(100);
            int f = aFeature();
            int s = aState();
            int l = aLetter();
            if (kind < 2) {
                start();
            } else if (kind < 4) {
                begin(argument(1, 8), argument(1, 4));
            } else if (kind < 25) {
                setArrow(s, l, aState(), anOutput());
            } else if (kind < 33) {
                due("removeArrow(" + s + ", " + l + ")", object.removeArrow(s, l), model.removeArrow(s, l));
            } else if (kind < 43) {
                due("addFeature()", object.addFeature(), model.addFeature());
            } else if (kind < 75) {
                change(f);
            } else if (kind < 85) {
                due("unchange(" + f + ", " + s + ", " + l + ")",
                    object.unchange(f, s, l), model.unchange(f, s, l));
            } else {
                boolean on = pick(3) > 0;
                due("setOn(" + f + ", " + on + ")", object.setOn(f, on), model.setOn(f, on));
            }
        }

        private void append(int b) {
            due("append(" + b + ")", object.append(b), model.append(b));
        }

        private void write() {
            int kind = pick(10);
            if (kind < 4) {
                String change = "" + (char) ('0' + aState()) + (char) ('a' + aLetter())
                    + (pick(2) == 0 ? "-;" : ">" + (char) ('0' + aState()) + "/" + (char) ('0' + pick(10)) + ";");
                for (int i = 0; i < change.length(); i++) {
                    append(change.charAt(i));
                    if (pick(12) == 0) {
                        append(pick(3) == 0 ? argument(0, 127) : "0189abcde>/-;:".charAt(pick(14)));
                    }
                    if (pick(4) == 0) {
                        due("faultPosition()", object.faultPosition(), model.faultPosition());
                    }
                }
            } else if (kind < 6) {
                due("clearText()", object.clearText(), model.clearText());
            } else if (kind < 7) {
                due("faultPosition()", object.faultPosition(), model.faultPosition());
            } else {
                int f = pick(3) == 0 ? -1 : aFeature();
                due("read(" + f + ")", object.read(f), model.read(f));
            }
        }

        private void order() {
            int f = aFeature();
            int g = aFeature();
            switch (pick(12)) {
                case 0: case 1: case 2:
                    due("setBefore(" + f + ", " + g + ")", object.setBefore(f, g), model.setBefore(f, g));
                    break;
                case 3:
                    if (pick(3) == 0) {
                        due("clearPriorities()", object.clearPriorities(), model.clearPriorities());
                    }
                    break;
                case 4: case 5:
                    due("isBefore(" + f + ", " + g + ")", object.isBefore(f, g), model.isBefore(f, g));
                    break;
                case 6:
                    due("orders()", object.orders(), model.allowed().size());
                    break;
                case 7:
                    int place = argument(0, 5);
                    due("resolved(" + place + ")", object.resolved(place), model.resolved(place));
                    break;
                case 8:
                    due("open()", object.open(), model.open());
                    break;
                case 9: case 10:
                    due("isResolved()", object.isResolved(), model.isResolved());
                    break;
                default:
                    if (pick(2) == 0) {
                        due("resolve()", object.resolve(), model.resolve());
                    }
            }
        }

        private void words() {
            int slot = argument(0, 1);
            int index = argument(0, 20);
            int kind = pick(100);
            if (kind < 45) {
                int l = aLetter();
                due("add(" + l + ")", object.add(l), model.add(l));
            } else if (kind < 48) {
                due("clearWord()", object.clearWord(), model.clearWord());
            } else if (kind < 75) {
                int which = argument(-2, model.features.size() - 1);
                int within = argument(0, Math.max(0, model.word.size() - 1));
                due("answer(" + which + ", " + within + ")",
                    object.answer(which, within), model.answer(which, within));
            } else if (kind < 90) {
                index = pick(2) == 0 ? argument(0, 3) : index;
                due("effect(" + index + ")", object.effect(index), model.effect(index));
            } else if (kind < 96) {
                due("save(" + slot + ")", object.save(slot), model.save(slot));
            } else {
                due("restore(" + slot + ")", object.restore(slot), model.restore(slot));
            }
        }

        private void ask() {
            int f = aFeature();
            int g = aFeature();
            switch (pick(8)) {
                case 0:
                    due("features()", object.features(), model.features.size());
                    break;
                case 1:
                    due("changes(" + f + ")", object.changes(f), model.changes(f));
                    break;
                case 2:
                    due("reach(" + f + ")", object.reach(f), model.reach(f));
                    break;
                case 3:
                    due("clash(" + f + ", " + g + ")", object.clash(f, g), model.clash(f, g));
                    break;
                case 4:
                    due("clashes()", object.clashes(), model.clashes());
                    break;
                case 5:
                    due("results()", object.results(), model.results());
                    break;
                default:
                    for (int index = argument(0, 2); index < 20 && made < CALLS; index += 1 + pick(3)) {
                        int letter = model.witness(f, g, index);
                        due("witness(" + f + ", " + g + ", " + index + ")",
                            object.witness(f, g, index), letter);
                        if (letter < 0) {
                            break;
                        }
                    }
            }
        }
    }
}
