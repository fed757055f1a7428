import java.util.ArrayList;
import java.util.HashMap;
import java.util.List;
import java.util.Map;
import java.util.function.Function;
import java.util.function.Supplier;
import java.util.function.ToLongFunction;

/** Tells whether a call changed anything: two objects are made alike, and one of them is called. */
final class Twins {
    private static final List<Function<FeatureClashes, String>> LOOKS = looks();
    private static final Map<Supplier<FeatureClashes>, List<String>> UNTOUCHED = new HashMap<>();

    private Twins() {
    }

    /** The call reports the error, and changes nothing. */
    static void dueRefused(Supplier<FeatureClashes> made, int error, ToLongFunction<FeatureClashes> call) {
        dueWithoutChange(made, error, call);
    }

    static void dueWithoutChange(Supplier<FeatureClashes> made, long answer, ToLongFunction<FeatureClashes> call) {
        List<String> untouched = UNTOUCHED.computeIfAbsent(made, Twins::lookAt);
        for (int i = 0; i < LOOKS.size(); i++) {
            // A look takes the object apart, and would take more than 512 calls with the others.
            FeatureClashes x = made.get();
            Sentences.due(call.applyAsLong(x), answer);
            Sentences.due(LOOKS.get(i).apply(x), untouched.get(i));
        }
    }

    private static List<String> lookAt(Supplier<FeatureClashes> made) {
        List<String> seen = new ArrayList<>();
        for (Function<FeatureClashes, String> look : LOOKS) {
            seen.add(look.apply(made.get()));
        }
        return seen;
    }

    private static List<Function<FeatureClashes, String>> looks() {
        List<Function<FeatureClashes, String>> looks = new ArrayList<>();
        looks.add(Twins::answers);
        looks.add(Twins::wordLetters);
        looks.add(Twins::textChanges);
        for (int slot = -1; slot < 2; slot++) {
            int from = slot;
            looks.add(x -> restored(x, from) ? parts(x) : "empty");
            for (int feature = 0; feature < 6; feature++) {
                int f = feature;
                looks.add(x -> restored(x, from) ? arrowsOf(x, f) : "empty");
            }
        }
        return looks;
    }

    /** Slot -1 stands for the object as it is. */
    private static boolean restored(FeatureClashes x, int slot) {
        return slot < 0 || x.restore(slot) >= 0;
    }

    private static String answers(FeatureClashes x) {
        StringBuilder seen = new StringBuilder();
        seen.append(x.features()).append(' ').append(x.faultPosition()).append(' ').append(x.results());
        for (int f = 0; f < 6; f++) {
            seen.append(' ').append(x.changes(f)).append(' ').append(x.reach(f));
            for (int g = f + 1; g < 6; g++) {
                seen.append(' ').append(x.clash(f, g)).append(x.witness(f, g, 0)).append(x.witness(f, g, 1));
            }
        }
        seen.append(' ').append(x.clashes()).append(' ').append(x.orders()).append(' ').append(x.open())
            .append(' ').append(x.isResolved()).append(' ').append(x.effect(0)).append(x.effect(1));
        for (int place = 0; place <= 6; place++) {
            seen.append(' ').append(x.resolved(place));
        }
        for (int which = -2; which < 6; which++) {
            for (int index = 0; index < 20; index++) {
                seen.append(' ').append(x.answer(which, index));
            }
        }
        return seen.append(' ').append(x.checksum()).toString();
    }

    private static String wordLetters(FeatureClashes x) {
        StringBuilder seen = new StringBuilder();
        for (int letter = 0; letter < 4; letter++) {
            x.setArrow(0, letter, 0, letter);
        }
        for (int index = 0; index <= 20; index++) {
            seen.append(' ').append(x.answer(-1, index));
        }
        return seen.append(' ').append(x.clearWord()).toString();
    }

    private static String textChanges(FeatureClashes x) {
        StringBuilder seen = new StringBuilder();
        seen.append(x.faultPosition());
        x.begin(8, 4);
        x.addFeature();
        seen.append(' ').append(x.faultPosition()).append(' ').append(x.read(0)).append(' ').append(x.clearText());
        return seen.append(arrowsOf(x, 0)).toString();
    }

    /** The arrows of the base machine, which features are on, which arrows they change, the priorities. */
    private static String parts(FeatureClashes x) {
        StringBuilder seen = new StringBuilder();
        for (int state = 0; state <= 8; state++) {
            for (int letter = 0; letter <= 4; letter++) {
                seen.append(' ').append(x.removeArrow(state, letter));
            }
        }
        for (int f = 0; f < 6; f++) {
            seen.append(' ').append(x.setOn(f, true)).append(' ').append(x.changes(f));
            for (int cell = 0; cell < 32; cell++) {
                seen.append(' ').append(x.unchange(f, cell / 4, cell % 4));
            }
            for (int g = 0; g < 6; g++) {
                seen.append(' ').append(x.isBefore(f, g));
            }
        }
        return seen.append(' ').append(x.clearPriorities()).toString();
    }

    /** Each arrow of the base machine with a feature put on it: its output, then where it leads. */
    private static String arrowsOf(FeatureClashes x, int feature) {
        StringBuilder seen = new StringBuilder();
        x.save(1);
        int size = x.begin(1, 1);
        for (int letter = 0; letter < size % 10; letter++) {
            if (x.restore(1) <= feature) {
                return "no feature";
            }
            // Another letter leads from state 0 to the state that is asked, and tells a state's number.
            int namer = letter == 0 ? 1 : 0;
            for (int state = 0; state < size / 10; state++) {
                x.unchange(feature, state, namer);
                x.setArrow(state, namer, 0, state);
            }
            for (int state = 0; state < size / 10; state++) {
                x.setArrow(0, namer, state, 0);
                x.clearWord();
                int at = state == 0 ? 0 : x.add(namer);
                x.add(letter);
                x.add(namer);
                seen.append(' ').append(x.answer(feature, at)).append('>').append(x.answer(feature, at + 1));
            }
        }
        return seen.toString();
    }
}
