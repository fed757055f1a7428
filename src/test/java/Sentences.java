import java.io.IOException;
import java.nio.file.Files;
import java.nio.file.Path;
import java.util.LinkedHashSet;
import java.util.Set;
import java.util.function.IntUnaryOperator;
import java.util.regex.Matcher;
import java.util.regex.Pattern;

/** Keeps the tests of the document's sentences: each test bears the sentence that it guards. */
final class Sentences {
    static final int BAD_INDEX = -1;
    static final int BAD_VALUE = -2;
    static final int NOT_POSSIBLE = -3;
    static final int FULL = -4;
    static final int NONE = -5;
    static final int STOP = 10;
    static final int LEAST = Integer.MIN_VALUE;
    static final int MOST = Integer.MAX_VALUE;

    /** The number that stands for "Terms" and "What it is", beside the promises 1 to 35. */
    static final int TERMS = 0;

    /** Far outside of every range; some come back into it when multiplied, shifted or cut off. */
    private static final int[] FAR = {LEAST, LEAST + 1, -(1 << 30), -65536, -256, -32, 32, 64, 256, 65536,
        1 << 28, 1 << 30, MOST - 1, MOST};

    private static final Path DOCUMENT = Path.of("../shared/DOC.md");
    private static final int MOST_SHOWN = 60;

    private static final Set<String> tested = new LinkedHashSet<>();
    private static String current = "";
    private static int checks = 0;
    private static int wrong = 0;

    private Sentences() {
    }

    /** Runs the test of a sentence; promise 0 stands for the sentences ahead of the promises. */
    static void says(int promise, String sentence, Runnable test) {
        current = promise + ": " + sentence;
        tested.add(current);
        checks = 0;
        try {
            test.run();
        } catch (RuntimeException | StackOverflowError thrown) {
            fail("a call threw " + thrown);
        }
        if (checks == 0) {
            fail("the test asks nothing");
        }
    }

    static void due(long got, long want) {
        checks++;
        if (got != want) {
            fail("answered " + got + ", due is " + want);
        }
    }

    static void due(String got, String want) {
        checks++;
        if (!got.equals(want)) {
            fail("answered " + got + ", due is " + want);
        }
    }

    /** The least and the greatest value are taken; the one beyond each, and far ones, are refused. */
    static void dueRange(int least, int most, int error, IntUnaryOperator call) {
        dueTaken(call.applyAsInt(least), least);
        dueTaken(call.applyAsInt(most), most);
        due(call.applyAsInt(least - 1), error);
        due(call.applyAsInt(most + 1), error);
        for (int value : FAR) {
            if (value < least || value > most) {
                due(call.applyAsInt(value), error);
            }
        }
    }

    private static void dueTaken(int answer, int value) {
        checks++;
        if (answer < 0 && answer != NONE) {
            fail("refused " + value + " with " + answer);
        }
    }

    static void fail(String what) {
        wrong++;
        if (wrong <= MOST_SHOWN) {
            System.out.println("[" + current + "] line " + place() + ": " + what);
        }
    }

    private static String place() {
        for (StackTraceElement at : new Throwable().getStackTrace()) {
            if (at.getClassName().endsWith("Sentences") && !at.getClassName().equals("Sentences")) {
                return at.getFileName() + ":" + at.getLineNumber();
            }
        }
        return "?";
    }

    /** Compares the sentences that have tests with those of the document, and tells how it went. */
    static boolean allHold() throws IOException {
        Set<String> documented = documented(Files.readString(DOCUMENT));
        for (String sentence : documented) {
            if (!tested.contains(sentence)) {
                wrong++;
                System.out.println("no test for [" + sentence + "]");
            }
        }
        for (String sentence : tested) {
            if (!documented.contains(sentence)) {
                wrong++;
                System.out.println("not in the document: [" + sentence + "]");
            }
        }
        System.out.println(wrong == 0 ? "BoundaryTest: all " + tested.size() + " sentences hold"
            : "BoundaryTest: " + wrong + " wrong");
        return wrong == 0;
    }

    private static Set<String> documented(String document) {
        Set<String> found = new LinkedHashSet<>();
        addSentences(found, TERMS, between(document, "An object is used", "\n\n"));
        for (String paragraph : between(document, "Machines. There", "Ahead of the calls").split("\n\n")) {
            addSentences(found, TERMS, paragraph.strip());
        }
        Matcher promises = Pattern.compile("(?s)## Promise (\\d+): [^\n]*\n(.*?)(?=\n## )").matcher(document);
        while (promises.find()) {
            int number = Integer.parseInt(promises.group(1));
            for (String line : promises.group(2).strip().split("\n+")) {
                addSentences(found, number, line.replaceFirst("^`\\w+ ?[^`]*`: ", ""));
            }
        }
        return found;
    }

    private static String between(String document, String first, String behind) {
        int start = document.indexOf(first);
        int end = start < 0 ? -1 : document.indexOf(behind, start);
        return end < 0 ? "" : document.substring(start, end);
    }

    private static void addSentences(Set<String> found, int promise, String line) {
        if (line.startsWith("- ")) {
            found.add(promise + ": " + line.substring(2));
            return;
        }
        for (String sentence : line.split("(?<=[.)])\\s+(?=[A-Z(])")) {
            boolean isHeading = sentence.matches("(Machines|Features|Priorities|The text|Errors)\\.");
            if (sentence.startsWith("Returns ")) {
                for (String part : sentence.replaceFirst("\\.$", "").split("; ")) {
                    found.add(promise + ": " + part);
                }
            } else if (!isHeading) {
                found.add(promise + ": " + sentence);
            }
        }
    }
}
