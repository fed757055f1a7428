import java.io.IOException;
import java.lang.reflect.Constructor;
import java.lang.reflect.Field;
import java.lang.reflect.Method;
import java.lang.reflect.Modifier;
import java.nio.file.Files;
import java.nio.file.Path;
import java.util.Arrays;
import java.util.List;
import java.util.Set;
import java.util.TreeSet;
import java.util.regex.Matcher;
import java.util.regex.Pattern;

/** The public face is the document's, and the source keeps to those rules that can be seen in it. */
public final class FaceTest {
    private static final String[] CONSTANTS = {"BAD_INDEX = -1", "BAD_VALUE = -2", "NOT_POSSIBLE = -3",
        "FULL = -4", "NONE = -5", "STOP = 10"};
    private static final String[] METHODS = {
        "int begin(int, int)", "int setArrow(int, int, int, int)", "int removeArrow(int, int)",
        "int addFeature()", "int change(int, int, int, int, int)", "int changeToNone(int, int, int)",
        "int unchange(int, int, int)", "int setOn(int, boolean)", "int features()", "int changes(int)",
        "int append(int)", "int clearText()", "int faultPosition()", "int read(int)", "int clash(int, int)",
        "int witness(int, int, int)", "int clashes()", "int results()", "int reach(int)",
        "int setBefore(int, int)", "int clearPriorities()", "int isBefore(int, int)", "int orders()",
        "int resolved(int)", "int open()", "int isResolved()", "int resolve()", "int add(int)",
        "int clearWord()", "int answer(int, int)", "int effect(int)", "int save(int)", "int restore(int)",
        "long checksum()"};
    private static final String[] FORBIDDEN = {"throw", "throws", "try", "catch", "finally", "synchronized",
        "assert", "package", "protected", "volatile", "transient", "native", "double", "float", "Object",
        "System\\.(?!arraycopy)\\w+", "\\w+Exact", "->", "::", "equals", "hashCode", "toString", "var"};

    private static int wrong = 0;

    private static void check(boolean good, String what) {
        if (!good) {
            wrong++;
            System.out.println("FaceTest: " + what);
        }
    }

    public static void main(String[] args) throws IOException, IllegalAccessException {
        checkClass();
        checkConstants();
        checkMethods();
        checkNested();
        checkSource(Files.readString(Path.of("src/main/java/FeatureClashes.java")));
        System.out.println(wrong == 0 ? "FaceTest: the face is as due" : "FaceTest: " + wrong + " wrong");
        if (wrong != 0) {
            System.exit(1);
        }
    }

    private static void checkClass() {
        int modifiers = FeatureClashes.class.getModifiers();
        check(Modifier.isPublic(modifiers) && Modifier.isFinal(modifiers), "the class is public and final");
        Constructor<?>[] constructors = FeatureClashes.class.getDeclaredConstructors();
        check(constructors.length == 1 && Modifier.isPublic(constructors[0].getModifiers())
            && constructors[0].getParameterCount() == 0, "one public constructor without arguments");
    }

    private static void checkConstants() throws IllegalAccessException {
        Set<String> found = new TreeSet<>();
        for (Field field : FeatureClashes.class.getDeclaredFields()) {
            if (!Modifier.isPrivate(field.getModifiers())) {
                check(field.getModifiers() == (Modifier.PUBLIC | Modifier.STATIC | Modifier.FINAL)
                    && field.getType() == int.class, field + " is no public constant");
                found.add(field.getName() + " = " + field.getInt(null));
            }
        }
        check(found.equals(new TreeSet<>(List.of(CONSTANTS))), "constants are " + found);
    }

    private static void checkMethods() {
        Set<String> found = new TreeSet<>();
        Set<String> names = new TreeSet<>();
        for (Method method : FeatureClashes.class.getDeclaredMethods()) {
            if (!Modifier.isPrivate(method.getModifiers())) {
                check(method.getModifiers() == Modifier.PUBLIC, method + " is not just public");
                String types = Arrays.toString(method.getParameterTypes());
                found.add(method.getReturnType() + " " + method.getName() + "("
                    + types.substring(1, types.length() - 1) + ")");
                names.add(method.getName());
            }
        }
        check(found.equals(new TreeSet<>(List.of(METHODS))), "methods are " + found);
        for (Method method : FeatureClashes.class.getDeclaredMethods()) {
            check(!Modifier.isPrivate(method.getModifiers()) || !names.contains(method.getName()),
                "a private method bears a public name: " + method);
        }
        for (Class<?> nested : FeatureClashes.class.getDeclaredClasses()) {
            for (Method method : nested.getDeclaredMethods()) {
                check(!names.contains(method.getName()), "a method inside bears a public name: " + method);
            }
        }
    }

    private static void checkNested() {
        Class<?>[] nested = FeatureClashes.class.getDeclaredClasses();
        check(nested.length <= 11, "too many classes");
        for (Class<?> inside : nested) {
            check(Modifier.isStatic(inside.getModifiers()), inside + " is not static");
            checkSize(inside);
        }
        checkSize(FeatureClashes.class);
    }

    private static void checkSize(Class<?> type) {
        int fields = 0;
        for (Field field : type.getDeclaredFields()) {
            boolean isStatic = Modifier.isStatic(field.getModifiers());
            fields += isStatic ? 0 : 1;
            check(!isStatic || Modifier.isFinal(field.getModifiers()), field + " is static, not final");
        }
        check(fields <= 20, type + " has too many fields");
        for (Method method : type.getDeclaredMethods()) {
            check(method.getParameterCount() <= 7, method + " has too many parameters");
        }
    }

    private static void checkSource(String source) {
        String code = source.replaceAll("(?s)/\\*.*?\\*/", "").replaceAll("//[^\n]*", "");
        for (String word : FORBIDDEN) {
            String pattern = Character.isLetter(word.charAt(0)) || word.startsWith("\\w")
                ? "\\b" + word + "\\b" : Pattern.quote(word);
            Matcher matcher = Pattern.compile(pattern).matcher(code);
            check(!matcher.find(), "the source has " + word);
        }
        // Rows are made with the object alone: else a run of calls would fill the room.
        for (String line : code.split("\n")) {
            boolean isField = line.matches("\\s*(private |static |final )+.*= .*new .*;");
            boolean isRow = line.matches("\\s*final .*= new .*;");
            check(!line.contains("new ") || isField || isRow, "an object is made in a call: " + line.trim());
        }
        Matcher imports = Pattern.compile("(?m)^import (.*);").matcher(code);
        while (imports.find()) {
            check(imports.group(1).equals("java.util.Arrays"), "it imports " + imports.group(1));
        }
    }
}
