import java.lang.reflect.Constructor;
import java.lang.reflect.Field;
import java.lang.reflect.Method;
import java.lang.reflect.Modifier;
import java.nio.file.Files;
import java.nio.file.Path;
import java.util.Arrays;
import java.util.List;
import java.util.Set;
import java.util.TreeSet;
import java.util.regex.Matcher;
import java.util.regex.Pattern;

/** The class's face is the document's and no other, and its file keeps to LANGUAGE.md as far as its words and its tree can tell. */
public final class NineHousesLanguage {
    private static final Path SOURCE = Path.of("src/main/java/NineHouses.java");
    private static final List<String> FACE = List.of(
        "feed(int,long)", "parish()", "plan()", "fault()", "told(int)", "house(int,int)", "far(int,int)",
        "part(int,int)", "away(int)", "awake(int,int)", "comes(int,int,int)", "stands(int,int)", "put(int,int,int)",
        "waited(int,int)", "odds(int,int,int,int)", "night(int)", "crier(int,int,int)", "keepAt(int,int)",
        "kept(int,int,int)", "reach(int)", "needed(int)", "fit(int,int)", "ladders(int,int)", "longest(int)",
        "cost(int,int)", "store(int)", "spares(int,int,int,int)", "two(int,int,int,int)", "log(int,int)", "clear()",
        "late(int,int,int)", "judge(int,int,int)", "seed(int)", "keep(int)", "goBack(int)");
    private static final String[] RULED_OUT = {
        "throw", "throws", "try", "catch", "finally", "synchronized", "assert", "import static", "package",
        "System\\.(?!arraycopy)", "Math\\.\\w+Exact", "Arrays\\.(?!fill|copyOf)", "->", "::", "toString", "hashCode",
        "Object", "static \\{", "new \\w+\\(\\) \\{", "import (?!java\\.util\\.Arrays;)", "double", "float"};

    /** What of the library the class uses; more of LANGUAGE.md's fourth rule may be put here when it does. */
    private static final Set<String> LIBRARY = Set.of(
        "String.length", "String.charAt", "Integer.bitCount", "Math.max", "Math.min", "System.arraycopy", "Arrays.fill");
    private static final Set<String> TYPES = Set.of("int", "long", "char", "boolean", "int[]", "int[][]", "char[]", "String",
        "Text", "Parish", "Plan", "Now", "Waking", "Raising", "Crier", "Moves");
    private static final int MOST_DEEP = 8;

    private static int wrong = 0;

    private static void check(boolean holds, String what) {
        if (!holds) {
            wrong++;
            System.out.println(what);
        }
    }

    public static void main(String[] args) throws Exception {
        faceIsTheDocuments();
        classesInsideAreStatic();
        String code = withoutComments(Files.readString(SOURCE));
        for (String word : RULED_OUT) {
            String edged = Character.isLetter(word.charAt(0)) ? "\\b" + word : word;
            Matcher found = Pattern.compile(edged + (word.matches("\\w+") ? "\\b" : "")).matcher(code);
            check(!found.find(), "the file has what LANGUAGE.md rules out: " + word);
        }
        noPrivateMethodBearsAPublicName(code);
        treeKeepsToTheRules(new Written(SOURCE));
        System.out.println(wrong == 0 ? "the language is kept to" : wrong + " rules are not kept to");
        if (wrong != 0) System.exit(1);
    }

    private static void faceIsTheDocuments() {
        Class<?> c = NineHouses.class;
        check(Modifier.isPublic(c.getModifiers()) && Modifier.isFinal(c.getModifiers()), "the class is public and final");
        Set<String> open = new TreeSet<>();
        for (Method m : c.getDeclaredMethods()) {
            if (Modifier.isPrivate(m.getModifiers())) continue;
            check(Modifier.isPublic(m.getModifiers()) && !Modifier.isStatic(m.getModifiers()), "public, not static: " + m);
            check(m.getReturnType() == int.class, "answers int: " + m);
            StringBuilder sign = new StringBuilder(m.getName()).append('(');
            for (Class<?> p : m.getParameterTypes()) {
                if (sign.charAt(sign.length() - 1) != '(') sign.append(',');
                sign.append(p.getName());
            }
            open.add(sign.append(')').toString());
        }
        check(open.equals(new TreeSet<>(FACE)), "the methods are the document's: " + open);
        Set<String> constants = new TreeSet<>();
        for (Field f : c.getDeclaredFields()) {
            if (!Modifier.isPrivate(f.getModifiers())) constants.add(f.getName());
            if (Modifier.isStatic(f.getModifiers())) check(Modifier.isFinal(f.getModifiers()), "static and final: " + f);
        }
        check(constants.equals(Set.of("NONE", "UNKNOWN", "OUTSIDE", "NOT", "FULL")), "the constants: " + constants);
        Constructor<?>[] made = c.getDeclaredConstructors();
        check(made.length == 1 && made[0].getParameterCount() == 0 && Modifier.isPublic(made[0].getModifiers()),
            "one public constructor without parameters");
    }

    private static void classesInsideAreStatic() {
        Class<?>[] inside = NineHouses.class.getDeclaredClasses();
        check(inside.length < 12, "at most some twelve classes");
        for (Class<?> c : inside) {
            check(Modifier.isStatic(c.getModifiers()) && !Modifier.isPublic(c.getModifiers()), "static, not public: " + c);
            long fields = Arrays.stream(c.getDeclaredFields()).filter(f -> !Modifier.isStatic(f.getModifiers())).count();
            check(fields <= 20, "some twenty fields: " + c);
            for (Method m : c.getDeclaredMethods()) check(m.getParameterCount() <= 7, "seven parameters at most: " + m);
        }
    }

    private static String withoutComments(String text) {
        return text.replaceAll("(?s)/\\*.*?\\*/", "").replaceAll("//[^\n]*", "");
    }

    private static void noPrivateMethodBearsAPublicName(String code) {
        for (String face : FACE) {
            String name = face.substring(0, face.indexOf('('));
            Matcher found = Pattern.compile("\\b(?:int|long|boolean|void|char|int\\[\\]) " + name + "\\(").matcher(code);
            int count = 0;
            while (found.find()) count++;
            check(count == 1, "one method alone bears the name " + name);
        }
    }

    private static void callsAreNotDeep(Written written) {
        for (String method : written.calls.keySet()) {
            boolean comesBack = written.reachedFrom(method).contains(method);
            check(!comesBack, "no method comes back to itself: " + method);
            if (comesBack) return;
        }
        for (String method : written.calls.keySet()) {
            List<String> chain = written.chainFrom(method);
            check(chain.size() <= MOST_DEEP, "calls go at most eight deep: " + chain);
        }
    }

    private static void treeKeepsToTheRules(Written written) {
        callsAreNotDeep(written);
        check(LIBRARY.containsAll(written.library()), "the library is what LANGUAGE.md lists: " + written.library());
        check(TYPES.containsAll(written.types), "the types are those of LANGUAGE.md: " + written.types);
        check(Set.of("int", "char").containsAll(written.casts), "casts are of numbers alone: " + written.casts);
        for (String divisor : written.divisors) {
            check(divisor.matches("-?[1-9][0-9]*L?|Math\\.max\\(\\w+, 1\\)"), "a divisor is never 0: " + divisor);
        }
        check(written.handedOut.isEmpty(), "constructors hand out nothing: " + written.handedOut);
        check(written.madeByMethods.isEmpty(), "what is made is made by constructors: " + written.madeByMethods);
        check(written.joinedTexts.isEmpty(), "texts are not joined by +: " + written.joinedTexts);
        check(written.longMethods.isEmpty(), "some sixty lines at most: " + written.longMethods);
    }
}
