import java.io.IOException;
import java.lang.reflect.Field;
import java.lang.reflect.Method;
import java.lang.reflect.Modifier;
import java.nio.file.Files;
import java.nio.file.Path;
import java.util.Set;
import java.util.TreeSet;
import java.util.regex.Matcher;
import java.util.regex.Pattern;

/** The public face of the document, and those rules of the language that can be seen from outside. */
public final class FaceTests {
    private static final Set<String> FACE = Set.of("int node()", "int arc(int,int,int)", "int cut(int)", "int clear()",
            "int pairs(int)", "int weight(int)", "int mate(int,int)", "int sort(int)", "int piece(int)",
            "int shape(int)", "long count(int)", "int cover()", "int coverArc(int)", "int hold()",
            "int holdNode(int)", "int join(int)", "int joinArc(int)", "int rank(int,int,int)", "int stable()",
            "int stableMate(int)");
    private static final String[] RULED_OUT = {"throw", "throws", "try", "catch", "finally", "synchronized", "assert",
            "protected", "volatile", "transient", "native", "var", "System\\.(?!arraycopy)", "->", "::", "\\w+Exact",
            "Integer\\.M\\w+_VALUE", "Long\\.M\\w+_VALUE", "java\\.(?!util\\.Arrays;)", "while \\(true\\)"};
    // The face in the document's order, with what the interface says ahead of some calls.
    private static final String[] IN_ORDER = {"public PairMatching()", "public int node()", "public int arc(",
        "public int cut(", "public int clear()", "// ---- pairs\n", "public int pairs(", "public int weight(",
        "public int mate(", "public int sort(", "public int piece(", "public int shape(", "public long count(",
        "// ---- covers, holds, joins\n", "public int cover()", "public int coverArc(", "public int hold()",
        "public int holdNode(", "public int join(", "public int joinArc(", "// ---- ranks\n", "public int rank(",
        "public int stable()", "public int stableMate("};
    private static final int MOST_CLASSES = 12;
    private static final int MOST_FIELDS = 20;
    private static final int MOST_PARAMETERS = 7;

    private final Checks checks = new Checks();

    public static void main(String[] args) throws IOException {
        FaceTests tests = new FaceTests();
        tests.face();
        tests.members();
        String text = Files.readString(Path.of("src/main/java/PairMatching.java"));
        tests.order(text);
        tests.words(text);
        tests.checks.end();
    }

    private void face() {
        checks.isTrue("public", Modifier.isPublic(PairMatching.class.getModifiers()));
        checks.isTrue("final", Modifier.isFinal(PairMatching.class.getModifiers()));
        checks.due("constructors", PairMatching.class.getDeclaredConstructors().length, 1);
        checks.due("public constructors", PairMatching.class.getConstructors().length, 1);
        Set<String> found = new TreeSet<>();
        for (Method method : PairMatching.class.getDeclaredMethods()) {
            if (!Modifier.isPrivate(method.getModifiers())) {
                found.add(told(method));
                checks.isTrue(told(method) + " is public", Modifier.isPublic(method.getModifiers()));
                checks.isTrue(told(method) + " is in the face", FACE.contains(told(method)));
            }
        }
        checks.due("methods of the face", found.size(), FACE.size());
    }

    private static String told(Method method) {
        StringBuilder text = new StringBuilder();
        for (Class<?> type : method.getParameterTypes()) {
            text.append(text.length() == 0 ? "" : ",").append(type);
        }
        return method.getReturnType() + " " + method.getName() + "(" + text + ")";
    }

    private void members() {
        Set<String> names = new TreeSet<>();
        for (String method : FACE) {
            names.add(method.substring(method.indexOf(' ') + 1, method.indexOf('(')));
        }
        for (Field field : PairMatching.class.getDeclaredFields()) {
            checks.isTrue(field + " is private", Modifier.isPrivate(field.getModifiers()));
        }
        Class<?>[] inside = PairMatching.class.getDeclaredClasses();
        checks.isTrue("number of classes", inside.length < MOST_CLASSES);
        membersOf(PairMatching.class, names);
        for (Class<?> type : inside) {
            checks.isTrue(type + " is static", Modifier.isStatic(type.getModifiers()));
            membersOf(type, names);
        }
    }

    private void membersOf(Class<?> type, Set<String> names) {
        int fields = 0;
        for (Field field : type.getDeclaredFields()) {
            boolean isStatic = Modifier.isStatic(field.getModifiers());
            fields += isStatic ? 0 : 1;
            checks.isTrue(field + " is final if static", !isStatic || Modifier.isFinal(field.getModifiers()));
        }
        checks.isTrue(type + " has few fields", fields <= MOST_FIELDS);
        for (Method method : type.getDeclaredMethods()) {
            checks.isTrue(method + " has few parameters", method.getParameterCount() <= MOST_PARAMETERS);
            boolean isFace = type == PairMatching.class && Modifier.isPublic(method.getModifiers());
            checks.isTrue(method + " has a name of its own", isFace || !names.contains(method.getName()));
        }
    }

    private void order(String text) {
        int last = -1;
        for (String words : IN_ORDER) {
            int here = text.indexOf(words);
            checks.isTrue(words.strip() + " stands in its place", here > last);
            checks.due(words.strip() + " stands once", text.lastIndexOf(words), here);
            last = here;
        }
    }

    private void words(String text) {
        String code = text.replaceAll("(?s)/\\*.*?\\*/", "").replaceAll("//[^\n]*", "");
        for (String word : RULED_OUT) {
            String bounded = Character.isLetter(word.charAt(0)) ? "\\b" + word : word;
            String whole = word.matches("[a-z]+") ? bounded + "\\b" : bounded;
            Matcher matcher = Pattern.compile(whole).matcher(code);
            checks.isTrue("no " + word + " in the class", !matcher.find());
        }
    }
}
