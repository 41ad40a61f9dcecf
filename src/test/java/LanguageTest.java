import java.lang.reflect.Field;
import java.lang.reflect.Member;
import java.lang.reflect.Method;
import java.lang.reflect.Modifier;
import java.nio.file.Files;
import java.nio.file.Path;
import java.util.ArrayList;
import java.util.List;
import java.util.TreeSet;
import java.util.regex.Matcher;
import java.util.regex.Pattern;

/** The rules of LANGUAGE.md that can be looked at from outside, and the document's face. */
public final class LanguageTest {
    private static final Path MAIN = Path.of("src/main/java/WornNames.java");
    private static final Path DOCUMENT = Path.of("../shared/DOC.md");
    private static final String[] FORBIDDEN = {
        "throw", "try", "catch", "synchronized", "assert", "import", "package", "->", "::", "Exact", "Object", "hashCode",
        "toString", "static \\{", "Random", "Thread", "File"};
    /** All of the library that the program uses by name; rule 4 allows more, but no field such as Integer.MAX_VALUE. */
    private static final String LIBRARY = "Integer.bitCount\\(|Math.min\\(|System.arraycopy\\(";
    private static final int MOST_LINES = 60;
    private static final int MOST_PARAMETERS = 7;

    private static int wrong = 0;

    public static void main(String[] args) throws Exception {
        String source = withoutComments(Files.readString(MAIN));
        lookForForbidden(source);
        lookAtLibrary(source);
        lookAtLengths(source);
        lookAtFace();
        for (Class<?> inside : WornNames.class.getDeclaredClasses()) lookInside(inside);
        if (WornNames.class.getDeclaredClasses().length > 12) blame("more than twelve classes");
        System.out.println(wrong == 0 ? "the language is kept" : wrong + " rules are broken");
        if (wrong != 0) System.exit(1);
    }

    private static void blame(String what) {
        wrong++;
        System.out.println(what);
    }

    private static String withoutComments(String source) {
        return source.replaceAll("(?s)/\\*.*?\\*/", "").replaceAll("//[^\n]*", "");
    }

    private static void lookForForbidden(String source) {
        for (String word : FORBIDDEN) {
            String whole = word.matches("[a-z]+") ? "\\b" + word + "\\b" : word;
            if (Pattern.compile(whole).matcher(source).find()) blame("forbidden: " + word);
        }
    }

    private static void lookAtLibrary(String source) {
        Matcher m = Pattern.compile("\\b(?:Integer|Long|Math|System|Arrays|Short|Byte|Character|Double|Float|Boolean|java)\\.\\w+\\(?").matcher(source);
        int uses = 0;
        while (m.find()) {
            uses++;
            if (!m.group().matches(LIBRARY)) blame("of the library: " + m.group());
        }
        if (uses == 0) blame("no use of the library was looked at");
    }

    private static void lookAtLengths(String source) {
        Matcher m = Pattern.compile("(?m)^( +)(?:[\\w\\[\\]]+ )*(\\w+)\\([^)]*\\) \\{\n(?s:(.*?))^\\1\\}").matcher(source);
        int methods = 0;
        while (m.find()) {
            methods++;
            if (m.group(3).split("\n").length > MOST_LINES) blame("too long: " + m.group(2));
        }
        if (methods < 40) blame("hardly a method was looked at");
    }

    /** Each line of the document's face as Java tells it. */
    private static void lookAtFace() throws Exception {
        List<String> due = new ArrayList<>();
        String document = Files.readString(DOCUMENT);
        Matcher m = Pattern.compile("(?m)^    public (int|long) (\\w+)\\(([^)]*)\\);").matcher(document);
        while (m.find()) due.add(m.group(1) + " " + m.group(2) + " " + (m.group(3).isEmpty() ? 0 : m.group(3).split(",").length));
        List<String> got = new ArrayList<>();
        TreeSet<String> open = new TreeSet<>();
        for (Method method : WornNames.class.getDeclaredMethods()) {
            if (Modifier.isPublic(method.getModifiers())) {
                got.add(method.getReturnType() + " " + method.getName() + " " + method.getParameterCount());
                open.add(method.getName());
            }
        }
        due.sort(null);
        got.sort(null);
        if (due.size() != 45 || !due.equals(got)) blame("the face is " + got + ", due is " + due);
        for (Method method : WornNames.class.getDeclaredMethods()) {
            lookAtAccess(method);
            if (Modifier.isPrivate(method.getModifiers()) && open.contains(method.getName())) blame("a private " + method.getName());
            if (method.getParameterCount() > MOST_PARAMETERS) blame("too many parameters: " + method.getName());
        }
        for (Field field : WornNames.class.getDeclaredFields()) lookAtAccess(field);
        if (!Modifier.isFinal(WornNames.class.getModifiers())) blame("the class is not final");
    }

    private static void lookAtAccess(Member member) {
        int is = member.getModifiers();
        if (!Modifier.isPrivate(is) && !Modifier.isPublic(is)) blame("seen from outside: " + member.getName());
        if (member instanceof Field && Modifier.isStatic(is) && !Modifier.isFinal(is)) blame("static state: " + member.getName());
    }

    private static void lookInside(Class<?> inside) {
        if (!Modifier.isStatic(inside.getModifiers())) blame("not static: " + inside.getName());
        int fields = 0;
        for (Field field : inside.getDeclaredFields()) {
            boolean constant = Modifier.isStatic(field.getModifiers());
            fields += constant ? 0 : 1;
            if (constant && !Modifier.isFinal(field.getModifiers())) blame("static state: " + field.getName());
        }
        if (fields > 20) blame("too many fields: " + inside.getName());
        for (Method method : inside.getDeclaredMethods()) {
            if (method.getParameterCount() > MOST_PARAMETERS) blame("too many parameters: " + method.getName());
        }
    }
}
