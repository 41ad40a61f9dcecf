import java.lang.reflect.Constructor;
import java.lang.reflect.Field;
import java.lang.reflect.Member;
import java.lang.reflect.Method;
import java.lang.reflect.Modifier;
import java.nio.file.Files;
import java.nio.file.Path;
import java.util.ArrayList;
import java.util.List;
import java.util.Set;
import java.util.TreeSet;
import java.util.regex.Matcher;
import java.util.regex.Pattern;

/** The document's face, and the rules of LANGUAGE.md that can be looked at from outside. */
public final class LanguageTest {
    private static final Path MAIN = Path.of("src/main/java/WornNames.java");
    private static final Path DOCUMENT = Path.of("../shared/DOC.md");
    private static final int MOST_CLASSES = 12, MOST_FIELDS = 20, MOST_DEEP = 8;

    private static int wrong = 0;

    /** Another file than the program's may be told, to see what the test finds in it. */
    public static void main(String[] args) throws Exception {
        lookAtSyntax(Syntax.of(args.length == 0 ? MAIN : Path.of(args[0])));
        lookAtFace();
        lookAtConstants();
        System.out.println(wrong == 0 ? "the language is kept" : wrong + " rules are broken");
        if (wrong != 0) System.exit(1);
    }

    private static void blame(String what) {
        wrong++;
        System.out.println(what);
    }

    private static void lookAtSyntax(Syntax syntax) {
        if (syntax.methods < 100 || syntax.loops < 40) blame("hardly a method, a loop was looked at");
        if (syntax.fields.size() > MOST_CLASSES) blame("rule 11: classes " + syntax.fields.keySet());
        syntax.fields.forEach((name, n) -> {
            if (n > MOST_FIELDS) blame("rule 11: fields of " + name + ": " + n);
        });
        int deepest = 0;
        for (String method : syntax.calls.keySet()) {
            int deep = syntax.depth(method, Set.of());
            deepest = Math.max(deepest, deep);
            if (deep > MOST_DEEP) blame("rule 11: calls from " + method + " go " + deep + " deep");
        }
        if (deepest < 5) blame("hardly a call was looked at");
        Set<String> due = Set.of("Search.seekOrder(WornNames.Row,int,int,int)", "Search.seekCallers(WornNames.Row,int,int)",
            "Search.seekCalled(int,WornNames.Row,int)");
        if (!due.equals(syntax.recursive())) blame("rule 8: recursion in " + syntax.recursive());
        new TreeSet<>(syntax.faults).forEach(LanguageTest::blame);
        System.out.println("calls go " + deepest + " deep");
    }

    /** Each line of the document's face as Java tells it. */
    private static void lookAtFace() throws Exception {
        List<String> due = new ArrayList<>();
        Matcher m = Pattern.compile("(?m)^    public (int|long) (\\w+)\\(([^)]*)\\);").matcher(Files.readString(DOCUMENT));
        while (m.find()) due.add(m.group(1) + " " + m.group(2) + "(" + m.group(3).replaceAll(" \\w+(?=,|$)", "") + ")");
        List<String> got = new ArrayList<>();
        TreeSet<String> open = new TreeSet<>();
        for (Method method : WornNames.class.getDeclaredMethods()) {
            if (Modifier.isPublic(method.getModifiers())) {
                List<String> takes = new ArrayList<>();
                for (Class<?> type : method.getParameterTypes()) takes.add(type.getName());
                got.add(method.getReturnType() + " " + method.getName() + "(" + String.join(", ", takes) + ")");
                open.add(method.getName());
            }
        }
        due.sort(null);
        got.sort(null);
        if (due.size() != 45 || !due.equals(got)) blame("the face is " + got + ", due is " + due);
        for (Method method : WornNames.class.getDeclaredMethods()) {
            lookAtAccess(method);
            if (Modifier.isPrivate(method.getModifiers()) && open.contains(method.getName())) blame("rule 1: a private " + method.getName());
        }
        for (Field field : WornNames.class.getDeclaredFields()) lookAtAccess(field);
        Constructor<?>[] made = WornNames.class.getDeclaredConstructors();
        if (made.length != 1 || !Modifier.isPublic(made[0].getModifiers()) || made[0].getParameterCount() != 0) blame("rule 1: the constructor");
        int is = WornNames.class.getModifiers();
        if (!Modifier.isFinal(is) || !Modifier.isPublic(is)) blame("rule 1: the class is not public and final");
    }

    private static void lookAtAccess(Member member) {
        int is = member.getModifiers();
        if (!Modifier.isPrivate(is) && !Modifier.isPublic(is)) blame("rule 1: seen from outside: " + member.getName());
    }

    /** The document's constants, with their numbers, are all the fields that can be seen. */
    private static void lookAtConstants() throws Exception {
        Matcher line = Pattern.compile("public static final int ([^;]*);").matcher(Files.readString(DOCUMENT));
        TreeSet<String> due = new TreeSet<>();
        if (line.find()) due.addAll(List.of(line.group(1).split(", ")));
        TreeSet<String> got = new TreeSet<>();
        for (Field field : WornNames.class.getFields()) got.add(field.getName() + " = " + field.getInt(null));
        if (due.size() != 6 || !due.equals(got)) blame("the constants are " + got + ", due are " + due);
    }
}
