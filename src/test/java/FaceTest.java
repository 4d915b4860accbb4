import java.lang.reflect.Member;
import java.lang.reflect.Method;
import java.lang.reflect.Modifier;
import java.nio.file.Files;
import java.nio.file.Path;
import java.util.ArrayList;
import java.util.List;
import java.util.Set;
import java.util.TreeSet;
import java.util.regex.Matcher;
import java.util.regex.Pattern;
import java.util.stream.Collectors;
import java.util.stream.Stream;

/** The public face as the document prints it, and those rules of LANGUAGE.md that a text search can see. */
public final class FaceTest {
    private static int wrong = 0;

    public static void main(String[] args) throws Exception {
        Path shared = Path.of(System.getProperty("shared", "../shared"));
        Path main = Path.of(System.getProperty("main", "src/main/java/Signproduct.java"));
        face(Files.readString(shared.resolve("DOC.md")));
        members();
        source(Files.readString(main));
        System.out.println(wrong == 0 ? "face: all is as due" : "face: " + wrong + " things are not as due");
        if (wrong != 0) {
            System.exit(1);
        }
    }

    private static void fail(String what) {
        wrong++;
        System.out.println("face: " + what);
    }

    private static void face(String document) {
        Set<String> due = new TreeSet<>();
        Matcher line = Pattern.compile("(?m)^    public (\\w+) (\\w+)\\((.*?)\\)(?: throws (.*))?;$").matcher(document);
        while (line.find()) {
            String types = line.group(3).replaceAll("(\\w+) \\w+", "$1");
            due.add(line.group(1) + " " + line.group(2) + "(" + types + ") " + (line.group(4) == null ? "" : line.group(4)));
        }
        Set<String> got = Stream.of(Signproduct.class.getDeclaredMethods())
                .filter(m -> Modifier.isPublic(m.getModifiers())).map(FaceTest::told)
                .collect(Collectors.toCollection(TreeSet::new));
        if (due.size() != 55 || !due.equals(got)) {
            fail("the document has " + due + ", the class " + got);
        }
    }

    private static String told(Method method) {
        return method.getReturnType().getSimpleName() + " " + method.getName() + "(" + names(method.getParameterTypes())
                + ") " + names(method.getExceptionTypes());
    }

    private static String names(Class<?>[] types) {
        return Stream.of(types).map(Class::getSimpleName).collect(Collectors.joining(", "));
    }

    private static void members() {
        Class<?> it = Signproduct.class;
        if (it.getModifiers() != (Modifier.PUBLIC | Modifier.FINAL) || it.getDeclaredConstructors().length != 1
                || !Modifier.isPublic(it.getDeclaredConstructors()[0].getModifiers())) {
            fail("the class is not public and final with one public constructor");
        }
        Set<String> publicNames = Stream.of(it.getDeclaredMethods())
                .filter(m -> Modifier.isPublic(m.getModifiers())).map(Method::getName).collect(Collectors.toSet());
        List<Member> members = new ArrayList<>(List.of(it.getDeclaredMethods()));
        members.addAll(List.of(it.getDeclaredFields()));
        for (Member member : members) {
            boolean isFace = member instanceof Method && Modifier.isPublic(member.getModifiers());
            if (!isFace && !Modifier.isPrivate(member.getModifiers())) {
                fail(member.getName() + " is neither of the face nor private");
            }
            if (!isFace && member instanceof Method && publicNames.contains(member.getName())) {
                fail("a private method bears the name of a public one: " + member.getName());
            }
        }
        for (Class<?> inside : it.getDeclaredClasses()) {
            if (!Modifier.isStatic(inside.getModifiers()) || Modifier.isPublic(inside.getModifiers())) {
                fail(inside.getName() + " is not static and hidden");
            }
            for (Method method : inside.getDeclaredMethods()) {
                if (publicNames.contains(method.getName())) {
                    fail("a method inside bears the name of a public one: " + method.getName());
                }
            }
        }
    }

    private static void source(String text) {
        String code = text.replaceAll("(?s)/\\*.*?\\*/|//[^\\n]*", " ").replaceAll("\"[^\"\\n]*\"", "\"\"")
                .replaceAll("'(\\\\.|[^'\\\\])'", "' '");
        String[] banned = {"->", "::", "\\bimport\\b", "\\bpackage\\b", "\\bsynchronized\\b", "\\bassert\\b",
            "\\bfinally\\b", "\\btry\\b", "\\bcatch\\b", "\\bstatic\\s*\\{", "\\bMAX_VALUE\\b", "\\bMIN_VALUE\\b",
            "Exact\\b", "\\bvar\\b", "\"\"\\s*\\+", "\\+\\s*\"\"", "String\\.format", "\\bSystem\\.(?!arraycopy)"};
        for (String pattern : banned) {
            if (Pattern.compile(pattern).matcher(code).find()) {
                fail("the source has " + pattern);
            }
        }
        Matcher thrown = Pattern.compile("throw\\s+new\\s+(\\w+)").matcher(code);
        while (thrown.find()) {
            if (!thrown.group(1).matches("IllegalStateException|IllegalArgumentException|IndexOutOfBoundsException")) {
                fail("the source throws " + thrown.group(1));
            }
        }
        if (Pattern.compile("(?m)^\\s*(private )?static (?!final|class|abstract)[\\w\\[\\]]+ \\w+\\s*[=;]").matcher(code).find()) {
            fail("the source has a static field that is not final");
        }
        if (!text.chars().allMatch(c -> c == '\n' || c >= ' ' && c <= '~')) {
            fail("the source has signs beyond ASCII, or tabs");
        }
    }
}
