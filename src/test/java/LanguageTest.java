import java.io.IOException;
import java.lang.reflect.Constructor;
import java.lang.reflect.Field;
import java.lang.reflect.Method;
import java.lang.reflect.Modifier;
import java.nio.file.Files;
import java.nio.file.Path;
import java.util.ArrayList;
import java.util.List;
import java.util.Set;
import java.util.TreeSet;
import java.util.regex.Matcher;
import java.util.regex.Pattern;

/** What a look at the source and at the compiled class can tell of the rules of LANGUAGE.md. */
public final class LanguageTest {
    private static final Path SOURCE = Path.of("src/main/java/GossipTables.java");
    private static final Path DOCUMENT = Path.of("../shared/DOC.md");
    private static final Path README = Path.of("README.md");
    /** Of the library that rule 4 lists what the class uses, and the exceptions of rule 6. */
    private static final Set<String> LIBRARY = Set.of("Object.Object()",
        "System.arraycopy(java.lang.Object,int,java.lang.Object,int,int)", "Math.max(int,int)", "Math.min(int,int)",
        "Integer.bitCount(int)", "Long.bitCount(long)", "IllegalStateException.IllegalStateException(java.lang.String)",
        "IllegalArgumentException.IllegalArgumentException(java.lang.String)",
        "IndexOutOfBoundsException.IndexOutOfBoundsException(java.lang.String)",
        "NoSuchElementException.NoSuchElementException(java.lang.String)");

    public static void main(String[] args) throws IOException {
        String source = withoutComments(Files.readString(SOURCE));
        face();
        namesOfPrivateMethods();
        classesInside();
        forbiddenWords(source);
        lengthOfMethods(source);
        exceptions(source);
        calls(CallTree.of(SOURCE));
        readme(Files.readString(README));
        Check.end();
    }

    private static String withoutComments(String text) {
        return text.replaceAll("(?s)/\\*.*?\\*/", "").replaceAll("//[^\n]*", "");
    }

    /** The document's face, its lines told as reflection tells members. */
    private static void face() throws IOException {
        Set<String> due = new TreeSet<>();
        Matcher line = Pattern.compile("    public (?:(?:static final int NONE)|(?:(\\w+) )?(\\w+)\\((.*?)\\))(.*);")
            .matcher(Files.readString(DOCUMENT));
        while (line.find()) {
            if (line.group(2) != null) {
                String types = line.group(3).replaceAll(" \\w+(,|$)", "$1").replace(" ", "");
                String thrown = line.group(4).replace("throws", "").replace(" ", "");
                due.add((line.group(1) == null ? "" : line.group(1)) + " " + line.group(2) + "(" + types + ")" + thrown);
            }
        }
        Set<String> got = new TreeSet<>();
        for (Method m : GossipTables.class.getDeclaredMethods()) {
            if (!Modifier.isPrivate(m.getModifiers()) && !m.isSynthetic()) {
                Check.that("rule 1: " + m.getName() + " is public", Modifier.isPublic(m.getModifiers()));
                got.add(m.getReturnType().getSimpleName() + " " + m.getName() + names(m.getParameterTypes(), "(", ")")
                    + names(m.getExceptionTypes(), "", ""));
            }
        }
        for (Constructor<?> c : GossipTables.class.getConstructors()) {
            got.add(" GossipTables" + names(c.getParameterTypes(), "(", ")"));
        }
        Check.due("rule 1: the face has 47 calls", 47, due::size);
        Check.due("rule 1: the face", due.toString(), got::toString);
        for (Field f : GossipTables.class.getDeclaredFields()) {
            Check.that("rule 1: field " + f.getName(),
                f.getName().equals("NONE") || Modifier.isPrivate(f.getModifiers()));
        }
        Check.that("rule 1: final", Modifier.isFinal(GossipTables.class.getModifiers()));
    }

    private static String names(Class<?>[] types, String start, String end) {
        List<String> names = new ArrayList<>();
        for (Class<?> type : types) {
            names.add(type.getSimpleName());
        }
        return start + String.join(",", names) + end;
    }

    private static void namesOfPrivateMethods() {
        Set<String> open = new TreeSet<>();
        for (Method m : GossipTables.class.getMethods()) {
            open.add(m.getName());
        }
        List<Class<?>> classes = new ArrayList<>(List.of(GossipTables.class.getDeclaredClasses()));
        classes.add(GossipTables.class);
        for (Class<?> one : classes) {
            for (Method m : one.getDeclaredMethods()) {
                if (Modifier.isPrivate(m.getModifiers())) {
                    Check.that("rule 1: private " + m.getName() + " in " + one.getSimpleName(),
                        !open.contains(m.getName()));
                }
                Check.that("rule 11: parameters of " + m.getName(), m.getParameterCount() <= 7);
            }
        }
    }

    private static void classesInside() {
        Class<?>[] inside = GossipTables.class.getDeclaredClasses();
        Check.that("rule 11: some twelve classes", inside.length + 1 <= 12);
        for (Class<?> one : inside) {
            Check.that("rule 1: " + one.getSimpleName() + " is static and not public",
                Modifier.isStatic(one.getModifiers()) && !Modifier.isPublic(one.getModifiers()));
            int fields = 0;
            for (Field f : one.getDeclaredFields()) {
                boolean constant = Modifier.isStatic(f.getModifiers());
                Check.that("rule 5: static fields are final: " + f.getName(),
                    !constant || Modifier.isFinal(f.getModifiers()));
                fields += constant ? 0 : 1;
            }
            Check.that("rule 11: fields of " + one.getSimpleName(), fields <= 20);
        }
    }

    private static void forbiddenWords(String source) {
        for (String word : new String[] {"->", "::", "\\bcatch\\b", "\\bfinally\\b", "\\btry\\b", "\\bsynchronized\\b",
            "\\bassert\\b", "\\bpackage\\b", "\\bprotected\\b", "static \\{", "\\bSystem\\.(?!arraycopy)", "\\bRandom\\b",
            "\\bdouble\\b", "\\bfloat\\b", "Exact\\(", "\\bequals\\(", "\\bhashCode\\(", "\\btoString\\(",
            "[^\\x00-\\x7f]"}) {
            Check.that("no " + word, !Pattern.compile(word).matcher(source).find());
        }
        Matcher imports = Pattern.compile("import ([\\w.]+);").matcher(source);
        while (imports.find()) {
            Check.due("rule 4: import", "java.util.NoSuchElementException", () -> imports.group(1));
        }
    }

    private static void lengthOfMethods(String source) {
        Matcher method = Pattern.compile("(?m)^( {4}| {8})(?=\\S)[^=;\\n]*\\) ?(?:throws [^{\\n]*)?\\{$").matcher(source);
        while (method.find()) {
            int end = source.indexOf("\n" + method.group(1) + "}", method.end());
            long lines = source.substring(method.start(), end).lines().count();
            Check.that("rule 11: lines of " + method.group().trim() + ": " + lines, lines <= 60);
        }
    }

    private static void exceptions(String source) {
        Matcher thrown = Pattern.compile("throw ([^;]*);").matcher(source);
        while (thrown.find()) {
            Check.that("rule 6: " + thrown.group(),
                thrown.group(1).matches("new (IllegalState|IllegalArgument|IndexOutOfBounds|NoSuchElement)"
                    + "Exception\\(\"[^\"]*\"\\)"));
        }
    }

    private static void calls(CallTree tree) {
        Check.that("the calls of the whole class are found", tree.methods().size() > 47);
        for (String method : tree.methods()) {
            List<String> row = tree.longestFrom(method);
            Check.that("rule 11: calls at most eight deep: " + row, row.size() <= 8);
            if (tree.callsItself(method)) {
                Check.that("rule 8: " + method + " calls itself", tree.isPrivateStatic(method));
            }
        }
        for (String called : tree.library()) {
            Check.that("rule 4: " + called, LIBRARY.contains(called));
        }
    }

    private static void readme(String text) {
        String use = text.substring(text.indexOf("## Use"), text.indexOf("## Tests"));
        for (Method m : GossipTables.class.getDeclaredMethods()) {
            if (Modifier.isPublic(m.getModifiers())) {
                Check.that("README.md says what " + m.getName() + " is for", use.contains("`" + m.getName() + "`"));
            }
        }
    }
}
