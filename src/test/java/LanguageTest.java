import java.io.IOException;
import java.lang.reflect.Constructor;
import java.lang.reflect.Field;
import java.lang.reflect.Method;
import java.lang.reflect.Modifier;
import java.nio.file.Files;
import java.nio.file.Path;
import java.util.Arrays;
import java.util.HashSet;
import java.util.Set;
import java.util.TreeSet;
import java.util.regex.Matcher;
import java.util.regex.Pattern;

/** The face of the class, and those rules of LANGUAGE.md that can be seen from outside or in the words. */
public final class LanguageTest {
    private static final Check CHECK = new Check();
    private static final Path SOURCE = Path.of("src", "main", "java", "EveningPoach.java");
    private static final String[] FACE = {
        "int feed(int)", "int end(int)", "int text()", "int fault()", "int rule(int)", "int gate(int,int)",
        "int taker(int,int)", "int keeper(int,int)", "int alter(int,int,int)", "int order(int,int,int)",
        "int tend(int,int,int)", "int free(int)", "int hire(int,int,int)", "int dismiss(int)", "int nights(int)",
        "int runs(int,int)", "int ahead(int,int,int)", "int glow(int,int)", "int caught(int)", "int best(int,int,int)",
        "int ripen(int,int,int)", "int swap(int,int)", "int round(int,int,int)", "int post(int,int,int)",
        "int kind(int,int,int)", "int sharp(int,int,int)", "long luck(int,int,int,int)", "long mean(int,int,int)",
        "int see(int,int,int)", "int forget(int)", "int kinds(int)", "int gates(int)", "int ask(int,int)",
        "int drift(int,int,int)", "int keep(int)", "int back(int)", "int sheet(int,int,int)", "int lay(int,int,int)",
        "int read(int,int,int,int)", "int torn()", "int count(int)"};

    public static void main(String[] args) throws IOException {
        face();
        classesInside();
        String code = withoutCommentsAndTexts(Files.readString(SOURCE));
        words(code);
        lengths(code);
        CHECK.finish("LanguageTest");
    }

    private static void face() {
        Class<EveningPoach> c = EveningPoach.class;
        CHECK.due("public and final", c.getModifiers(), Modifier.PUBLIC | Modifier.FINAL);
        CHECK.due("BAD", EveningPoach.BAD, -1);
        CHECK.due("STATE", EveningPoach.STATE, -2);
        CHECK.due("FULL", EveningPoach.FULL, -3);
        CHECK.due("NONE", EveningPoach.NONE, -4);
        Set<String> told = new TreeSet<>(Arrays.asList(FACE));
        Set<String> found = new TreeSet<>();
        Set<String> open = new HashSet<>();
        for (Method m : c.getDeclaredMethods()) {
            if (!Modifier.isPrivate(m.getModifiers())) {
                found.add(written(m));
                open.add(m.getName());
                CHECK.due(m + " is public alone", m.getModifiers(), Modifier.PUBLIC);
            }
        }
        CHECK.holds("the methods of the document: " + found, found.equals(told));
        for (Method m : c.getDeclaredMethods()) {
            CHECK.holds(m + " bears a public name", !Modifier.isPrivate(m.getModifiers()) || !open.contains(m.getName()));
        }
        Constructor<?>[] constructors = c.getDeclaredConstructors();
        CHECK.due("one constructor", constructors.length, 1);
        CHECK.due("of nothing", constructors[0].getParameterCount(), 0);
        int constants = 0;
        for (Field f : c.getDeclaredFields()) {
            boolean isPublic = Modifier.isPublic(f.getModifiers());
            constants += isPublic ? 1 : 0;
            CHECK.holds(f + " is private or public", isPublic || Modifier.isPrivate(f.getModifiers()));
        }
        CHECK.due("public constants", constants, 4);
    }

    private static String written(Method m) {
        StringBuilder s = new StringBuilder(m.getReturnType() + " " + m.getName() + "(");
        for (Class<?> p : m.getParameterTypes()) {
            s.append(s.charAt(s.length() - 1) == '(' ? "" : ",").append(p);
        }
        return s.append(')').toString();
    }

    private static void classesInside() {
        Class<?>[] inside = EveningPoach.class.getDeclaredClasses();
        CHECK.holds("at most twelve classes", inside.length + 1 <= 12);
        fields(EveningPoach.class);
        for (Class<?> c : inside) {
            CHECK.holds(c + " is static", Modifier.isStatic(c.getModifiers()));
            CHECK.holds(c + " is not open", !Modifier.isPublic(c.getModifiers()) && !Modifier.isProtected(c.getModifiers()));
            fields(c);
        }
    }

    private static void fields(Class<?> c) {
        int own = 0;
        for (Field f : c.getDeclaredFields()) {
            boolean isStatic = Modifier.isStatic(f.getModifiers());
            own += isStatic ? 0 : 1;
            CHECK.holds(f + " is static but not final", !isStatic || Modifier.isFinal(f.getModifiers()));
        }
        CHECK.holds(c + " has at most twenty fields", own <= 20);
        for (Method m : c.getDeclaredMethods()) {
            CHECK.holds(m + " takes at most seven", m.getParameterCount() <= 7);
        }
    }

    private static String withoutCommentsAndTexts(String source) {
        String bare = source.replaceAll("(?s)/\\*.*?\\*/", "").replaceAll("//[^\n]*", "");
        return bare.replaceAll("\"[^\"\n]*\"", "\"\"").replaceAll("'[^'\n]+'", "' '");
    }

    private static void words(String code) {
        String[] never = {
            "throw", "throws", "try", "catch", "finally", "synchronized", "assert", "import", "package", "double", "float",
            "Object", "volatile", "transient", "native", "protected", "hashCode", "Thread", "var", "Exact"};
        for (String word : never) {
            CHECK.holds("'" + word + "' stands in the code", !Pattern.compile("\\b" + word + "\\b").matcher(code).find());
        }
        for (String sign : new String[] {"->", "::", "@", "static {", "while (true)", "for (;;)"}) {
            CHECK.holds("'" + sign + "' stands in the code", !code.contains(sign));
        }
        Matcher library = Pattern.compile("\\b(System|Math|Integer|Long|Arrays)\\.(\\w+)").matcher(code);
        Set<String> allowed = Set.of("System.arraycopy", "Math.min", "Math.max", "Integer.bitCount");
        while (library.find()) {
            CHECK.holds(library.group() + " is not of the library", allowed.contains(library.group()));
        }
        // No constructor has parameters, so that none can be handed a part of an object that is not made yet.
        CHECK.holds("a constructor is handed something", !Pattern.compile("\\bnew \\w+\\((?!\\))").matcher(code).find());
        CHECK.holds("signs are 1 to 127", code.chars().allMatch(c -> c < 128));
    }

    /** A method begins at a line that opens it and ends at the brace of the same depth. */
    private static void lengths(String code) {
        String[] lines = code.split("\n");
        Pattern opens = Pattern.compile("^( {4}| {8})(?!(?:private |static |final )*class)[A-Za-z].*\\) \\{$");
        int methods = 0;
        for (int i = 0; i < lines.length; i++) {
            Matcher m = opens.matcher(lines[i]);
            if (!m.matches() || lines[i].trim().matches("(if|for|while|switch) .*")) {
                continue;
            }
            int last = i;
            while (last < lines.length && !lines[last].equals(m.group(1) + "}")) {
                last++;
            }
            methods++;
            CHECK.holds("sixty lines at most: " + lines[i].trim(), last - i + 1 <= 60);
        }
        CHECK.holds("the methods are found", methods >= FACE.length);
    }
}
