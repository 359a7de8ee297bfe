import java.lang.reflect.Constructor;
import java.lang.reflect.Field;
import java.lang.reflect.Method;
import java.lang.reflect.Modifier;
import java.nio.file.Files;
import java.nio.file.Path;
import java.util.Set;
import java.util.TreeSet;
import java.util.regex.Matcher;
import java.util.regex.Pattern;

/** The rules of LANGUAGE.md that can be seen from the class and from its source. */
public final class LanguageTest {
    private static final String FACE = "write(int) wipe() fault() lay() word(int,int) reader(int,int) notice(int,int)"
        + " put(int) take(int) takeFor(int,int) undo() reads(int,int) answers(int) price(int) cheapest(int,int)"
        + " twofold() matched(int) near(int) column(int,int) tell(int,int,int) forget() taken(int) speaks()"
        + " odds(int,int,int) run(int,int,int) wanted() moods(int) month(int,int,int) keep() back() count(int)";

    private static int wrong = 0;

    private static void hold(boolean so, String rule) {
        if (!so) {
            wrong++;
            System.out.println("not so: " + rule);
        }
    }

    private static String signature(Method m) {
        StringBuilder s = new StringBuilder(m.getName()).append('(');
        for (Class<?> type : m.getParameterTypes()) {
            s.append(s.charAt(s.length() - 1) == '(' ? "" : ",").append(type.getName());
        }
        return s.append(')').toString();
    }

    private static void face() {
        Class<?> c = BackColumns.class;
        hold(Modifier.isPublic(c.getModifiers()) && Modifier.isFinal(c.getModifiers()), "1: public and final");
        hold(c.getSuperclass() == Object.class && c.getInterfaces().length == 0, "1: stands by itself");
        Set<String> seen = new TreeSet<>();
        Set<String> names = new TreeSet<>();
        for (Method m : c.getDeclaredMethods()) {
            if (Modifier.isPublic(m.getModifiers())) {
                seen.add(signature(m));
                names.add(m.getName());
                hold(m.getReturnType() == int.class && !Modifier.isStatic(m.getModifiers()), "1: int " + m.getName());
            } else {
                hold(Modifier.isPrivate(m.getModifiers()), "1: private " + m.getName());
            }
        }
        hold(seen.equals(new TreeSet<>(Set.of(FACE.split(" ")))), "1: the methods are those of the document: " + seen);
        privateNames(c, names);
        for (Constructor<?> k : c.getDeclaredConstructors()) {
            hold(Modifier.isPublic(k.getModifiers()) && k.getParameterCount() == 0, "1: one public constructor");
        }
        Set<String> constants = new TreeSet<>();
        for (Field f : c.getDeclaredFields()) {
            if (Modifier.isPublic(f.getModifiers())) {
                constants.add(f.getName());
                hold(f.getType() == int.class, "1: int " + f.getName());
            } else {
                hold(Modifier.isPrivate(f.getModifiers()), "1: private " + f.getName());
            }
        }
        hold(constants.equals(new TreeSet<>(Set.of("BAD", "NO", "FULL", "NONE"))), "1: constants " + constants);
    }

    private static void privateNames(Class<?> c, Set<String> names) {
        for (Method m : c.getDeclaredMethods()) {
            if (!Modifier.isPublic(m.getModifiers())) {
                hold(!names.contains(m.getName()), "1: a private method bears a public one's name: " + m);
            }
            hold(m.getParameterCount() <= 7, "11: seven parameters at most: " + m);
        }
        int fields = 0;
        for (Field f : c.getDeclaredFields()) {
            boolean isStatic = Modifier.isStatic(f.getModifiers());
            fields += isStatic ? 0 : 1;
            hold(!isStatic || Modifier.isFinal(f.getModifiers()), "5: static fields are final: " + f);
        }
        hold(fields <= 20, "11: some twenty fields at most: " + c);
        hold(c.getDeclaredClasses().length <= 11, "11: some twelve classes at most");
        for (Class<?> inside : c.getDeclaredClasses()) {
            hold(Modifier.isStatic(inside.getModifiers()), "2: static " + inside);
            hold(!Modifier.isPublic(inside.getModifiers()), "1: not public " + inside);
            privateNames(inside, names);
        }
    }

    private static void source(String whole) {
        hold(whole.chars().allMatch(sign -> sign == '\n' || sign >= 32 && sign < 127), "4: signs");
        String code = whole.replaceAll("(?s)/\\*.*?\\*/", "").replaceAll("//[^\n]*", "")
            .replaceAll("\"[^\"\n]*\"", "\"\"").replaceAll("'[^'\n]'", "' '");
        for (String word : new String[] {"throw", "throws", "try", "catch", "finally", "synchronized", "assert",
            "package", "import", "native", "volatile", "transient", "protected", "equals", "hashCode", "toString",
            "goto", "yield", "var", "double", "float", "Thread", "Random", "currentTimeMillis", "nanoTime", "getenv",
            "Object", "strictfp"}) {
            hold(!Pattern.compile("\\b" + word + "\\b").matcher(code).find(), "no " + word);
        }
        hold(!code.contains("->") && !code.contains("::"), "2: no lambda, no method reference");
        hold(!code.contains("@"), "no annotation");
        hold(!Pattern.compile("static\\s*\\{").matcher(code).find(), "5: no static initialiser");
        hold(!Pattern.compile("\\bwhile\\b|for \\(;|;;").matcher(code).find(), "9: loops count");
        hold(!Pattern.compile("\"\" *\\+|\\+ *\"\"").matcher(code).find(), "10: texts are not joined by +");
        Matcher library = Pattern.compile("\\b(System|Math|Integer|Arrays)\\.(\\w+)").matcher(code);
        while (library.find()) {
            hold(Set.of("System.arraycopy", "Math.max", "Math.min", "Integer.bitCount")
                .contains(library.group()), "4: the library: " + library.group());
        }
        shortMethods(code.split("\n"));
    }

    private static void shortMethods(String[] lines) {
        Pattern head = Pattern.compile("^( {4}| {8})(?! )[\\w \\[\\]]+\\([^;]*\\) \\{$");
        for (int from = 0; from < lines.length; from++) {
            Matcher m = head.matcher(lines[from]);
            if (m.find()) {
                int to = from;
                while (to < lines.length && !lines[to].equals(m.group(1) + "}")) {
                    to++;
                }
                hold(to - from < 60, "11: a short method: " + lines[from].trim());
            }
        }
    }

    public static void main(String[] args) throws Exception {
        face();
        source(Files.readString(Path.of(System.getProperty("main.source", "src/main/java/BackColumns.java"))));
        System.out.println(wrong == 0 ? "the rules that can be seen are kept" : wrong + " rules are not kept");
        if (wrong != 0) {
            System.exit(1);
        }
    }
}
