import java.io.IOException;
import java.lang.reflect.Constructor;
import java.lang.reflect.Field;
import java.lang.reflect.Method;
import java.lang.reflect.Modifier;
import java.nio.file.Files;
import java.nio.file.Paths;
import java.util.Arrays;
import java.util.List;
import java.util.Set;
import java.util.TreeSet;
import java.util.regex.Matcher;
import java.util.regex.Pattern;

/** The public face, and those rules of LANGUAGE.md that can be seen in the text of the class. */
public final class LanguageTest {
    private static final Tally TALLY = new Tally("LanguageTest");
    private static final String FACE = "int feed(int,int,int,int,int)|boolean end(int)|int fault()|int matter()"
        + "|int heir(int,int)|int alt(int,int,int)|int come(int)|boolean give(int)|int reached(int)"
        + "|int sure(int,boolean)|int best(int,boolean)|int proof(int,int)|int known(int,int)|int cost(int)"
        + "|int fare(int,int,boolean)|int mended(int,int)|int paper(int,int)|int judge(int,int)"
        + "|int judged(int,int,int)|boolean image(int)|boolean on(int)|int count(int)";

    public static void main(String[] args) throws IOException {
        face();
        nested();
        words(new String(Files.readAllBytes(Paths.get("src/main/java/SharesComing.java")), "US-ASCII"));
        TALLY.finish();
    }

    private static void face() {
        Class<?> c = SharesComing.class;
        TALLY.due("public final", c.getModifiers(), Modifier.PUBLIC | Modifier.FINAL);
        Set<String> publics = new TreeSet<>();
        Set<String> names = new TreeSet<>();
        for (Method m : c.getDeclaredMethods()) {
            if (Modifier.isPublic(m.getModifiers())) {
                publics.add(told(m));
                names.add(m.getName());
            }
        }
        for (Method m : c.getDeclaredMethods()) {
            if (!Modifier.isPublic(m.getModifiers())) {
                TALLY.due(m.getName() + " is private", Modifier.isPrivate(m.getModifiers()), true);
                TALLY.due(m.getName() + " bears a public name", names.contains(m.getName()), false);
            }
        }
        Set<String> due = new TreeSet<>(Arrays.asList(FACE.split("\\|")));
        TALLY.due("the methods " + publics, publics.equals(due), true);
        for (Field f : c.getDeclaredFields()) {
            boolean constant = f.getName().equals("NONE") || f.getName().equals("VOID");
            TALLY.due(f.getName() + " is seen", Modifier.isPublic(f.getModifiers()), constant);
            TALLY.due(f.getName() + " is hidden", Modifier.isPrivate(f.getModifiers()), !constant);
        }
        Constructor<?>[] made = c.getDeclaredConstructors();
        TALLY.due("constructors", made.length, 1);
        TALLY.due("without arguments", made[0].getParameterCount(), 0);
    }

    private static String told(Method m) {
        StringBuilder s = new StringBuilder(m.getReturnType().getName()).append(' ').append(m.getName()).append('(');
        for (Class<?> p : m.getParameterTypes()) {
            s.append(s.charAt(s.length() - 1) == '(' ? "" : ",").append(p.getName());
        }
        return s.append(')').toString();
    }

    private static void nested() {
        Class<?>[] inside = SharesComing.class.getDeclaredClasses();
        TALLY.due("at most twelve classes", inside.length <= 12, true);
        for (Class<?> c : inside) {
            TALLY.due(c.getName() + " is static", Modifier.isStatic(c.getModifiers()), true);
            int fields = 0;
            for (Field f : c.getDeclaredFields()) {
                boolean isStatic = Modifier.isStatic(f.getModifiers());
                TALLY.due(c.getName() + "." + f.getName(), isStatic && !Modifier.isFinal(f.getModifiers()), false);
                fields += isStatic ? 0 : 1;
            }
            TALLY.due(c.getName() + " has at most twenty fields", fields <= 20, true);
            for (Method m : c.getDeclaredMethods()) {
                TALLY.due(m.getName() + " has at most seven parameters", m.getParameterCount() <= 7, true);
            }
        }
    }

    private static void words(String source) {
        String code = source.replaceAll("(?s)/\\*.*?\\*/", "").replaceAll("//[^\n]*", "");
        List<String> barred = Arrays.asList("throw", "throws", "try", "catch", "finally", "synchronized", "assert",
            "protected", "package", "System", "Exception", "Object", "hashCode", "toString", "var", "native", "volatile",
            "Thread", "Random", "double", "float");
        Matcher m = Pattern.compile("[A-Za-z_]\\w*").matcher(code);
        while (m.find()) {
            TALLY.due(m.group() + " at " + m.start(), barred.contains(m.group()), false);
        }
        TALLY.due("lambda or method reference", code.contains("->") || code.contains("::"), false);
        TALLY.due("names that end in Exact", code.contains("Exact("), false);
        Matcher imports = Pattern.compile("import ([^;]*);").matcher(code);
        while (imports.find()) {
            TALLY.due("import " + imports.group(1), imports.group(1).equals("java.util.Arrays"), true);
        }
        TALLY.due("signs 1 to 127", source.chars().allMatch(sign -> sign > 0 && sign < 128), true);
    }
}
