import java.io.IOException;
import java.lang.reflect.Constructor;
import java.lang.reflect.Field;
import java.lang.reflect.Method;
import java.lang.reflect.Modifier;
import java.nio.file.Files;
import java.nio.file.Path;
import java.util.ArrayList;
import java.util.List;
import java.util.Set;
import java.util.TreeSet;
import java.util.regex.Matcher;
import java.util.regex.Pattern;

/** The public face as the document prints it, and the rules of LANGUAGE.md that can be seen from outside. */
public final class FaceTest {
    private static final String FACE = "feed(long,long,long):int town():int gossip():int person(int,int):int! "
        + "secret(int,int):int aware(int,int,int):int ear(int,int):int tell(int,int,int):int pay(int,int):int "
        + "rise(int):int quarter():int lend(int,int,int):int undo():boolean judged(int):int least(int):int "
        + "payers():int plot(int,int,int,int):int! see(int,boolean):boolean leaks(int):int lies(int):int "
        + "mean(int,int):int holds(int,int):int settle():int rests(int,int):int years(int,int,int):int "
        + "mark(int,boolean):boolean count(int):int";
    private static final int MOST_CLASSES = 12;
    private static final int MOST_FIELDS = 20;
    private static final int MOST_PARAMETERS = 7;
    private static final int MOST_LINES = 60;
    private static final Path SOURCE = Path.of("src/main/java/PaidSecrets.java");

    private FaceTest() {
    }

    public static void main(String[] args) throws IOException {
        face();
        nested();
        text(Files.readString(SOURCE));
        Check.end();
    }

    private static String signature(Method m) {
        List<String> types = new ArrayList<>();
        for (Class<?> type : m.getParameterTypes()) {
            types.add(type.getName());
        }
        boolean said = List.of(m.getExceptionTypes()).equals(List.of(java.util.NoSuchElementException.class));
        return m.getName() + "(" + String.join(",", types) + "):" + m.getReturnType().getName() + (said ? "!" : "");
    }

    private static void face() {
        Class<?> c = PaidSecrets.class;
        Check.due("public and final", c.getModifiers(), Modifier.PUBLIC | Modifier.FINAL);
        Set<String> found = new TreeSet<>();
        for (Method m : c.getDeclaredMethods()) {
            if (Modifier.isPublic(m.getModifiers())) {
                found.add(signature(m));
            } else {
                Check.due("private " + m, Modifier.isPrivate(m.getModifiers()), true);
            }
        }
        Set<String> wanted = new TreeSet<>(List.of(FACE.split(" ")));
        Check.due("face is " + found, found.equals(wanted), true);
        Constructor<?>[] constructors = c.getDeclaredConstructors();
        Check.due("constructors", constructors.length, 1);
        Check.due("public constructor", Modifier.isPublic(constructors[0].getModifiers()), true);
        Check.due("without parameters", constructors[0].getParameterCount(), 0);
        for (Field f : c.getDeclaredFields()) {
            Check.due("field " + f, Modifier.isPublic(f.getModifiers()), f.getName().equals("NONE"));
            Check.due("field " + f, Modifier.isPrivate(f.getModifiers()), !f.getName().equals("NONE"));
        }
        Check.due("NONE", PaidSecrets.NONE, -1);
    }

    private static void nested() {
        Set<String> publicNames = new TreeSet<>();
        for (Method m : PaidSecrets.class.getMethods()) {
            if (m.getDeclaringClass() == PaidSecrets.class) {
                publicNames.add(m.getName());
            }
        }
        List<Class<?>> all = new ArrayList<>(List.of(PaidSecrets.class.getDeclaredClasses()));
        for (Class<?> c : all) {
            Check.due("static " + c, Modifier.isStatic(c.getModifiers()), true);
            Check.due("not public " + c, c.getModifiers() & (Modifier.PUBLIC | Modifier.PROTECTED), 0);
            for (Method m : c.getDeclaredMethods()) {
                Check.due("another name than " + m, publicNames.contains(m.getName()), false);
            }
        }
        all.add(PaidSecrets.class);
        Check.due("classes " + all.size(), all.size() <= MOST_CLASSES, true);
        for (Class<?> c : all) {
            int fields = 0;
            for (Field f : c.getDeclaredFields()) {
                boolean isStatic = Modifier.isStatic(f.getModifiers());
                Check.due("static and not final: " + f, isStatic && !Modifier.isFinal(f.getModifiers()), false);
                fields += isStatic ? 0 : 1;
            }
            Check.due("fields of " + c + ": " + fields, fields <= MOST_FIELDS, true);
            for (Method m : c.getDeclaredMethods()) {
                Check.due("parameters of " + m, m.getParameterCount() <= MOST_PARAMETERS, true);
            }
        }
    }

    private static void text(String source) {
        for (int i = 0; i < source.length(); i++) {
            char c = source.charAt(i);
            if (c != 10 && (c < 32 || c > 126)) {
                Check.due("sign at " + i, c, ' ');
            }
        }
        Matcher imports = Pattern.compile("import ([\\w.]+);").matcher(source);
        while (imports.find()) {
            Check.due(imports.group(), List.of("java.util.Arrays", "java.util.NoSuchElementException")
                .contains(imports.group(1)), true);
        }
        String code = source.replaceAll("(?s)/\\*.*?\\*/", "");
        for (String no : new String[] {"->", "::", "\\bfinally\\b", "\\bsynchronized\\b", "\\bassert\\b", "\\bcatch\\b",
            "\\bSystem\\.(?!arraycopy)", "\\bRandom\\b", "\\bpackage\\b", "\\bhashCode\\b", "\\btoString\\b",
            "\\bstatic \\{", "\\bExact\\b", "\\bdouble\\b", "\\bfloat\\b", "getMessage", "while \\(true"}) {
            Check.due("the text has " + no, Pattern.compile(no).matcher(code).find(), false);
        }
        Matcher thrown = Pattern.compile("throw ([^;]*);").matcher(code);
        while (thrown.find()) {
            Check.due(thrown.group(), thrown.group(1).equals("new NoSuchElementException()"), true);
        }
        lengths(code.split("\n"));
    }

    /** A method begins at an indent of 4 or 8 with a bracket and ends at the same indent. */
    private static void lengths(String[] lines) {
        for (int i = 0; i < lines.length; i++) {
            Matcher m = Pattern.compile("^( {4}| {8})(?! |if |for |while |switch )[\\w\\[\\]<> ]+\\([^;]*\\{$").matcher(lines[i]);
            if (m.find()) {
                int end = i;
                while (end < lines.length && !lines[end].equals(m.group(1) + "}")) {
                    end++;
                }
                Check.due("lines from " + (i + 1), end - i + 1 <= MOST_LINES, true);
            }
        }
    }
}
