import java.io.IOException;
import java.lang.reflect.Constructor;
import java.lang.reflect.Field;
import java.lang.reflect.Member;
import java.lang.reflect.Method;
import java.lang.reflect.Modifier;
import java.nio.charset.StandardCharsets;
import java.nio.file.Files;
import java.nio.file.Path;
import java.util.ArrayList;
import java.util.Arrays;
import java.util.List;
import java.util.Set;
import java.util.TreeSet;
import java.util.regex.Matcher;
import java.util.regex.Pattern;

/** The face as the document has it, and the rules of LANGUAGE.md that a look at the class and its file can tell. */
public final class FaceTest {
    private static final String[] METHODS = {
        "int feed(int,int,int,int,int)", "boolean end(int)", "int fault(int)", "int text(int)", "int rule(int)",
        "int drink(int,int)", "int guest(int,int)", "boolean law(int)", "boolean snow(int)", "int visit(int)",
        "int month()", "boolean host(int)", "int pay(int,int)", "int price(int,int)", "int years(int,long)",
        "int undo()", "int book(int,int)", "int step(int,int,int)", "int run(int,int)", "int perform(int)",
        "int best(int)", "int comes(int,int)", "int soonest(int,int)", "int ends(int)", "int round(int)",
        "int seen(int,int,int,int)", "int fits(int,int)", "int serve(int,int)", "int who(int,int,int)",
        "int game(int,int,int,int,int)", "int rests(int,int,int)", "int dealt(int)", "int odds(int,int)",
        "int makes(int,int)", "int glad(int)", "int all(int)", "int affords(int)", "int brought(int)",
        "int saves(int,int)", "int image()", "int back()", "int count(int)"};
    private static final String[] BANNED = {
        "->", "::", "synchronized", "assert ", "finally", "catch", "System.out", "getMessage", "Exact(", "instanceof",
        "double", "float", "Iterator", "HashMap", "@", "static {", "random", "Thread", "volatile", "native", "var "};
    private static int wrong;

    public static void main(String[] args) throws IOException {
        face();
        inside();
        file();
        System.out.println(wrong == 0 ? "the face is as due" : wrong + " faults of the face");
        if (wrong != 0) {
            System.exit(1);
        }
    }

    private static void must(boolean so, String what) {
        if (!so) {
            wrong++;
            System.out.println(what);
        }
    }

    private static void face() {
        Class<BottleBefore> c = BottleBefore.class;
        must(Modifier.isPublic(c.getModifiers()) && Modifier.isFinal(c.getModifiers()), "the class: public and final");
        must(BottleBefore.NONE == -1 && BottleBefore.HIDDEN == -1000000, "the constants");
        Set<String> methods = new TreeSet<>();
        Set<String> names = new TreeSet<>();
        for (Method m : c.getDeclaredMethods()) {
            if (!Modifier.isPrivate(m.getModifiers())) {
                methods.add(signature(m));
                names.add(m.getName());
                must(Modifier.isPublic(m.getModifiers()) && !Modifier.isStatic(m.getModifiers()), m.getName());
            }
        }
        must(methods.equals(new TreeSet<>(Arrays.asList(METHODS))), "the methods: " + methods);
        for (Class<?> k : c.getDeclaredClasses()) {
            for (Method m : k.getDeclaredMethods()) {
                must(!names.contains(m.getName()), "a method inside bears a name of the face: " + m.getName());
            }
        }
        for (Method m : c.getDeclaredMethods()) {
            must(!Modifier.isPrivate(m.getModifiers()) || !names.contains(m.getName()), "private " + m.getName());
        }
        Constructor<?>[] made = c.getDeclaredConstructors();
        must(made.length == 1 && made[0].getParameterCount() == 0 && isPublic(made[0]), "the constructor");
        for (Field f : c.getDeclaredFields()) {
            boolean ofFace = f.getName().equals("NONE") || f.getName().equals("HIDDEN");
            must(ofFace ? isPublic(f) : Modifier.isPrivate(f.getModifiers()), "the field " + f.getName());
        }
    }

    private static boolean isPublic(Member m) {
        return Modifier.isPublic(m.getModifiers());
    }

    private static String signature(Method m) {
        StringBuilder b = new StringBuilder(m.getReturnType().getName()).append(' ').append(m.getName()).append('(');
        for (int i = 0; i < m.getParameterCount(); i++) {
            b.append(i == 0 ? "" : ",").append(m.getParameterTypes()[i].getName());
        }
        return b.append(')').toString();
    }

    private static void inside() {
        List<Class<?>> all = new ArrayList<>(Arrays.asList(BottleBefore.class.getDeclaredClasses()));
        must(all.size() < 12, "at most twelve classes");
        all.add(BottleBefore.class);
        for (Class<?> k : all) {
            boolean nested = k != BottleBefore.class;
            must(!nested || Modifier.isStatic(k.getModifiers()), k.getName() + " is static");
            must(!nested || !Modifier.isPublic(k.getModifiers()), k.getName() + " is not public");
            int fields = 0;
            for (Field f : k.getDeclaredFields()) {
                boolean isStatic = Modifier.isStatic(f.getModifiers());
                must(!isStatic || Modifier.isFinal(f.getModifiers()), "static and not final: " + f.getName());
                fields += isStatic ? 0 : 1;
            }
            must(fields <= 20, k.getName() + " has " + fields + " fields");
            for (Method m : k.getDeclaredMethods()) {
                must(m.getParameterCount() <= 7, m.getName() + " has more than seven parameters");
            }
        }
    }

    private static Path source() {
        return Path.of("src", "main", "java", "BottleBefore.java");
    }

    private static void file() throws IOException {
        String text = Files.readString(source(), StandardCharsets.ISO_8859_1);
        String code = text.replaceAll("(?s)/\\*.*?\\*/", "").replaceAll("//[^\\n]*", "");
        for (String banned : BANNED) {
            must(!code.contains(banned), "in the file: " + banned);
        }
        must(code.chars().allMatch(c -> c < 128), "a sign above 127");
        Matcher imports = Pattern.compile("import ([\\w.]+);").matcher(code);
        Set<String> allowed = Set.of("java.util.Arrays", "java.util.NoSuchElementException");
        while (imports.find()) {
            must(allowed.contains(imports.group(1)), "import " + imports.group(1));
        }
        must(code.split("throw new ", -1).length == 2, "one throw alone, that of guest");
        int from = 0;
        String[] lines = text.split("\n");
        for (int i = 0; i < lines.length; i++) {
            if (lines[i].matches(" {4}(?: {4})?[\\w].*\\) (?:throws \\w+ )?\\{")) from = i;
            if (lines[i].matches(" {4}(?: {4})?\\}")) must(i - from <= 60 || from == 0, "a long method at " + from);
            if (lines[i].matches(" {4}(?: {4})?\\}")) from = 0;
            must(lines[i].length() <= 120, "a long line: " + (i + 1));
        }
    }
}
