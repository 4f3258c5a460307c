import java.io.IOException;
import java.lang.reflect.Constructor;
import java.lang.reflect.Field;
import java.lang.reflect.Member;
import java.lang.reflect.Method;
import java.lang.reflect.Modifier;
import java.nio.charset.StandardCharsets;
import java.nio.file.Files;
import java.nio.file.Path;
import java.util.HashSet;
import java.util.Set;
import java.util.TreeSet;
import java.util.regex.Matcher;
import java.util.regex.Pattern;

/** What can be seen of LANGUAGE.md's rules from the source and from the compiled class; and the face. */
final class RulesTest {
    private static final String SOURCE = "src/main/java/SkyStones.java";
    private static final String[] FACE = {"int feed(int,int,int,int,int)", "int back(int)", "int read()", "int place()",
        "int found(int,int,int)", "int move(int,int,int)", "int gone(int)", "int date(int,int)", "int annul(int)",
        "int thing(int,int,int)", "int degree(int,int)", "int vector(int,int)", "int line(int,int,int)",
        "int lines(boolean,int)", "int height(int)", "int rise(int,int)", "int hit(int,int,int,int)",
        "int hits(int,int,int,boolean,int)", "int hitAt(int,int,boolean,int,int)", "int many(int,int,int)",
        "int allHits(int,int,int)", "int alone(int,int,int)", "int striking(int,int,int)", "int price(int,int)",
        "int story(int,int,int,int,int)", "int otherwise(int,int,int,int)", "int free(int,int,int,int,int)",
        "int freer(int,int,int,int,int,int)", "int next(int,int,int)", "int site(int,int)", "int clear()",
        "int pointing(int,int,boolean)", "long chance(int,int)", "int made(int,int,int)",
        "int madeAt(int,int,int,int,int)", "int odds(int,int,int,int,int)", "int counts(int,int,int,int,int)",
        "int anything(int,int,int,int,int)", "int life(int,int,int,int)", "long seen(int,int,int,int)",
        "int say(int,int,int)", "boolean hold(int)", "boolean again(int)", "int count(int)"};

    public static void main(String[] args) throws IOException {
        Check check = new Check();
        face(check);
        for (Class<?> inside : SkyStones.class.getDeclaredClasses()) {
            check.due(inside + " is static", Modifier.isStatic(inside.getModifiers()), true);
            check.due(inside + " is inside", Modifier.isPublic(inside.getModifiers()), false);
            members(check, inside);
        }
        members(check, SkyStones.class);
        check.due("classes", SkyStones.class.getDeclaredClasses().length < 12, true);
        String source = Files.readString(Path.of(SOURCE), StandardCharsets.ISO_8859_1);
        words(check, source);
        lengths(check, source);
        check.end();
    }

    private static String signature(Method m) {
        StringBuilder s = new StringBuilder(m.getReturnType().getName()).append(' ').append(m.getName()).append('(');
        for (Class<?> type : m.getParameterTypes()) {
            s.append(s.charAt(s.length() - 1) == '(' ? "" : ",").append(type.getName());
        }
        return s.append(')').toString();
    }

    private static void face(Check check) {
        Class<?> c = SkyStones.class;
        check.due("public and final", Modifier.isPublic(c.getModifiers()) && Modifier.isFinal(c.getModifiers()), true);
        Set<String> open = new TreeSet<>();
        for (Method m : c.getDeclaredMethods()) {
            if (Modifier.isPublic(m.getModifiers())) {
                open.add(signature(m));
            } else {
                check.due(m + " is private", Modifier.isPrivate(m.getModifiers()), true);
            }
        }
        for (String due : FACE) {
            check.due(due, open.remove(due), true);
        }
        check.due("no others: " + open, open.size(), 0);
        Constructor<?>[] made = c.getDeclaredConstructors();
        check.due("one constructor", made.length == 1 && made[0].getParameterCount() == 0, true);
        check.due("constructor is public", Modifier.isPublic(made[0].getModifiers()), true);
        for (Field f : c.getDeclaredFields()) {
            check.due(f + " is seen", !Modifier.isPrivate(f.getModifiers()), f.getName().equals("NONE"));
        }
    }

    private static void members(Check check, Class<?> c) {
        Set<String> open = new HashSet<>();
        for (String due : FACE) {
            open.add(due.substring(due.indexOf(' ') + 1, due.indexOf('(')));
        }
        for (Method m : c.getDeclaredMethods()) {
            boolean own = c == SkyStones.class && Modifier.isPublic(m.getModifiers());
            check.due(m + " has a name of its own", own || !open.contains(m.getName()), true);
            check.due(m + " takes at most seven", m.getParameterCount() <= 7, true);
        }
        int fields = 0;
        for (Field f : c.getDeclaredFields()) {
            if (Modifier.isStatic(f.getModifiers())) {
                check.due(f + " is final", isFinal(f), true);
            } else {
                fields++;
            }
        }
        check.due(c + " fields", fields <= 20, true);
    }

    private static boolean isFinal(Member m) {
        return Modifier.isFinal(m.getModifiers());
    }

    private static void words(Check check, String source) {
        for (int i = 0; i < source.length(); i++) {
            if (source.charAt(i) > 126) {
                check.due("sign at " + i, source.charAt(i), ' ');
            }
        }
        String bare = source.replaceAll("(?s)/\\*.*?\\*/", " ").replaceAll("//[^\n]*", " ");
        String[] never = {"\\bthrows?\\b", "\\btry\\b", "\\bcatch\\b", "\\bfinally\\b", "\\bsynchronized\\b",
            "\\bassert\\b", "->", "::", "Exact\\b", "\\bpackage\\b", "\\bprotected\\b", "\\bvolatile\\b", "\\bThread\\b",
            "\\bObject\\b", "\\bequals\\b", "\\bhashCode\\b", "\\btoString\\b", "\\bvar\\b", "\\brandom\\b", "\\bnanoTime\\b",
            "\\bprintln\\b", "\"\\s*\\+", "\\+\\s*\"", "while \\(true\\)", "for \\(;;\\)", "static \\{"};
        for (String word : never) {
            Matcher m = Pattern.compile(word).matcher(bare);
            check.due("never " + word, m.find(), false);
        }
        Matcher imports = Pattern.compile("import ([^;]+);").matcher(bare);
        while (imports.find()) {
            check.due(imports.group(1), imports.group(1).equals("java.util.Arrays"), true);
        }
        Matcher library = Pattern.compile("\\b(Math|System|Arrays|Integer|Long)\\.(\\w+)").matcher(bare);
        Set<String> fine = Set.of("abs", "max", "min", "floorMod", "floorDiv", "arraycopy", "fill");
        while (library.find()) {
            check.due(library.group(), fine.contains(library.group(2)), true);
        }
    }

    /** A method's lines, from its head to the brace that closes it. */
    private static void lengths(Check check, String source) {
        String[] lines = source.split("\n");
        int head = -1;
        String indent = "";
        for (int i = 0; i < lines.length; i++) {
            Matcher m = Pattern.compile("^( {4}| {8})(?! )[\\w\\[\\]<> ]+\\(.*\\) \\{$").matcher(lines[i]);
            if (m.find() && !lines[i].contains(" class ")) {
                head = i;
                indent = m.group(1);
            }
            if (head >= 0 && lines[i].equals(indent + "}")) {
                check.due("lines of" + lines[head].trim(), i - head < 60, true);
                head = -1;
            }
        }
    }
}
