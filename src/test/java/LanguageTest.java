import java.io.IOException;
import java.lang.reflect.Constructor;
import java.lang.reflect.Field;
import java.lang.reflect.Method;
import java.lang.reflect.Modifier;
import java.nio.file.Files;
import java.nio.file.Path;
import java.util.HashSet;
import java.util.Set;
import java.util.TreeSet;
import java.util.regex.Matcher;
import java.util.regex.Pattern;

/** The public face, and the words and signs that the class must not be written with; SourceTest has the rest. */
public final class LanguageTest {
    private static final String[] FACE = {
        "back(int)int", "beat()int", "best()int", "clear()int", "count(int)int", "current(int)int", "drift()int",
        "ends()int", "ferry()int", "first(int)int", "forget()int", "inBeats(int,int)int", "keep(int)int", "last()int",
        "mute(int)int", "now(int)int", "odds(int,int,int,int)int", "passenger(int,int)int", "pinches(int)int",
        "plan(int,int,int)int", "quarrels(int,int)int", "rate(int,int)int", "ring()int", "seen(int,int)int",
        "sings(int)int", "trace()long", "type(int)int", "undo()int", "who()int"};
    private static final String[] CONSTANTS = {"BAD", "FULL", "NO", "NONE", "STATE"};
    private static final String[] FORBIDDEN = {
        "throw", "throws", "try", "catch", "finally", "synchronized", "assert", "->", "::", "@", "Exact",
        "Integer.MAX", "Integer.MIN", "System.out", "Random", "Thread", "\\.length\\(\\)", "equals", "hashCode",
        "toString", "var", "package", "while \\(true\\)", "for \\(;;"};
    private static int wrong = 0;

    private static void must(boolean so, String what) {
        if (!so) {
            wrong++;
            System.out.println("not so: " + what);
        }
    }

    public static void main(String[] args) throws IOException {
        face();
        members(LastRower.class);
        for (Class<?> c : LastRower.class.getDeclaredClasses()) {
            must(Modifier.isStatic(c.getModifiers()), c + " is static");
            must(!Modifier.isPublic(c.getModifiers()), c + " is not public");
            members(c);
        }
        source(Files.readString(Path.of("src/main/java/LastRower.java")));
        System.out.println(wrong == 0 ? "the rules are kept" : wrong + " rules are broken");
        if (wrong != 0) {
            System.exit(1);
        }
    }

    private static void face() {
        must(Modifier.isFinal(LastRower.class.getModifiers()), "the class is final");
        Set<String> found = new TreeSet<>();
        for (Method m : LastRower.class.getDeclaredMethods()) {
            if (!Modifier.isPrivate(m.getModifiers())) {
                must(Modifier.isPublic(m.getModifiers()) && !Modifier.isStatic(m.getModifiers()), m + " is public");
                found.add(signature(m));
            }
        }
        must(found.equals(new TreeSet<>(Set.of(FACE))), "the methods are the document's: " + found);
        Set<String> constants = new TreeSet<>();
        for (Field f : LastRower.class.getDeclaredFields()) {
            if (!Modifier.isPrivate(f.getModifiers())) {
                must(Modifier.isPublic(f.getModifiers()) && f.getType() == int.class, f + " is a public int");
                constants.add(f.getName());
            }
        }
        must(constants.equals(new TreeSet<>(Set.of(CONSTANTS))), "the constants are the document's: " + constants);
        Constructor<?>[] made = LastRower.class.getDeclaredConstructors();
        must(made.length == 1 && made[0].getParameterCount() == 0, "one constructor");
    }

    private static String signature(Method m) {
        StringBuilder s = new StringBuilder(m.getName()).append('(');
        for (Class<?> p : m.getParameterTypes()) {
            s.append(s.charAt(s.length() - 1) == '(' ? "" : ",").append(p);
        }
        return s.append(')').append(m.getReturnType()).toString();
    }

    private static void members(Class<?> c) {
        Set<String> names = new HashSet<>();
        for (String f : FACE) {
            names.add(f.substring(0, f.indexOf('(')));
        }
        for (Method m : c.getDeclaredMethods()) {
            must(Modifier.isPublic(m.getModifiers()) || !names.contains(m.getName()), m + " has a name of its own");
        }
    }

    private static void source(String text) {
        String code = text.replaceAll("(?s)/\\*.*?\\*/", "").replaceAll("//[^\n]*", "");
        for (String word : FORBIDDEN) {
            boolean letters = Character.isLetter(word.charAt(0));
            Matcher found = Pattern.compile(letters ? "\\b" + word + "\\b" : word).matcher(code);
            must(!found.find(), "no " + word);
        }
        Matcher imports = Pattern.compile("import ([\\w.*]+);").matcher(code);
        while (imports.find()) {
            must(imports.group(1).equals("java.util.Arrays"), "import of " + imports.group(1));
        }
        must(text.chars().allMatch(sign -> sign == '\n' || sign >= 32 && sign < 127), "signs are 32 to 126");
    }
}
