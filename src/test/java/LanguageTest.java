import java.lang.reflect.Constructor;
import java.lang.reflect.Field;
import java.lang.reflect.Method;
import java.lang.reflect.Modifier;
import java.nio.file.Files;
import java.nio.file.Path;
import java.util.ArrayList;
import java.util.List;
import java.util.TreeSet;
import java.util.regex.Matcher;
import java.util.regex.Pattern;

/** The rules of LANGUAGE.md that can be seen in the file and in the class; run from the project's root. */
public final class LanguageTest {
    private static int wrong = 0;
    private static final String[] FACE = {
        "boolean now(int)", "int person(int,int)", "boolean dies(int,int)", "boolean table(int,int,int)", "int lives(int,int)",
        "boolean number(int,int)", "int discount(int)", "int feed(int,int,int,int,int)", "int settle(int,int,int,int)",
        "int named(int,int)", "int falls(int,int,int)", "long chance(int,int,int,int,int)", "long worth(int,int,int,int)",
        "int sale(int,int,int,int,int,boolean)", "boolean notice(int,int)", "int charge(int,int,int,int)", "int act(int)",
        "int hard(int)", "long undo(int)", "int least(int,int,int,boolean)", "long cover(int,int,int)", "int gain(int,int,int)",
        "int paid(int,int,int,int)", "int holds(int,int)", "boolean papers(int,int)", "int falseOnes()", "int look(int,int)",
        "int count(int)"};

    private static void need(boolean stands, String rule) {
        if (!stands) {
            wrong++;
            System.out.println(rule);
        }
    }

    public static void main(String[] args) throws Exception {
        face();
        List<Class<?>> classes = new ArrayList<>(List.of(HopeOffice.class.getDeclaredClasses()));
        classes.add(HopeOffice.class);
        need(classes.size() <= 12, "rule 11: " + classes.size() + " classes");
        for (Class<?> c : classes) {
            members(c);
        }
        source(Files.readString(Path.of("src/main/java/HopeOffice.java")));
        System.out.println(wrong == 0 ? "the file keeps to the language" : wrong + " rules are broken");
        if (wrong != 0) {
            System.exit(1);
        }
    }

    private static String told(Method m) {
        StringBuilder text = new StringBuilder(m.getReturnType().getSimpleName()).append(' ').append(m.getName()).append('(');
        for (Class<?> p : m.getParameterTypes()) {
            text.append(text.charAt(text.length() - 1) == '(' ? "" : ",").append(p.getSimpleName());
        }
        return text.append(')').toString();
    }

    private static void face() throws Exception {
        TreeSet<String> seen = new TreeSet<>();
        TreeSet<String> names = new TreeSet<>();
        for (Method m : HopeOffice.class.getDeclaredMethods()) {
            if (Modifier.isPublic(m.getModifiers())) {
                seen.add(told(m));
                names.add(m.getName());
            }
        }
        need(seen.equals(new TreeSet<>(List.of(FACE))), "rule 1: the face is " + seen);
        for (Method m : HopeOffice.class.getDeclaredMethods()) {
            boolean hidden = Modifier.isPrivate(m.getModifiers()) || m.isSynthetic();
            need(hidden || Modifier.isPublic(m.getModifiers()), "rule 1: " + m.getName() + " is visible");
        }
        for (Class<?> c : HopeOffice.class.getDeclaredClasses()) {
            for (Method m : c.getDeclaredMethods()) {
                need(!names.contains(m.getName()), "rule 1: " + c.getSimpleName() + " has a method " + m.getName());
            }
        }
        Constructor<?>[] made = HopeOffice.class.getDeclaredConstructors();
        need(made.length == 1 && Modifier.isPublic(made[0].getModifiers()) && made[0].getParameterCount() == 0, "rule 1: the constructor");
        need(Modifier.isFinal(HopeOffice.class.getModifiers()), "rule 1: the class is final");
        for (Field f : HopeOffice.class.getDeclaredFields()) {
            need(Modifier.isPrivate(f.getModifiers()) || f.getName().equals("NONE"), "rule 1: " + f.getName() + " is visible");
        }
        need(HopeOffice.NONE == -1, "NONE is " + HopeOffice.NONE);
    }

    private static void members(Class<?> c) {
        need(c == HopeOffice.class || Modifier.isStatic(c.getModifiers()), "rule 2: " + c.getName() + " is not static");
        int fields = 0;
        for (Field f : c.getDeclaredFields()) {
            boolean isStatic = Modifier.isStatic(f.getModifiers());
            need(!isStatic || (Modifier.isFinal(f.getModifiers()) && f.getType().isPrimitive()), "rule 5: " + f.getName());
            fields += isStatic ? 0 : 1;
        }
        need(fields <= 20, "rule 11: " + c.getName() + " has " + fields + " fields");
        for (Method m : c.getDeclaredMethods()) {
            need(m.getParameterCount() <= 7, "rule 11: " + m.getName() + " takes " + m.getParameterCount());
        }
    }

    private static void source(String text) {
        String bare = text.replaceAll("(?s)/\\*.*?\\*/", "").replaceAll("//[^\n]*", "").replaceAll("'(\\\\.|[^'])'", "' '");
        need(!bare.contains("\""), "no text is needed");
        String[] words = {"throw", "throws", "try", "catch", "finally", "synchronized", "assert", "import", "package", "while",
            "instanceof", "double", "float", "Object", "String", "System.out", "Math.addExact", "yield", "record", "var"};
        for (String word : words) {
            need(!Pattern.compile("\\b" + Pattern.quote(word) + "\\b").matcher(bare).find(), "the word " + word);
        }
        for (String sign : new String[] {"->", "::", "@"}) {
            need(!bare.contains(sign), "the sign " + sign);
        }
        for (Matcher m = Pattern.compile("for \\(([^;]*);([^;]*);").matcher(bare); m.find();) {
            need(m.group(2).contains("<") || m.group(2).contains(">="), "rule 9: a loop without a bound: " + m.group());
        }
        int length = 0;
        for (String line : bare.split("\n")) {
            boolean opens = line.matches(" {4,8}[a-z].*\\) \\{");
            length = opens ? 0 : length + 1;
            need(length <= 70 || !line.matches(" {4,8}\\}"), "rule 11: a method of " + length + " lines ahead of " + line);
            length = line.matches(" {4,8}\\}") ? 0 : length;
        }
    }
}
