import java.io.IOException;
import java.lang.reflect.Constructor;
import java.lang.reflect.Field;
import java.lang.reflect.Method;
import java.lang.reflect.Modifier;
import java.nio.file.Files;
import java.nio.file.Path;
import java.util.Set;
import java.util.TreeSet;
import java.util.regex.Matcher;
import java.util.regex.Pattern;

/** What can be seen by a machine of the rules in LANGUAGE.md; the first argument is the program's file. */
public final class LanguageTest {
    private static final Set<String> FACE = Set.of(
        "int type(int)", "int clear()", "int tells()", "int drops(int,int,int)", "int lifts(int)",
        "int weighs(int,int)", "int loads(int,int,int)", "int undo()", "int block(int,int)",
        "int contact(int,int)", "int rests()", "long bounds(int,int)", "long bears(int,int,int)",
        "int where(int,int)", "int weights(int)", "int key()", "int hold()", "int keep(int)",
        "int back(int)", "int count(int)");
    private static final Set<String> CONSTANTS = Set.of("BAD", "STATE", "FULL", "NONE", "ENDLESS");
    private static final Pattern FORBIDDEN = Pattern.compile(
        "\\b(throw|throws|try|catch|finally|synchronized|assert|import|package|native|volatile|System\\.(?!arraycopy)\\w+"
        + "|Math\\.\\w+Exact|float|double|Object|hashCode|toString)\\b|->|::|@\\w+");
    private static int wrong = 0;

    public static void main(String[] args) throws IOException {
        look(RestingBlocks.class);
        for (Class<?> inside : RestingBlocks.class.getDeclaredClasses()) {
            lookInside(inside);
        }
        if (args.length > 0) {
            read(Files.readString(Path.of(args[0])));
        }
        System.out.println(wrong == 0 ? "LanguageTest: all as due" : "LanguageTest: " + wrong + " wrong");
        if (wrong != 0) {
            System.exit(1);
        }
    }

    private static void say(boolean good, String fault) {
        if (!good) {
            wrong++;
            System.out.println("language: " + fault);
        }
    }

    private static String signature(Method m) {
        StringBuilder all = new StringBuilder(m.getReturnType().getName()).append(' ').append(m.getName()).append('(');
        for (Class<?> p : m.getParameterTypes()) {
            all.append(all.charAt(all.length() - 1) == '(' ? "" : ",").append(p.getName());
        }
        return all.append(')').toString();
    }

    private static void look(Class<?> face) {
        say(Modifier.isPublic(face.getModifiers()) && Modifier.isFinal(face.getModifiers()), "rule 1: public final");
        Set<String> open = new TreeSet<>();
        Set<String> names = new TreeSet<>();
        for (Method m : face.getDeclaredMethods()) {
            if (!Modifier.isPrivate(m.getModifiers()) && !m.isSynthetic()) {
                open.add(signature(m));
                names.add(m.getName());
            }
        }
        say(open.equals(new TreeSet<>(FACE)), "rule 1: the face is " + open);
        for (Method m : face.getDeclaredMethods()) {
            boolean hidden = Modifier.isPrivate(m.getModifiers());
            say(!hidden || !names.contains(m.getName()), "rule 1: a private method is named " + m.getName());
        }
        for (Field f : face.getDeclaredFields()) {
            boolean constant = CONSTANTS.contains(f.getName());
            say(constant == Modifier.isPublic(f.getModifiers()), "rule 1: field " + f);
            say(constant || Modifier.isPrivate(f.getModifiers()), "rule 1: field " + f);
            say(!Modifier.isStatic(f.getModifiers()) || Modifier.isFinal(f.getModifiers()), "rule 5: field " + f);
        }
        Constructor<?>[] makers = face.getDeclaredConstructors();
        say(makers.length == 1 && makers[0].getParameterCount() == 0, "rule 1: the constructor");
        say(face.getDeclaredClasses().length <= 12, "rule 11: classes");
    }

    private static void lookInside(Class<?> inside) {
        say(Modifier.isStatic(inside.getModifiers()), "rule 2: not static: " + inside);
        int fields = 0;
        for (Field f : inside.getDeclaredFields()) {
            boolean fixed = Modifier.isStatic(f.getModifiers());
            say(!fixed || Modifier.isFinal(f.getModifiers()), "rule 5: field " + f);
            fields += fixed ? 0 : 1;
        }
        say(fields <= 20, "rule 11: fields of " + inside);
        for (Method m : inside.getDeclaredMethods()) {
            say(m.getParameterCount() <= 7, "rule 11: parameters of " + m);
            for (String face : FACE) {
                say(!face.contains(" " + m.getName() + "("), "rule 1: named like the face: " + m);
            }
        }
    }

    private static void read(String program) {
        String bare = program.replaceAll("(?s)/\\*.*?\\*/", " ").replaceAll("//[^\n]*", " ");
        Matcher found = FORBIDDEN.matcher(bare);
        while (found.find()) {
            say(false, "in the text: " + found.group());
        }
        for (int i = 0; i < program.length(); i++) {
            say(program.charAt(i) < 128, "a sign beyond 127 at " + i);
        }
        longest(program);
    }

    private static void longest(String program) {
        int lines = 0;
        for (String line : program.split("\n")) {
            boolean starts = line.matches(" +(public |private |static |final )*[\\w\\[\\]<>]+ \\w+\\([^;]*\\) \\{")
                && !line.contains("else") && !line.contains("return");
            lines = starts ? 0 : lines + 1;
            say(!line.matches("( {4}| {8})\\}") || lines <= 60, "rule 11: a long method ends at: " + line);
            if (line.matches("( {4}| {8})\\}")) {
                lines = 0;
            }
        }
    }
}
