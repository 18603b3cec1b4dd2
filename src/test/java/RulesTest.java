import java.io.IOException;
import java.lang.reflect.Constructor;
import java.lang.reflect.Field;
import java.lang.reflect.Method;
import java.lang.reflect.Modifier;
import java.nio.file.Files;
import java.nio.file.Path;
import java.util.ArrayList;
import java.util.List;
import java.util.Set;
import java.util.TreeSet;
import java.util.regex.Matcher;
import java.util.regex.Pattern;

/** The public face, and those rules of LANGUAGE.md that a look at the program can show. */
final class RulesTest {
    private static final Check CHECK = new Check();
    private static final String FACE = "feed(int,int,int,int,int)int back(int)int read()int place()int mermaid(int,int)int "
        + "person(int,int)int strand(int,int)int hand(int,int)boolean cut(int)boolean die(int)boolean months(int)int "
        + "undo()boolean then(int,int,int)int swims(int,int,int)int first(int)int near(int,int,int)int "
        + "plait(int,int,int,int)int turns(int,int)int strongest(int,int)int again(int)int passing(int,int,int)int "
        + "even(int)int market(int)int nothing(int,int)int safe(int,int)int cutBest()int worth(int)int give(int)int "
        + "year(int,int,int)int tell(int,int,int,int)int forget()int where(int)int surest(int)int holdNext(int)int "
        + "hold(int)boolean restore(int)boolean count(int)int";

    public static void main(String[] args) throws IOException {
        CHECK.about("the rules");
        String source = Files.readString(Path.of("src/main/java/SeaHair.java"));
        face();
        namesApart();
        members();
        text(source);
        words(bare(source));
        methods(bare(source));
        CHECK.end();
    }

    private static void need(String what, boolean holds) {
        CHECK.due(what, holds, true);
    }

    private static void face() {
        Class<SeaHair> type = SeaHair.class;
        need("public final", type.getModifiers() == (Modifier.PUBLIC | Modifier.FINAL));
        Set<String> due = new TreeSet<>(List.of(FACE.split(" ")));
        Set<String> are = new TreeSet<>();
        for (Method method : type.getDeclaredMethods()) {
            if (method.isSynthetic()) {
                continue;
            }
            if (Modifier.isPrivate(method.getModifiers())) {
                continue;
            }
            need(method + " is public, not static", method.getModifiers() == Modifier.PUBLIC);
            List<String> params = new ArrayList<>();
            for (Class<?> param : method.getParameterTypes()) {
                params.add(param.getName());
            }
            are.add(method.getName() + "(" + String.join(",", params) + ")" + method.getReturnType().getName());
        }
        need("the face is as told: " + are, are.equals(due));
        Constructor<?>[] made = type.getDeclaredConstructors();
        need("one public constructor", made.length == 1 && made[0].getModifiers() == Modifier.PUBLIC
            && made[0].getParameterCount() == 0);
        for (Field field : type.getDeclaredFields()) {
            boolean isNone = field.getName().equals("NONE");
            int modifiers = field.getModifiers();
            need(field + " is private", isNone || Modifier.isPrivate(modifiers) || field.isSynthetic());
            need("NONE is a public constant", !isNone || modifiers == (Modifier.PUBLIC | Modifier.STATIC | Modifier.FINAL));
        }
        CHECK.due("NONE", SeaHair.NONE, -1);
    }

    private static void namesApart() {
        Set<String> open = new TreeSet<>();
        for (Method method : SeaHair.class.getMethods()) {
            open.add(method.getName());
        }
        List<Class<?>> all = new ArrayList<>(List.of(SeaHair.class.getDeclaredClasses()));
        all.add(SeaHair.class);
        need("at most twelve classes", all.size() <= 12);
        for (Class<?> type : all) {
            for (Method method : type.getDeclaredMethods()) {
                boolean isFace = type == SeaHair.class && Modifier.isPublic(method.getModifiers());
                need(method + " bears no public name", isFace || !open.contains(method.getName()));
            }
        }
    }

    private static void members() {
        for (Class<?> type : SeaHair.class.getDeclaredClasses()) {
            need(type + " is static and not public", Modifier.isStatic(type.getModifiers()) && !Modifier.isPublic(type.getModifiers()));
            need(type + " is final", Modifier.isFinal(type.getModifiers()));
            int fields = 0;
            for (Field field : type.getDeclaredFields()) {
                boolean isStatic = Modifier.isStatic(field.getModifiers());
                fields += isStatic ? 0 : 1;
                need(field + " is no state of a class", !isStatic || Modifier.isFinal(field.getModifiers()));
                Class<?> kind = field.getType();
                need(field + " is a constant", !isStatic || kind.isPrimitive() || kind == String.class);
            }
            need(type + " has at most twenty fields", fields <= 20);
        }
    }

    private static void text(String source) {
        for (String line : source.split("\n")) {
            need("a line of the letters 1 to 127: " + line, line.chars().allMatch(c -> c > 0 && c < 128));
            need("no import but java.util: " + line, !line.startsWith("import") || line.equals("import java.util.Arrays;"));
        }
        need("no package", !source.contains("package "));
    }

    /** The program without its comments and what stands in quotes. */
    private static String bare(String source) {
        return source.replaceAll("(?s)/\\*.*?\\*/", "").replaceAll("//[^\n]*", "").replaceAll("\"[^\"\n]*\"", "\"\"")
            .replaceAll("'[^'\n]'", "0");
    }

    private static void words(String bare) {
        for (String word : List.of("throw", "throws", "try", "catch", "finally", "synchronized", "assert", "protected",
                "transient", "volatile", "native", "super", "double", "float", "Object", "System.exit", "System.out",
                "Random", "Thread", "Exception", "Error", "hashCode", "toString", "yield", "var")) {
            need("no " + word, !Pattern.compile("\\b" + Pattern.quote(word) + "\\b").matcher(bare).find());
        }
        need("no lambda", !bare.contains("->"));
        need("no method reference", !bare.contains("::"));
        need("no text joined by +", !Pattern.compile("\"\\s*\\+|\\+\\s*\"").matcher(bare).find());
        Matcher called = Pattern.compile("\\b(Math|Integer|Long|Arrays|System)\\.(\\w+)").matcher(bare);
        Set<String> free = Set.of("Math.max", "Math.min", "Math.abs", "Integer.bitCount",
            "Arrays.fill", "System.arraycopy");
        while (called.find()) {
            need(called.group() + " is of the library", free.contains(called.group()));
        }
        Matcher made = Pattern.compile("\\bnew\\b").matcher(bare);
        int makers = 0;
        while (made.find()) {
            makers++;
            String ahead = bare.substring(0, made.start());
            Matcher head = Pattern.compile("\n(?: {8}| {4})(?! |if|for|while|switch|\\})([^\n;=]*)\\) \\{\n").matcher(ahead);
            String last = "";
            while (head.find()) {
                last = head.group(1);
            }
            need("made in a constructor alone: " + last, last.matches("(public )?[A-Z]\\w*\\([^)]*"));
        }
        need("something is made", makers > 0);
    }

    private static void methods(String bare) {
        String[] lines = bare.split("\n");
        Pattern head = Pattern.compile("^( {8}| {4})(?! )[\\w\\[\\]<> ]*\\b\\w+\\(([^)]*)\\) \\{$");
        int seen = 0;
        for (int i = 0; i < lines.length; i++) {
            Matcher matcher = head.matcher(lines[i]);
            if (!matcher.matches() || lines[i].matches("\\s*(if|for|while|switch|\\} else).*")) {
                continue;
            }
            seen++;
            String indent = matcher.group(1);
            int end = i;
            while (end < lines.length && !lines[end].equals(indent + "}")) {
                end++;
            }
            need("short: " + lines[i], end - i <= 60);
            need("at most seven parameters: " + lines[i], matcher.group(2).split(",").length <= 7);
        }
        need("the methods are seen", seen > 100);
    }
}
