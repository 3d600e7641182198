import java.io.IOException;
import java.lang.reflect.Constructor;
import java.lang.reflect.Field;
import java.lang.reflect.Method;
import java.lang.reflect.Modifier;
import java.nio.file.Files;
import java.nio.file.Path;
import java.util.ArrayList;
import java.util.HashSet;
import java.util.List;
import java.util.Set;
import java.util.TreeSet;
import java.util.regex.Matcher;
import java.util.regex.Pattern;

/** The face of the document, and of LANGUAGE.md what can be seen from the class and from its text. */
public final class LanguageTest {
    private static final String FACE = "put(int,int,int,long)int take(int)int row(int,int)int worth(int)long "
        + "feed(int)int clear()int settings()int setting(int)int run()int answer(int)long spell()int load()int "
        + "explain(int,int,int,int)int paper(int)int query(int,int,int,int,int)long find(int)int "
        + "probe(int,int,int,int)int piece(int,int)int region(int,int)int weight(int)long told(int)long flush()int "
        + "keep(int)int trace(int,int,int,int)int again(int,int)int least(int)int watch(int,int,int,int,int)int "
        + "value(int)long changes(int)int list(int,int)int set(int,int,long)int get(int,int)long "
        + "move(int,int,int,int,int)int lay(int,int)int judge(int,int)int image()int undo()int";
    private static final String CONSTANTS = "NONE BAD STATE FULL NO OVER";
    private static final int MOST_CLASSES = 12, MOST_FIELDS = 20, MOST_PARAMETERS = 7, MOST_LINES = 60;

    public static void main(String[] args) throws IOException {
        Check.promise(0);
        face();
        for (Class<?> c : classes()) {
            members(c);
        }
        Check.due("classes at most " + MOST_CLASSES, 1, classes().size() <= MOST_CLASSES ? 1 : 0);
        text(Files.readString(Path.of("src/main/java/RangeAnswers.java")));
        Check.end();
    }

    private static List<Class<?>> classes() {
        List<Class<?>> all = new ArrayList<>();
        all.add(RangeAnswers.class);
        all.addAll(List.of(RangeAnswers.class.getDeclaredClasses()));
        return all;
    }

    private static boolean isHidden(int modifiers) {
        return Modifier.isPrivate(modifiers);
    }

    private static void face() {
        Class<?> c = RangeAnswers.class;
        Check.due("public and final", Modifier.PUBLIC | Modifier.FINAL, c.getModifiers());
        Check.due("constructors", 1, c.getDeclaredConstructors().length);
        for (Constructor<?> k : c.getDeclaredConstructors()) {
            Check.due("the constructor is public", 1, Modifier.isPublic(k.getModifiers()) ? 1 : 0);
        }
        Set<String> methods = new TreeSet<>();
        for (Method m : c.getDeclaredMethods()) {
            if (isHidden(m.getModifiers()) || m.isSynthetic()) continue;
            StringBuilder s = new StringBuilder(m.getName()).append('(');
            for (Class<?> p : m.getParameterTypes()) s.append(s.charAt(s.length() - 1) == '(' ? "" : ",").append(p);
            methods.add(s.append(')').append(m.getReturnType()).toString());
            Check.due(m.getName() + " is public", Modifier.PUBLIC, m.getModifiers());
        }
        Check.due("methods", new TreeSet<>(List.of(FACE.split(" "))).toString(), methods.toString());
        Set<String> fields = new TreeSet<>();
        for (Field f : c.getDeclaredFields()) if (!isHidden(f.getModifiers())) fields.add(f.getName());
        Check.due("constants", new TreeSet<>(List.of(CONSTANTS.split(" "))).toString(), fields.toString());
    }

    private static void members(Class<?> c) {
        Set<String> face = new HashSet<>();
        for (String m : FACE.split(" ")) face.add(m.substring(0, m.indexOf('(')));
        boolean isInside = c != RangeAnswers.class;
        if (isInside) Check.due(c + " is static", 1, Modifier.isStatic(c.getModifiers()) ? 1 : 0);
        Check.due("classes inside " + c, 0, isInside ? c.getDeclaredClasses().length : 0);
        int fields = 0;
        for (Field f : c.getDeclaredFields()) {
            if (Modifier.isStatic(f.getModifiers())) {
                Check.due(f + " is final", 1, Modifier.isFinal(f.getModifiers()) ? 1 : 0);
            } else {
                fields++;
            }
        }
        Check.due("fields of " + c + " at most " + MOST_FIELDS, 1, fields <= MOST_FIELDS ? 1 : 0);
        for (Method m : c.getDeclaredMethods()) {
            Check.due(m + "'s parameters", 1, m.getParameterCount() <= MOST_PARAMETERS ? 1 : 0);
            boolean isPublic = Modifier.isPublic(m.getModifiers());
            Check.due(m + " bears the name of a public one", 0, !isPublic && face.contains(m.getName()) ? 1 : 0);
        }
    }

    private static void text(String whole) {
        String code = whole.replaceAll("(?s)/\\*.*?\\*/", "").replaceAll("//[^\n]*", "");
        String bare = code.replaceAll("\"[^\"\n]*\"", "\"\"").replaceAll("'(\\\\.|[^'])'", "' '");
        for (String word : "throw throws try catch synchronized assert import package record sealed var".split(" ")) {
            Check.due("the word " + word, 0, Pattern.compile("\\b" + word + "\\b").matcher(bare).find() ? 1 : 0);
        }
        for (String sign : new String[] {"->", "::", "...", "@", "\"\"\"", "Exact("}) {
            Check.due("the sign " + sign, 0, bare.contains(sign) ? 1 : 0);
        }
        for (String equals : new String[] {".equals(", ".hashCode(", ".toString(", "while", "String[]"}) {
            Check.due("no " + equals, 0, bare.contains(equals) ? 1 : 0);
        }
        Check.due("plain signs", 1, whole.matches("(?s)[\\x00-\\x7f]*") ? 1 : 0);
        Check.due("no text joined by +", 0, Pattern.compile("\"\\s*\\+|\\+\\s*\"").matcher(bare).find() ? 1 : 0);
        Matcher loops = Pattern.compile("\\bfor \\(([^;]*);([^;]*);").matcher(bare);
        while (loops.find()) {
            Check.due("a bound in for (" + loops.group(0), 1, loops.group(2).matches(".*[<>].*") ? 1 : 0);
        }
        Set<String> library = new TreeSet<>();
        Matcher calls = Pattern.compile("\\b(Long|Integer|Math|System|Arrays)\\.(\\w+)").matcher(bare);
        while (calls.find()) library.add(calls.group());
        library.removeAll(List.of("Long.MIN_VALUE", "Long.MAX_VALUE", "Long.bitCount", "Long.compare", "Math.max",
            "Math.min", "Math.floorDiv", "System.arraycopy"));
        Check.due("other library", "[]", library.toString());
        lengths(whole);
    }

    private static void lengths(String whole) {
        String[] lines = whole.split("\n");
        int begin = -1;
        for (int i = 0; i < lines.length; i++) {
            Check.due("line " + (i + 1) + " is short", 1, lines[i].length() <= 120 ? 1 : 0);
            boolean opens = lines[i].matches("( {4}| {8})\\w[^=;]*\\)\\s*\\{");
            if (opens) begin = i;
            if (begin >= 0 && lines[i].matches("( {4}| {8})\\}")) {
                Check.due("the method at line " + (begin + 1), 1, i - begin < MOST_LINES ? 1 : 0);
                begin = -1;
            }
        }
    }
}
