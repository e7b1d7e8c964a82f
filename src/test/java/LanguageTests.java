import java.io.IOException;
import java.lang.reflect.Constructor;
import java.lang.reflect.Field;
import java.lang.reflect.Method;
import java.lang.reflect.Modifier;
import java.nio.charset.StandardCharsets;
import java.nio.file.Files;
import java.nio.file.Path;
import java.util.Arrays;
import java.util.Map;
import java.util.Set;
import java.util.TreeMap;
import java.util.TreeSet;
import java.util.regex.Matcher;
import java.util.regex.Pattern;

/** What of LANGUAGE.md can be told from the source (found from the checkout's root) and the class. */
public final class LanguageTests {
    private static final Set<String> FACE = new TreeSet<>(Arrays.asList(
        "int type(long,int)", "int clear()", "int square()", "int bar(int)", "int person(int)", "int rain(int)",
        "int paint(int,int)", "int holds(int,int,int,int)", "int undo()", "int held(int,int)", "int rust(int,int)",
        "int saw(int,int)", "int hide(int)", "int seen(int)", "int fits()", "int sure(int)", "int odds(int,int,int)",
        "int claim(int,int,int)", "int saves(int,int,int)", "int scrape(int)", "int swaps()", "int rate(int,int)",
        "int keep(int)", "int back(int)", "int count(int)", "long trace()"));
    private static final Set<String> CONSTANTS = new TreeSet<>(Arrays.asList("BAD", "STATE", "FULL", "NONE", "NO"));
    private static int wrong = 0;

    public static void main(String[] args) throws IOException {
        face();
        classesInside();
        source();
        if (wrong != 0) {
            System.exit(1);
        }
    }

    private static void holdsTrue(boolean right, String what) {
        if (!right) {
            wrong++;
            System.out.println("not so: " + what);
        }
    }

    private static void face() {
        Set<String> publicOnes = new TreeSet<>();
        Set<String> publicNames = new TreeSet<>();
        for (Method method : LeanedBars.class.getDeclaredMethods()) {
            if (!Modifier.isPrivate(method.getModifiers())) {
                publicOnes.add(signature(method));
                publicNames.add(method.getName());
                holdsTrue(Modifier.isPublic(method.getModifiers()), "public: " + method);
            }
        }
        holdsTrue(publicOnes.equals(FACE), "1: the face is that of the document: " + publicOnes);
        for (Method method : LeanedBars.class.getDeclaredMethods()) {
            boolean hidden = Modifier.isPrivate(method.getModifiers());
            holdsTrue(!hidden || !publicNames.contains(method.getName()), "1: a name of its own: " + method);
        }
        for (Field field : LeanedBars.class.getDeclaredFields()) {
            boolean isPublic = Modifier.isPublic(field.getModifiers());
            holdsTrue(isPublic || Modifier.isPrivate(field.getModifiers()), "1: private or public: " + field);
            holdsTrue(isPublic == CONSTANTS.contains(field.getName()), "1: of the face: " + field);
        }
        Constructor<?>[] made = LeanedBars.class.getDeclaredConstructors();
        holdsTrue(made.length == 1 && Modifier.isPublic(made[0].getModifiers()), "1: one public constructor");
        holdsTrue(Modifier.isFinal(LeanedBars.class.getModifiers()), "1: a final class");
    }

    private static String signature(Method method) {
        StringBuilder text = new StringBuilder(method.getReturnType() + " " + method.getName() + "(");
        for (Class<?> type : method.getParameterTypes()) {
            text.append(text.charAt(text.length() - 1) == '(' ? "" : ",").append(type);
        }
        return text.append(")").toString();
    }

    private static void classesInside() {
        Class<?>[] inside = LeanedBars.class.getDeclaredClasses();
        holdsTrue(inside.length < 12, "11: some twelve classes");
        countFields(LeanedBars.class);
        for (Class<?> one : inside) {
            int modifiers = one.getModifiers();
            holdsTrue(Modifier.isStatic(modifiers) && !Modifier.isPublic(modifiers), "1: static inside: " + one);
            countFields(one);
            for (Method method : one.getDeclaredMethods()) {
                holdsTrue(method.getParameterCount() <= 7, "11: seven parameters: " + method);
            }
        }
    }

    private static void countFields(Class<?> one) {
        int fields = 0;
        for (Field field : one.getDeclaredFields()) {
            boolean isStatic = Modifier.isStatic(field.getModifiers());
            fields += isStatic ? 0 : 1;
            holdsTrue(!isStatic || Modifier.isFinal(field.getModifiers()), "5: final: " + field);
        }
        holdsTrue(fields <= 20, "11: twenty fields: " + one);
    }

    private static void source() throws IOException {
        Path path = Path.of("src/main/java/LeanedBars.java");
        String all = new String(Files.readAllBytes(path), StandardCharsets.ISO_8859_1);
        holdsTrue(all.chars().allMatch(sign -> sign == '\n' || sign >= ' ' && sign < 127), "4: plain signs");
        String code = all.replaceAll("(?s)/\\*.*?\\*/", "").replaceAll("//[^\n]*", "");
        String[] never = {"\\bthrow\\b", "\\btry\\b", "\\bcatch\\b", "\\bassert\\b", "\\bsynchronized\\b", "->", "::",
            "Exact\\(", "\\bSystem\\.(?!arraycopy)", "\\bThread\\b", "\\bpackage\\b", "\\bequals\\(", "\\bhashCode\\b",
            "\\btoString\\b", "\" *\\+", "\\+ *\"", "static *\\{", "\\bprotected\\b", "\\bimport (?!java\\.util\\.Arrays;)"};
        for (String pattern : never) {
            Matcher found = Pattern.compile(pattern).matcher(code);
            holdsTrue(!found.find(), "not in the source: " + pattern);
        }
        callsGoEightDeep(code);
        onlyPrivateStaticOnesCallThemselves(code);
        String[] lines = all.split("\n");
        int begun = -1;
        for (int i = 0; i < lines.length; i++) {
            holdsTrue(lines[i].length() <= 120, "a line too long: " + (i + 1));
            boolean opens = lines[i].matches(" {4}( {4})?(public |private |static )*[\\w\\[\\]]+( \\w+)?\\(.*\\{");
            begun = opens ? i : begun;
            boolean closes = begun >= 0 && lines[i].equals(" ".repeat(indent(lines[begun])) + "}");
            holdsTrue(!closes || i - begun < 60, "11: a method too long, line " + (begun + 1));
            begun = closes ? -1 : begun;
            boolean field = lines[i].matches(" +(private )?final .*= new .*;");
            boolean inMaker = begun >= 0 && lines[begun].contains("public LeanedBars()");
            holdsTrue(!lines[i].matches(".*\\bnew [A-Z(a-z].*\\(?.*;") || field || inMaker,
                "objects are made in the constructor alone, line " + (i + 1));
        }
    }

    private static Matcher headIn(String line) {
        return Pattern.compile(" {4}(?: {4})?(?:public |private |static )*[\\w\\[\\]]+ (\\w+)\\(.*\\{").matcher(line);
    }

    /** What each method calls, by names alone. */
    private static Map<String, Set<String>> callsIn(String code) {
        Map<String, Set<String>> calls = new TreeMap<>();
        Set<String> own = null;
        for (String line : code.split("\n")) {
            Matcher head = headIn(line);
            if (head.matches()) {
                own = calls.computeIfAbsent(head.group(1), name -> new TreeSet<>());
            } else if (own != null) {
                Matcher call = Pattern.compile("\\b(\\w+)\\(").matcher(line);
                while (call.find()) {
                    own.add(call.group(1));
                }
            }
        }
        holdsTrue(calls.size() > 60, "the methods were found: " + calls.keySet());
        return calls;
    }

    /** One that calls itself bears the limit in its own lines; a ring of several would hide it. */
    private static void onlyPrivateStaticOnesCallThemselves(String code) {
        Map<String, Set<String>> calls = callsIn(code);
        Set<String> free = new TreeSet<>();
        for (String line : code.split("\n")) {
            Matcher head = headIn(line);
            if (head.matches() && !line.strip().startsWith("private static ")) {
                free.add(head.group(1));
            }
        }
        for (String name : calls.keySet()) {
            for (String next : calls.get(name)) {
                boolean again = next.equals(name) ? free.contains(name) : reaches(next, name, calls, new TreeSet<>());
                holdsTrue(!again, "8: a private static method that calls itself, no other: " + name + " by " + next);
            }
        }
    }

    private static boolean reaches(String from, String name, Map<String, Set<String>> calls, Set<String> been) {
        if (!calls.containsKey(from) || !been.add(from)) {
            return false;
        }
        for (String next : calls.get(from)) {
            if (next.equals(name) || reaches(next, name, calls, been)) {
                return true;
            }
        }
        return false;
    }

    /** Methods of one name are taken as one, so that it can only be deeper than it is. */
    private static void callsGoEightDeep(String code) {
        Map<String, Set<String>> calls = callsIn(code);
        for (String name : calls.keySet()) {
            int deep = depth(name, calls, new TreeSet<>());
            holdsTrue(deep <= 8, "11: calls that are no recursion go eight deep: " + name + " " + deep);
        }
    }

    private static int depth(String name, Map<String, Set<String>> calls, Set<String> open) {
        if (!calls.containsKey(name) || !open.add(name)) {
            return 0;
        }
        int deepest = 0;
        for (String next : calls.get(name)) {
            deepest = Math.max(deepest, depth(next, calls, open));
        }
        open.remove(name);
        return 1 + deepest;
    }

    private static int indent(String line) {
        return line.length() - line.stripLeading().length();
    }
}
