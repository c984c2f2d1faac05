import java.io.IOException;
import java.lang.reflect.Constructor;
import java.lang.reflect.Field;
import java.lang.reflect.Method;
import java.lang.reflect.Modifier;
import java.nio.file.Files;
import java.nio.file.Path;
import java.util.ArrayDeque;
import java.util.Deque;
import java.util.Map;
import java.util.Set;
import java.util.TreeMap;
import java.util.TreeSet;
import java.util.regex.Matcher;
import java.util.regex.Pattern;

/** What of LANGUAGE.md and of the public face can be read off the source and the compiled class. */
public final class LanguageTest {
    private static final String SOURCE = "src/main/java/UnderNurseToTheTemper.java";
    private static final String FACE = "row(int,int,int) set(int,int,long) copy(int,int,int,int,int) element(int,int)long "
        + "holds(int) show(int,int) says(int,int) keeper(int,int,int) nerve(int,int) tell(int,int) feed(int) wipe() "
        + "house() keeperOf(int,int) fright() stays(int) staying() after(int,int) bestNow(int) behind(int,int,int) "
        + "unkept(int,int) judge(int,int) best(int,int) rages(int,int,int) nerves(int,int,int,int) send(int,int) "
        + "settles(int) over(int,int) safest() odds(int,int) flees(int) needs(int) until(int,int) first(int,int) "
        + "meetings() byTurns(int,int) harms(int,int) starts() of(int) way(int,int,int) matters(int,int) "
        + "instead(int,int,int) better(int,int) still(int) calmFor(int) grown(int) brave(int) ofKind(int) order(int) "
        + "done(int,int) drawn(int) seed(int) image() back() status(int)";

    private static int wrong = 0;

    private static void hold(boolean isSo, String what) {
        if (!isSo) {
            wrong++;
            System.out.println(what);
        }
    }

    private static String signature(Method method) {
        StringBuilder text = new StringBuilder(method.getName()).append('(');
        for (Class<?> type : method.getParameterTypes()) {
            text.append(text.charAt(text.length() - 1) == '(' ? "" : ",").append(type.getName());
        }
        text.append(')');
        return text.append(method.getReturnType() == int.class ? "" : method.getReturnType().getName()).toString();
    }

    private static void checkFace(Class<?> type) {
        hold(Modifier.isPublic(type.getModifiers()) && Modifier.isFinal(type.getModifiers()), "public and final");
        Set<String> face = new TreeSet<>();
        Set<String> names = new TreeSet<>();
        for (Method method : type.getDeclaredMethods()) {
            if (Modifier.isPublic(method.getModifiers())) {
                face.add(signature(method));
                names.add(method.getName());
            }
        }
        hold(face.equals(new TreeSet<>(Set.of(FACE.split(" ")))), "the face is " + face);
        for (Method method : type.getDeclaredMethods()) {
            boolean isPrivate = Modifier.isPrivate(method.getModifiers());
            hold(isPrivate || Modifier.isPublic(method.getModifiers()), method + " is neither public nor private");
            hold(!isPrivate || !names.contains(method.getName()), method + " bears a public name");
            hold(method.getParameterCount() <= 7, method + " has too many parameters");
        }
        for (Field field : type.getDeclaredFields()) {
            boolean isNone = field.getName().equals("NONE");
            hold(Modifier.isPrivate(field.getModifiers()) != isNone, field + " is not as visible as it should be");
        }
        Constructor<?>[] made = type.getDeclaredConstructors();
        hold(made.length == 1 && made[0].getParameterCount() == 0 && Modifier.isPublic(made[0].getModifiers()), "constructor");
    }

    private static void checkInside(Class<?> type) {
        hold(type.getDeclaredClasses().length <= 12, "too many classes");
        for (Class<?> inside : type.getDeclaredClasses()) {
            hold(Modifier.isStatic(inside.getModifiers()), inside + " is not static");
            hold(!Modifier.isPublic(inside.getModifiers()), inside + " is public");
            for (Method method : inside.getDeclaredMethods()) {
                hold(!(" " + FACE).contains(" " + method.getName() + "("), method + " bears a public name");
                hold(method.getParameterCount() <= 7, method + " has too many parameters");
            }
            checkFields(inside);
        }
        checkFields(type);
    }

    private static void checkFields(Class<?> type) {
        Set<Class<?>> constants = Set.of(int.class, long.class, boolean.class, char.class, String.class, int[].class,
            long[].class, char[].class, byte[].class);
        int own = 0;
        for (Field field : type.getDeclaredFields()) {
            boolean isStatic = Modifier.isStatic(field.getModifiers());
            hold(!isStatic || Modifier.isFinal(field.getModifiers()), field + " is static and not final");
            hold(!isStatic || constants.contains(field.getType()), field + " may not be static");
            own += isStatic ? 0 : 1;
        }
        hold(own <= 20, type + " has " + own + " fields");
    }

    private static String codeOf(String source) {
        return source.replaceAll("(?s)/\\*.*?\\*/", " ").replaceAll("//[^\n]*", " ");
    }

    private static void checkSource(String source) {
        String code = codeOf(source);
        for (String word : new String[] {"throw", "throws", "try", "catch", "synchronized", "assert", "import", "package",
            "protected", "native", "volatile", "Object", "float", "double"}) {
            hold(!Pattern.compile("\\b" + word + "\\b").matcher(code).find(), "the word " + word);
        }
        hold(!code.contains("->") && !code.contains("::"), "a lambda, a reference or an arrow");
        hold(!Pattern.compile("\\w+Exact\\b").matcher(code).find(), "a function whose name ends in Exact");
        Matcher library = Pattern.compile("\\b(Math|Integer|Long|System|Arrays)\\.(\\w+)").matcher(code);
        Set<String> allowed = Set.of("max", "min", "arraycopy");
        while (library.find()) {
            hold(allowed.contains(library.group(2)), library.group() + " is not looked after here");
        }
        hold(!Pattern.compile("\"\\s*\\+|\\+\\s*\"").matcher(code).find(), "a text joined by +");
        for (int i = 0; i < source.length(); i++) {
            hold(source.charAt(i) < 128, "a sign above 127 at " + i);
        }
    }

    private static void checkLengths(String source) {
        int start = 0;
        String[] lines = source.split("\n");
        for (int i = 0; i < lines.length; i++) {
            if (lines[i].matches("( {4}| {8})[a-zA-Z].*\\) \\{")) {
                start = i;
            }
            hold(!lines[i].matches("( {4}| {8})\\}") || i - start < 60 || lines[start].contains("class"),
                "a long method behind line " + (start + 1));
        }
    }

    /** What a run makes is counted, so all is made with the object and nothing behind it. */
    private static void checkNothingIsMade(String code) {
        for (String line : code.split("\n")) {
            boolean isField = line.matches(" +(private )?final [\\w\\[\\]]+ \\w+ = .*;");
            hold(isField || !Pattern.compile("\\bnew\\b|\\bclone\\b|\\bcopyOf").matcher(line).find(), "made in a call: " + line.trim());
        }
    }

    // ---- who calls whom, by names alone: what two classes name alike counts as one ----

    private static Map<String, Set<String>> callsOf(String code) {
        Map<String, Set<String>> calls = new TreeMap<>();
        Matcher method = Pattern.compile("(?m)^( {4}| {8})(?:(?:public|private|static) )*[\\w\\[\\]]+ (\\w+)\\([^;{]*\\) \\{$"
            + "((?s:.*?))^\\1\\}$").matcher(code);
        while (method.find()) {
            Matcher call = Pattern.compile("(\\w+)\\(").matcher(method.group(3));
            Set<String> called = calls.computeIfAbsent(method.group(2), name -> new TreeSet<>());
            while (call.find()) {
                called.add(call.group(1));
            }
        }
        return calls;
    }

    /** How many calls stand open at most, with each method once on the way. */
    private static int depthOf(String name, Map<String, Set<String>> calls, Deque<String> open, Set<String> recursive) {
        if (open.contains(name)) {
            for (String other : open) {
                recursive.add(other);
                if (other.equals(name)) {
                    break;
                }
            }
            return 0;
        }
        open.push(name);
        int deepest = 0;
        for (String called : calls.get(name)) {
            deepest = calls.containsKey(called) ? Math.max(deepest, depthOf(called, calls, open, recursive)) : deepest;
        }
        open.pop();
        return deepest + 1;
    }

    private static void checkCalls(String code) {
        Map<String, Set<String>> calls = callsOf(code);
        hold(calls.size() > 100, "only " + calls.size() + " methods were found");
        Set<String> recursive = new TreeSet<>();
        for (String name : calls.keySet()) {
            int depth = depthOf(name, calls, new ArrayDeque<>(), recursive);
            hold(depth <= 8, name + " goes " + depth + " deep");
        }
        hold(recursive.equals(Set.of("explore", "exploreBy")), "these call one another: " + recursive);
    }

    public static void main(String[] args) throws IOException {
        checkFace(UnderNurseToTheTemper.class);
        checkInside(UnderNurseToTheTemper.class);
        String source = Files.readString(Path.of(SOURCE));
        checkSource(source);
        checkLengths(source);
        checkNothingIsMade(codeOf(source));
        checkCalls(codeOf(source));
        System.out.println(wrong == 0 ? "the language is kept" : wrong + " rules are broken");
        if (wrong != 0) {
            System.exit(1);
        }
    }
}
