import java.io.IOException;
import java.lang.reflect.Constructor;
import java.lang.reflect.Field;
import java.lang.reflect.Method;
import java.lang.reflect.Modifier;
import java.nio.file.Files;
import java.nio.file.Path;
import java.util.Set;
import java.util.TreeSet;
import java.util.regex.Matcher;
import java.util.regex.Pattern;

/** What of LANGUAGE.md and of the public face can be read off the source and the compiled class. */
public final class LanguageTest {
    private static final String SOURCE = "src/main/java/UnderNurseToTheTemper.java";
    private static final String FACE = "row(int,int,int) set(int,int,long) copy(int,int,int,int,int) element(int,int)long "
        + "holds(int) show(int,int) says(int,int) keeper(int,int,int) nerve(int,int) tell(int,int) feed(int) wipe() "
        + "house() keeperOf(int,int) fright() stays(int) staying() after(int,int) bestNow(int) behind(int,int,int) "
        + "unkept(int,int) judge(int,int) best(int,int) rages(int,int,int) nerves(int,int,int,int) send(int,int) "
        + "settles(int) over(int,int) safest() odds(int,int) flees(int) needs(int) until(int,int) first(int,int) "
        + "meetings() byTurns(int,int) harms(int,int) starts() of(int) way(int,int,int) matters(int,int) "
        + "instead(int,int,int) better(int,int) still(int) calmFor(int) grown(int) brave(int) ofKind(int) order(int) "
        + "done(int,int) drawn(int) seed(int) image() back() status(int)";

    private static int wrong = 0;

    private static void hold(boolean isSo, String what) {
        if (!isSo) {
            wrong++;
            System.out.println(what);
        }
    }

    private static String signature(Method method) {
        StringBuilder text = new StringBuilder(method.getName()).append('(');
        for (Class<?> type : method.getParameterTypes()) {
            text.append(text.charAt(text.length() - 1) == '(' ? "" : ",").append(type.getName());
        }
        text.append(')');
        return text.append(method.getReturnType() == int.class ? "" : method.getReturnType().getName()).toString();
    }

    private static void checkFace(Class<?> type) {
        hold(Modifier.isPublic(type.getModifiers()) && Modifier.isFinal(type.getModifiers()), "public and final");
        Set<String> face = new TreeSet<>();
        Set<String> names = new TreeSet<>();
        for (Method method : type.getDeclaredMethods()) {
            if (Modifier.isPublic(method.getModifiers())) {
                face.add(signature(method));
                names.add(method.getName());
            }
        }
        hold(face.equals(new TreeSet<>(Set.of(FACE.split(" ")))), "the face is " + face);
        for (Method method : type.getDeclaredMethods()) {
            boolean isPrivate = Modifier.isPrivate(method.getModifiers());
            hold(isPrivate || Modifier.isPublic(method.getModifiers()), method + " is neither public nor private");
            hold(!isPrivate || !names.contains(method.getName()), method + " bears a public name");
            hold(method.getParameterCount() <= 7, method + " has too many parameters");
        }
        for (Field field : type.getDeclaredFields()) {
            boolean isNone = field.getName().equals("NONE");
            hold(Modifier.isPrivate(field.getModifiers()) != isNone, field + " is not as visible as it should be");
        }
        Constructor<?>[] made = type.getDeclaredConstructors();
        hold(made.length == 1 && made[0].getParameterCount() == 0 && Modifier.isPublic(made[0].getModifiers()), "constructor");
    }

    private static void checkInside(Class<?> type) {
        hold(type.getDeclaredClasses().length <= 12, "too many classes");
        for (Class<?> inside : type.getDeclaredClasses()) {
            hold(Modifier.isStatic(inside.getModifiers()), inside + " is not static");
            hold(!Modifier.isPublic(inside.getModifiers()), inside + " is public");
            for (Field field : inside.getDeclaredFields()) {
                boolean isStatic = Modifier.isStatic(field.getModifiers());
                hold(!isStatic || Modifier.isFinal(field.getModifiers()), field + " is static and not final");
            }
        }
    }

    private static void checkSource(String source) {
        String code = source.replaceAll("(?s)/\\*.*?\\*/", " ").replaceAll("//[^\n]*", " ");
        for (String word : new String[] {"throw", "throws", "try", "catch", "synchronized", "assert", "import", "package",
            "protected", "native", "volatile", "Object", "float", "double"}) {
            hold(!Pattern.compile("\\b" + word + "\\b").matcher(code).find(), "the word " + word);
        }
        hold(!code.contains("->") && !code.contains("::"), "a lambda, a reference or an arrow");
        hold(!Pattern.compile("\\w+Exact\\b").matcher(code).find(), "a function whose name ends in Exact");
        Matcher library = Pattern.compile("\\b(Math|Integer|Long|System|Arrays)\\.(\\w+)").matcher(code);
        Set<String> allowed = Set.of("max", "min", "arraycopy");
        while (library.find()) {
            hold(allowed.contains(library.group(2)), library.group() + " is not looked after here");
        }
        for (int i = 0; i < source.length(); i++) {
            hold(source.charAt(i) < 128, "a sign above 127 at " + i);
        }
    }

    private static void checkLengths(String source) {
        int start = 0;
        String[] lines = source.split("\n");
        for (int i = 0; i < lines.length; i++) {
            if (lines[i].matches("( {4}| {8})[a-zA-Z].*\\) \\{")) {
                start = i;
            }
            hold(!lines[i].matches("( {4}| {8})\\}") || i - start < 60 || lines[start].contains("class"),
                "a long method behind line " + (start + 1));
        }
    }

    public static void main(String[] args) throws IOException {
        checkFace(UnderNurseToTheTemper.class);
        checkInside(UnderNurseToTheTemper.class);
        String source = Files.readString(Path.of(SOURCE));
        checkSource(source);
        checkLengths(source);
        System.out.println(wrong == 0 ? "the language is kept" : wrong + " rules are broken");
        if (wrong != 0) {
            System.exit(1);
        }
    }
}
