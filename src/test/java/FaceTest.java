import java.lang.reflect.Constructor;
import java.lang.reflect.Field;
import java.lang.reflect.Method;
import java.lang.reflect.Modifier;
import java.nio.file.Files;
import java.nio.file.Path;
import java.util.Arrays;
import java.util.Set;
import java.util.TreeSet;
import java.util.regex.Matcher;
import java.util.regex.Pattern;

/** The public face is that of the document, and the source keeps to what a text can show of LANGUAGE.md. */
public final class FaceTest {
    private static final String FACE =
            "again/0 as/2 back/2 becomes/3 check/1 cost/1 differ/3 explain/1 few/2 form/2 give/2 hush/0 keep/0 "
            + "law/1 lawAt/2 laws/1 led/1 loses/2 mark/2 match/3 meaning/0 order/2 places/1 put/1 result/1 roots/2 "
            + "say/1 set/5 some/2 sound/3 stand/3 step/1 swap/2 told/1 tongue/1";
    private static final String[] RULED_OUT = {
        "throw", "throws", "try", "catch", "synchronized", "assert", "->", "::", "package ", "%", "hashCode",
        "System\\.(?!arraycopy)", "Exact\\(", "equals\\(", "Thread", "Random", "\\bvar\\b", "@"
    };

    private static int wrong = 0;

    private static void due(boolean holds, String what) {
        if (!holds) {
            wrong++;
            System.out.println("not so: " + what);
        }
    }

    public static void main(String[] args) throws Exception {
        face();
        nested();
        source();
        System.out.println("face and language: " + wrong + " wrong");
        if (wrong != 0) {
            System.exit(1);
        }
    }

    private static void face() {
        Class<?> c = SoundDesk.class;
        due(Modifier.isPublic(c.getModifiers()) && Modifier.isFinal(c.getModifiers()), "public final class");
        Set<String> open = new TreeSet<>();
        for (Method m : c.getDeclaredMethods()) {
            if (Modifier.isPublic(m.getModifiers())) {
                open.add(m.getName() + "/" + m.getParameterCount());
                due(m.getReturnType() == int.class && !Modifier.isStatic(m.getModifiers()), m + " answers an int");
                due(Arrays.stream(m.getParameterTypes()).allMatch(p -> p == int.class), m + " takes ints");
            } else {
                due(Modifier.isPrivate(m.getModifiers()), m + " is public or private");
            }
        }
        due(String.join(" ", open).equals(FACE), "the methods are those of the document: " + open);
        for (Field f : c.getDeclaredFields()) {
            due(Modifier.isPrivate(f.getModifiers()), f + " is private");
            due(!Modifier.isStatic(f.getModifiers()) || Modifier.isFinal(f.getModifiers()), f + " is final");
        }
        Constructor<?>[] made = c.getDeclaredConstructors();
        due(made.length == 1 && made[0].getParameterCount() == 0 && Modifier.isPublic(made[0].getModifiers()),
                "one public constructor without arguments");
    }

    private static void nested() {
        Set<String> names = new TreeSet<>();
        for (String call : FACE.split(" ")) {
            names.add(call.substring(0, call.indexOf('/')));
        }
        Class<?>[] inside = SoundDesk.class.getDeclaredClasses();
        due(inside.length <= 11, "some twelve classes");
        for (Class<?> c : inside) {
            due(Modifier.isStatic(c.getModifiers()) && !Modifier.isPublic(c.getModifiers()), c + " is static and not public");
            int fields = 0;
            for (Field f : c.getDeclaredFields()) {
                due(!Modifier.isStatic(f.getModifiers()) || Modifier.isFinal(f.getModifiers()), f + " is final");
                fields += Modifier.isStatic(f.getModifiers()) ? 0 : 1;
                due(isOfNumbersIfArray(f.getType()), f + " is of numbers: the library copies no other arrays");
            }
            for (Constructor<?> made : c.getDeclaredConstructors()) {
                due(made.getParameterCount() == 0, made + " is handed nothing of an object that is being made");
            }
            due(fields <= 20, c + " has some twenty fields");
            for (Method m : c.getDeclaredMethods()) {
                due(!names.contains(m.getName()), m + " bears the name of a public one");
                due(m.getParameterCount() <= 7, m + " takes at most seven");
            }
        }
    }

    private static boolean isOfNumbersIfArray(Class<?> type) {
        if (!type.isArray()) {
            return true;
        }
        Class<?> part = type.getComponentType().isArray() ? type.getComponentType().getComponentType()
                : type.getComponentType();
        return part == int.class || part == long.class;
    }

    private static void source() throws Exception {
        String text = Files.readString(Path.of("src/main/java/SoundDesk.java"));
        String code = text.replaceAll("(?s)/\\*.*?\\*/", "").replaceAll("//[^\n]*", "");
        for (String word : RULED_OUT) {
            String pattern = Character.isLetter(word.charAt(0)) ? "\\b" + word : word;
            due(!Pattern.compile(pattern).matcher(code).find(), "no " + word);
        }
        Matcher imports = Pattern.compile("import ([^;]*);").matcher(code);
        while (imports.find()) {
            due(imports.group(1).equals("java.util.Arrays"), "no import of " + imports.group(1));
        }
        due(text.chars().allMatch(c -> c < 128), "plain characters");
    }
}
