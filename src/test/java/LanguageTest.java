import java.io.IOException;
import java.lang.reflect.Constructor;
import java.lang.reflect.Field;
import java.lang.reflect.Method;
import java.lang.reflect.Modifier;
import java.nio.file.Files;
import java.nio.file.Path;
import java.util.Set;
import java.util.TreeSet;
import java.util.regex.Matcher;
import java.util.regex.Pattern;

/** The public face of the document, and the rules of LANGUAGE.md that can be seen from outside. */
public final class LanguageTest {
    private static final Path SOURCE = Path.of("src/main/java/ShardedMap.java");
    private static final Set<String> METHODS = new TreeSet<>(Set.of(
        "public int put(int,int,int,int)", "public int addTo(int,int,int,int)", "public int remove(int,int,int)",
        "public int get(int)", "public boolean has(int)", "public int size(int)", "public int lastFrom(int)",
        "public int assign(int,int)", "public int home(int)", "public void work(int)", "public void lose(int)"));
    private static final Set<String> TYPES = Set.of("int", "long", "short", "byte", "char", "boolean",
        "int[]", "long[]", "short[]", "byte[]", "char[]", "boolean[]");
    private static final String BANNED = "import|package|throw|throws|try|catch|finally|synchronized|assert|instanceof"
        + "|null|interface|enum|record|protected|float|double|String|Math|Integer|Long|System|Arrays|Object|var|volatile"
        + "|equals|hashCode|toString|getClass|clone|notify|notifyAll|wait";

    public static void main(String[] args) throws IOException {
        classItself();
        methods();
        fields();
        text();
        noCallThrows();
        Due.end();
    }

    private static void classItself() {
        Class<?> type = ShardedMap.class;
        Due.is("public and final alone", type.getModifiers(), Modifier.PUBLIC | Modifier.FINAL);
        Due.is("extends Object", type.getSuperclass() == Object.class, true);
        Due.is("interfaces", type.getInterfaces().length, 0);
        Due.is("nested classes", type.getDeclaredClasses().length, 0);
        Constructor<?>[] constructors = type.getDeclaredConstructors();
        Due.is("constructors", constructors.length, 1);
        Due.is("constructor is public", constructors[0].getModifiers(), Modifier.PUBLIC);
        Due.is("constructor's parameters", constructors[0].getParameterCount(), 0);
    }

    private static void methods() {
        Set<String> seen = new TreeSet<>();
        Set<String> open = new TreeSet<>();
        Set<String> hidden = new TreeSet<>();
        for (Method method : ShardedMap.class.getDeclaredMethods()) {
            Due.is(method + " has at most seven parameters", method.getParameterCount() <= 7, true);
            if (Modifier.isPrivate(method.getModifiers())) {
                hidden.add(method.getName());
            } else {
                open.add(method.getName());
                seen.add(method.toString().replace("ShardedMap.", ""));
            }
        }
        Due.is("methods " + seen + " are the document's", seen.equals(METHODS), true);
        hidden.retainAll(open);
        Due.is("private methods with a public name " + hidden, hidden.size(), 0);
    }

    private static void fields() {
        int ofObject = 0;
        for (Field field : ShardedMap.class.getDeclaredFields()) {
            int modifiers = field.getModifiers();
            String name = field.getName();
            boolean ofFace = name.equals("OLD") || name.equals("BAD");
            Due.is(name + " is public", Modifier.isPublic(modifiers), ofFace);
            Due.is(name + " is private", Modifier.isPrivate(modifiers), !ofFace);
            Due.is(name + " has a type that is left", TYPES.contains(field.getType().getCanonicalName()), true);
            if (Modifier.isStatic(modifiers)) {
                Due.is(name + " is final", Modifier.isFinal(modifiers), true);
                Due.is(name + " is int or long", field.getType() == int.class || field.getType() == long.class, true);
            } else {
                ofObject++;
            }
        }
        Due.is("some forty fields", ofObject <= 40, true);
    }

    private static void text() throws IOException {
        String code = Files.readString(SOURCE).replaceAll("(?s)/\\*.*?\\*/", " ").replaceAll("//[^\n]*", " ");
        Matcher banned = Pattern.compile("(?<!\\w)(?:" + BANNED + ")(?!\\w)|->|::|\"").matcher(code);
        while (banned.find()) {
            Due.is("the text holds " + banned.group(), true, false);
        }
        Matcher made = Pattern.compile("\\bnew\\b").matcher(code);
        Matcher inField = Pattern.compile("private final \\w+\\[\\] \\w+ = new \\w+\\[\\w+\\];").matcher(code);
        Due.is("arrays made elsewhere than in a field", made.results().count(), inField.results().count());
    }

    /** Rule 7 holds after the 512th call too, where the answers are free. */
    private static void noCallThrows() {
        ShardedMap map = new ShardedMap();
        int[] any = {Integer.MIN_VALUE, -9, -1, 0, 1, 3, 4, 7, 8, 20, 31, 32, Integer.MAX_VALUE};
        for (int round = 0; round < 2000; round++) {
            int one = any[round % any.length];
            int two = any[round / 3 % any.length];
            int three = any[round / 7 % any.length];
            map.put(one, round, two, three);
            map.addTo(two, three, one, round);
            map.remove(three, two, one);
            map.get(one);
            map.has(two);
            map.size(three);
            map.lastFrom(one);
            map.assign(two, three);
            map.home(one);
            map.work(two);
            map.lose(three);
        }
    }
}
