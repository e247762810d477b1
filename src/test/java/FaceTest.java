import java.io.IOException;
import java.lang.reflect.Constructor;
import java.lang.reflect.Field;
import java.lang.reflect.Member;
import java.lang.reflect.Method;
import java.lang.reflect.Modifier;
import java.nio.file.Files;
import java.nio.file.Path;
import java.util.ArrayList;
import java.util.List;
import java.util.TreeSet;

/** The face of the class is that of the document, and its source keeps to what can be seen of LANGUAGE.md. */
public final class FaceTest {
    private static final String[] METHODS = {
        "int append(int,int,int,int,int)",
        "int load(int) IllegalArgumentException",
        "int errorOffset()",
        "int state(int) IllegalArgumentException",
        "int player(int,int) IndexOutOfBoundsException IllegalArgumentException",
        "int card(int,int,int) IndexOutOfBoundsException NoSuchElementException IllegalArgumentException",
        "int bid(int,int) NoSuchElementException IllegalArgumentException",
        "int product()",
        "int productOf(int,int) IllegalArgumentException",
        "int multiply(int,int) IllegalArgumentException",
        "int inverse(int) IllegalArgumentException",
        "int order(int) IllegalArgumentException",
        "int reach(int) IndexOutOfBoundsException",
        "boolean reaches(int,int) IndexOutOfBoundsException IllegalArgumentException",
        "int generated(int) IndexOutOfBoundsException",
        "int fewest(int) IndexOutOfBoundsException",
        "int cheapest(int) IndexOutOfBoundsException",
        "int opening(int) IndexOutOfBoundsException",
        "int play(int) IllegalStateException NoSuchElementException",
        "int cancel(int,int) IllegalStateException NoSuchElementException",
        "int pass() IllegalStateException",
        "int give(int,int,int) IndexOutOfBoundsException IllegalArgumentException IllegalStateException",
        "int discard(int,int) IndexOutOfBoundsException NoSuchElementException",
        "int undo()",
        "long checksum()",
    };
    private static final String[] FORBIDDEN = {
        "catch", "finally", "->", "::", "synchronized", "assert ", "static {", "java.util.function",
        "System.out", "System.nano", "System.current", "Random", "Thread", ".equals(", "hashCode", "protected",
    };

    public static void main(String[] args) throws IOException {
        Check.due("SYNTAX_ERROR", -2, () -> GroupBids.SYNTAX_ERROR);
        Check.due("OUT_OF_RANGE", -3, () -> GroupBids.OUT_OF_RANGE);
        Check.due("TOO_MANY", -4, () -> GroupBids.TOO_MANY);
        Check.due("TOO_DEEP", -5, () -> GroupBids.TOO_DEEP);
        Check.due("the class", Modifier.PUBLIC | Modifier.FINAL, () -> GroupBids.class.getModifiers());
        Check.due("the methods", new TreeSet<>(List.of(METHODS)), FaceTest::publicMethods);
        Check.due("the constants", "[OUT_OF_RANGE, SYNTAX_ERROR, TOO_DEEP, TOO_MANY]", FaceTest::openFields);
        Check.due("the constructors", "[public GroupBids()]", FaceTest::constructors);
        Check.due("private methods with a public name", "[]", FaceTest::doubledNames);
        String source = Files.readString(Path.of("src/main/java/GroupBids.java"));
        for (String word : FORBIDDEN) {
            Check.due("the source has " + word, false, () -> source.contains(word));
        }
        Check.due("imports", "[import java.util.Arrays;, import java.util.NoSuchElementException;]",
                () -> source.lines().filter(line -> line.startsWith("import")).toList());
        Check.end();
    }

    private static TreeSet<String> publicMethods() {
        TreeSet<String> found = new TreeSet<>();
        for (Method method : GroupBids.class.getDeclaredMethods()) {
            if (isOpen(method)) {
                found.add(told(method));
            }
        }
        return found;
    }

    private static String told(Method method) {
        List<String> parameters = new ArrayList<>();
        for (Class<?> type : method.getParameterTypes()) {
            parameters.add(type.getName());
        }
        StringBuilder text = new StringBuilder(method.getReturnType() + " " + method.getName());
        text.append("(").append(String.join(",", parameters)).append(")");
        for (Class<?> type : method.getExceptionTypes()) {
            text.append(" ").append(type.getSimpleName());
        }
        return text.toString();
    }

    private static TreeSet<String> openFields() {
        TreeSet<String> found = new TreeSet<>();
        for (Field field : GroupBids.class.getDeclaredFields()) {
            if (isOpen(field)) {
                found.add(field.getName());
            }
        }
        return found;
    }

    private static TreeSet<String> constructors() {
        TreeSet<String> found = new TreeSet<>();
        for (Constructor<?> constructor : GroupBids.class.getDeclaredConstructors()) {
            found.add(constructor.toString());
        }
        return found;
    }

    private static TreeSet<String> doubledNames() {
        TreeSet<String> open = new TreeSet<>();
        TreeSet<String> hidden = new TreeSet<>();
        for (Method method : GroupBids.class.getDeclaredMethods()) {
            (isOpen(method) ? open : hidden).add(method.getName());
        }
        for (Class<?> inside : GroupBids.class.getDeclaredClasses()) {
            for (Method method : inside.getDeclaredMethods()) {
                hidden.add(method.getName());
            }
        }
        hidden.retainAll(open);
        return hidden;
    }

    private static boolean isOpen(Member member) {
        return !Modifier.isPrivate(member.getModifiers()) && !member.isSynthetic();
    }
}
