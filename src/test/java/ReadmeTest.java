import java.io.IOException;
import java.lang.reflect.Method;
import java.lang.reflect.Modifier;
import java.nio.file.Files;
import java.nio.file.Path;
import java.util.Set;
import java.util.TreeSet;
import java.util.regex.Matcher;
import java.util.regex.Pattern;

/** The calls of the example in README.md have the answers that stand behind them. */
public final class ReadmeTest {
    private static final Pattern EXAMPLE = Pattern.compile("(?s)```java\n(.*?)```");
    private static final Pattern MAKE =
            Pattern.compile("OrderedKeys keys = new OrderedKeys\\((\\w+), (\\w+)\\);.*");
    private static final Pattern CALL =
            Pattern.compile("keys\\.(\\w+)\\((.*?)\\); +// (-?\\w+).*");

    private static final Set<String> called = new TreeSet<>();
    private static OrderedKeys keys = null;
    private static int wrong = 0;

    public static void main(String[] args) throws IOException, ReflectiveOperationException {
        Matcher example = EXAMPLE.matcher(Files.readString(Path.of("README.md")));
        if (!example.find()) {
            fault("README.md has no example");
        } else {
            for (String line : example.group(1).split("\n")) {
                follow(line);
            }
        }
        everyMethodIsCalled();
        System.out.println(wrong == 0 ? "the example is right" : wrong + " faults in the example");
        if (wrong != 0) {
            System.exit(1);
        }
    }

    private static void fault(String text) {
        wrong++;
        System.out.println(text);
    }

    private static void follow(String line) throws ReflectiveOperationException {
        Matcher make = MAKE.matcher(line);
        Matcher call = CALL.matcher(line);
        if (make.matches()) {
            keys = new OrderedKeys(number(make.group(1)), number(make.group(2)));
        } else if (call.matches()) {
            String got = answer(call.group(1), call.group(2));
            if (!got.equals(dueAnswer(call.group(3)))) {
                fault(line + "\nanswered " + got);
            }
        } else if (!line.isBlank()) {
            fault("not a call with its answer: " + line);
        }
    }

    private static int number(String text) {
        return text.startsWith("'") ? text.charAt(1) : Integer.decode(text);
    }

    private static String answer(String name, String arguments) throws ReflectiveOperationException {
        String[] texts = arguments.isEmpty() ? new String[0] : arguments.split(", ");
        Class<?>[] types = new Class<?>[texts.length];
        Object[] values = new Object[texts.length];
        for (int i = 0; i < texts.length; i++) {
            types[i] = int.class;
            values[i] = number(texts[i]);
        }
        called.add(name);
        return String.valueOf(OrderedKeys.class.getMethod(name, types).invoke(keys, values));
    }

    /** A constant's name stands for its number. */
    private static String dueAnswer(String text) throws ReflectiveOperationException {
        boolean isName = Character.isUpperCase(text.charAt(0));
        return isName ? String.valueOf(OrderedKeys.class.getField(text).getInt(null)) : text;
    }

    private static void everyMethodIsCalled() {
        for (Method method : OrderedKeys.class.getDeclaredMethods()) {
            if (Modifier.isPublic(method.getModifiers()) && !called.contains(method.getName())) {
                fault("the example does not call " + method.getName());
            }
        }
    }
}
