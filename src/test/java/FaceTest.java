import java.lang.reflect.Constructor;
import java.lang.reflect.Field;
import java.lang.reflect.Member;
import java.lang.reflect.Method;
import java.lang.reflect.Modifier;
import java.util.Set;
import java.util.TreeSet;

/** The class has the public face of the document and nothing else that is not private. */
public final class FaceTest {
    private static final String[] FACE = {
        "public OrderedKeys(int,int)",
        "public boolean OrderedKeys.nullAt(int,int)",
        "public int OrderedKeys.add(int)",
        "public int OrderedKeys.append(int,int)",
        "public int OrderedKeys.below()",
        "public int OrderedKeys.charAt(int,int,int)",
        "public int OrderedKeys.intAt(int,int)",
        "public int OrderedKeys.load(int)",
        "public int OrderedKeys.matching(int)",
        "public int OrderedKeys.remove(int)",
        "public int OrderedKeys.setInt(int,int)",
        "public int OrderedKeys.setNull(int)",
        "public int OrderedKeys.setText(int)",
        "public int OrderedKeys.size()",
        "public int OrderedKeys.tag(int)",
        "public static final int OrderedKeys.BAD_CHAR = -4",
        "public static final int OrderedKeys.BAD_FIELD = -1",
        "public static final int OrderedKeys.BAD_TYPE = -2",
        "public static final int OrderedKeys.FULL = -3",
        "public static final int OrderedKeys.NONE = -5",
    };

    private static int wrong = 0;

    public static void main(String[] args) throws IllegalAccessException {
        Class<?> type = OrderedKeys.class;
        hold("the class is public and final",
                type.getModifiers() == (Modifier.PUBLIC | Modifier.FINAL));
        hold("the class extends nothing", type.getSuperclass() == Object.class);
        hold("the class implements nothing", type.getInterfaces().length == 0);
        hold("no nested class", type.getDeclaredClasses().length == 0);
        compare(new TreeSet<>(Set.of(FACE)), visible(type));
        privateMethodsHaveNamesOfTheirOwn(type);
        staticFieldsAreConstants(type);
        System.out.println(wrong == 0 ? "the face is as due" : wrong + " faults in the face");
        if (wrong != 0) {
            System.exit(1);
        }
    }

    private static void hold(String what, boolean holds) {
        if (!holds) {
            wrong++;
            System.out.println("does not hold: " + what);
        }
    }

    private static void compare(Set<String> due, Set<String> got) {
        for (String member : due) {
            hold("there is " + member, got.contains(member));
        }
        for (String member : got) {
            hold("there is no " + member, due.contains(member));
        }
    }

    private static Set<String> visible(Class<?> type) throws IllegalAccessException {
        Set<String> members = new TreeSet<>();
        for (Constructor<?> made : type.getDeclaredConstructors()) {
            note(members, made, made.toString());
        }
        for (Method method : type.getDeclaredMethods()) {
            note(members, method, method.toString());
        }
        for (Field field : type.getDeclaredFields()) {
            boolean constant = Modifier.isStatic(field.getModifiers())
                    && Modifier.isPublic(field.getModifiers());
            note(members, field, field + (constant ? " = " + field.getInt(null) : ""));
        }
        return members;
    }

    private static void note(Set<String> members, Member member, String text) {
        if (!Modifier.isPrivate(member.getModifiers())) {
            members.add(text);
        }
    }

    private static void privateMethodsHaveNamesOfTheirOwn(Class<?> type) {
        for (Method hidden : type.getDeclaredMethods()) {
            for (Method shown : type.getDeclaredMethods()) {
                hold("private " + hidden.getName() + " has a name of its own",
                        !Modifier.isPrivate(hidden.getModifiers())
                                || Modifier.isPrivate(shown.getModifiers())
                                || !hidden.getName().equals(shown.getName()));
            }
        }
    }

    private static void staticFieldsAreConstants(Class<?> type) {
        for (Field field : type.getDeclaredFields()) {
            boolean number = field.getType() == int.class || field.getType() == long.class;
            hold("static " + field.getName() + " is a constant number",
                    !Modifier.isStatic(field.getModifiers())
                            || number && Modifier.isFinal(field.getModifiers()));
        }
    }
}
