import java.util.Arrays;

/** Puts tuples into the stage and looks at those of entries. A value is null, an Integer or a text. */
final class Tuples {
    private static final int MAX_LETTERS = 6;

    private Tuples() {
    }

    static int[] text(int... letters) {
        return letters;
    }

    static int[] repeated(int letter, int length) {
        int[] letters = new int[length];
        Arrays.fill(letters, letter);
        return letters;
    }

    /** Field f has the flags at place f. */
    static int schema(int... flags) {
        int schema = 0;
        for (int f = 0; f < flags.length; f++) {
            schema |= flags[f] << (4 * f);
        }
        return schema;
    }

    static void stage(OrderedKeys x, Object... values) {
        for (int f = 0; f < values.length; f++) {
            stageField(x, f, values[f]);
        }
    }

    static void stageField(OrderedKeys x, int field, Object value) {
        if (value == null) {
            Due.answer("setNull(" + field + ")", x.setNull(field), 0);
        } else if (value instanceof Integer) {
            Due.answer("setInt(" + field + ", " + value + ")", x.setInt(field, (Integer) value), 0);
        } else {
            stageText(x, field, (int[]) value);
        }
    }

    private static void stageText(OrderedKeys x, int field, int[] letters) {
        Due.answer("setText(" + field + ")", x.setText(field), 0);
        for (int i = 0; i < letters.length; i++) {
            String call = "append(" + field + ", " + letters[i] + ")";
            Due.answer(call, x.append(field, letters[i]), i + 1);
        }
    }

    static int add(OrderedKeys x, int tag, Object... values) {
        stage(x, values);
        return x.add(tag);
    }

    /** Entries with the ints 0 to size - 1 in field 0, and tags 100 and up. */
    static void fill(OrderedKeys x, int size) {
        for (int i = 0; i < size; i++) {
            Due.answer("add " + i, add(x, 100 + i, i), i);
        }
    }

    static void dueTags(OrderedKeys x, int... tags) {
        Due.answer("size()", x.size(), tags.length);
        for (int i = 0; i < tags.length; i++) {
            Due.answer("tag(" + i + ")", x.tag(i), tags[i]);
        }
    }

    static void dueTuple(OrderedKeys x, int position, Object... values) {
        for (int f = 0; f < values.length; f++) {
            dueField(x, position, f, values[f]);
        }
    }

    static void dueField(OrderedKeys x, int position, int field, Object value) {
        String at = "(" + position + ", " + field + ")";
        int[] letters = value instanceof int[] ? (int[]) value : new int[0];
        int number = value instanceof Integer ? (Integer) value : 0;
        Due.answer("nullAt" + at, x.nullAt(position, field), value == null);
        Due.answer("intAt" + at, x.intAt(position, field), number);
        for (int i = 0; i <= MAX_LETTERS; i++) {
            int want = i < letters.length ? letters[i] : OrderedKeys.NONE;
            Due.answer("charAt" + at + " " + i, x.charAt(position, field, i), want);
        }
    }

    static String tell(Object value) {
        return value instanceof int[] ? Arrays.toString((int[]) value) : String.valueOf(value);
    }
}
