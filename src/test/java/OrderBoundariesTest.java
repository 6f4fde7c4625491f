import java.util.Arrays;

/** One method a sentence under 'Terms' about ORDER, with the boundary cases that it names. */
public final class OrderBoundariesTest {
    private static final Object[] INTS = {
        Due.MIN, Due.MIN + 1, -65537, -65536, -257, -256, -129, -128, -127, -2, -1, 0, 1, 2,
        127, 128, 255, 256, 65535, 65536, Due.MAX - 1, Due.MAX
    };
    private static final Object[] TEXTS = {
        Tuples.text(), Tuples.text(0), Tuples.text(0, 0), Tuples.repeated(0, 5),
        Tuples.repeated(0, 6), Tuples.text(0, 0, 0, 0, 0, 255), Tuples.text(0, 1),
        Tuples.text(0, 255, 255), Tuples.text(1), Tuples.text(1, 0), Tuples.text(127),
        Tuples.text(127, 255), Tuples.text(128), Tuples.text(128, 0), Tuples.text(254, 255),
        Tuples.text(255), Tuples.text(255, 0), Tuples.repeated(255, 5),
        Tuples.text(255, 255, 255, 255, 255, 0), Tuples.repeated(255, 6)
    };

    public static void main(String[] args) {
        firstDifferenceDecides();
        firstDifferenceBehindNulls();
        intsBySignedValue();
        lettersOneByOne();
        beginningsBeforeLongerTexts();
        descendingTurnsRound();
        nullEqualsOnlyNull();
        nullForgetsWhatWasThere();
        nullsFirst();
        nullsBehind();
        equalTuplesByTime();
        equalTuplesAfterRemoves();
        equalTuplesAfterLoad();
        Due.end();
    }

    /** In a field with these flags the first value comes before the second, in whatever field. */
    private static void dueBefore(int flags, Object first, Object second) {
        for (int unused = 0; unused <= Due.UNUSED; unused += Due.UNUSED) {
            for (int f = 0; f < 4; f++) {
                dueBefore(f, (flags | unused) << (4 * f), first, second);
            }
        }
    }

    private static void dueBefore(int f, int schema, Object first, Object second) {
        String what = Tuples.tell(first) + " before " + Tuples.tell(second)
                + ", schema " + Integer.toHexString(schema) + ", field " + f + ": ";
        OrderedKeys x = new OrderedKeys(f + 1, schema);
        Tuples.stageField(x, f, first);
        Due.answer(what + "add the first", x.add(1), 0);
        Tuples.stageField(x, f, second);
        Due.answer(what + "matching the second", x.matching(f + 1), 0);
        Due.answer(what + "below the second", x.below(), 1);
        Due.answer(what + "add the second", x.add(2), 1);
        OrderedKeys y = new OrderedKeys(f + 1, schema);
        Tuples.stageField(y, f, second);
        Due.answer(what + "add the second", y.add(2), 0);
        Tuples.stageField(y, f, first);
        Due.answer(what + "matching the first", y.matching(f + 1), 0);
        Due.answer(what + "below the first", y.below(), 0);
        Due.answer(what + "add the first", y.add(1), 0);
        Tuples.dueTags(y, 1, 2);
    }

    private static void dueAscending(int flags, Object... values) {
        for (int i = 0; i < values.length; i++) {
            for (int j = i + 1; j < values.length; j++) {
                dueBefore(flags, values[i], values[j]);
            }
        }
    }

    private static void dueDescending(int flags, Object... values) {
        for (int i = 0; i < values.length; i++) {
            for (int j = i + 1; j < values.length; j++) {
                dueBefore(flags, values[j], values[i]);
            }
        }
    }

    private static void firstDifferenceDecides() {
        Due.sentence("the first field in which they differ decides");
        for (int turned = 0; turned < 16; turned++) {
            for (int at = 0; at < 4; at++) {
                firstDifferenceDecides(turned, at);
            }
        }
    }

    /** The fields behind the first difference all speak for the other order. */
    private static void firstDifferenceDecides(int turned, int at) {
        Object[] first = new Object[4];
        Object[] second = new Object[4];
        int schema = 0;
        for (int f = 0; f < 4; f++) {
            boolean isTurned = (turned >> f) % 2 != 0;
            boolean swapped = f > at;
            schema |= (isTurned ? Due.DESCENDING : 0) << (4 * f);
            first[f] = f < at ? Due.MIN : isTurned == swapped ? Due.MIN : Due.MAX;
            second[f] = f < at ? Due.MIN : isTurned == swapped ? Due.MAX : Due.MIN;
        }
        OrderedKeys x = new OrderedKeys(4, schema);
        Due.answer("add the second", Tuples.add(x, 2, second), 0);
        Tuples.stage(x, first);
        Due.answer("below the first", x.below(), 0);
        Due.answer("add the first", x.add(1), 0);
        Tuples.stage(x, second);
        Due.answer("below the second", x.below(), 1);
        for (int prefix = 0; prefix <= 4; prefix++) {
            Due.answer("matching(" + prefix + ")", x.matching(prefix), prefix <= at ? 2 : 1);
        }
        Tuples.dueTags(x, 1, 2);
    }

    private static void firstDifferenceBehindNulls() {
        Due.sentence("the first field in which they differ decides: behind equal nulls and texts");
        int schema = Tuples.schema(Due.NULLS_FIRST, Due.TEXT, Due.TEXT | Due.DESCENDING, Due.INT);
        int[] six = Tuples.repeated(255, 6);
        OrderedKeys x = new OrderedKeys(4, schema);
        Due.answer("add", Tuples.add(x, 5, null, Tuples.text(), six, Due.MAX), 0);
        Due.answer("add", Tuples.add(x, 4, null, Tuples.text(), six, Due.MIN), 0);
        Due.answer("add", Tuples.add(x, 6, null, Tuples.text(), six, null), 2);
        Due.answer("add", Tuples.add(x, 7, null, Tuples.text(), Tuples.repeated(255, 5), 0), 3);
        Due.answer("add", Tuples.add(x, 8, null, Tuples.text(0), six, Due.MIN), 4);
        Due.answer("add", Tuples.add(x, 9, Due.MIN, Tuples.text(), six, Due.MIN), 5);
        Tuples.dueTags(x, 4, 5, 6, 7, 8, 9);
    }

    private static void intsBySignedValue() {
        Due.sentence("smaller values come first: ints by their signed value");
        dueAscending(Due.INT, INTS);
        dueAscending(Due.INT | Due.NULLS_FIRST, INTS);
    }

    private static void lettersOneByOne() {
        Due.sentence("texts letter by letter, the smaller letter first");
        int[][] pairs = {{0, 1}, {0, 255}, {127, 128}, {128, 129}, {97, 98}, {254, 255}};
        for (int[] pair : pairs) {
            for (int place = 0; place < 6; place++) {
                for (int before : new int[] {0, 255}) {
                    // The letters behind the first difference speak for the other order.
                    int[] first = Tuples.repeated(255, 6);
                    Arrays.fill(first, 0, place, before);
                    first[place] = pair[0];
                    int[] second = Arrays.copyOf(first, place + 1);
                    second[place] = pair[1];
                    dueBefore(Due.TEXT, first, second);
                    dueBefore(Due.TEXT, first, Arrays.copyOf(second, 6));
                    dueBefore(Due.TEXT, Arrays.copyOf(first, place + 1), second);
                }
            }
        }
        dueAscending(Due.TEXT | Due.NULLS_FIRST, TEXTS);
    }

    private static void beginningsBeforeLongerTexts() {
        Due.sentence("a text that is the beginning of another one before it");
        for (int letter : new int[] {0, 1, 127, 128, 255}) {
            for (int longer = 1; longer <= 6; longer++) {
                for (int shorter = 0; shorter < longer; shorter++) {
                    int[] first = Tuples.repeated(letter, shorter);
                    dueBefore(Due.TEXT, first, Tuples.repeated(letter, longer));
                    dueBefore(Due.TEXT, first, Arrays.copyOf(first, longer));
                }
            }
        }
        dueAscending(Due.TEXT, TEXTS);
    }

    private static void descendingTurnsRound() {
        Due.sentence("In a DESCENDING field that is turned round");
        dueDescending(Due.DESCENDING, INTS);
        dueDescending(Due.DESCENDING | Due.NULLS_FIRST, INTS);
        dueDescending(Due.TEXT | Due.DESCENDING, TEXTS);
        dueDescending(Due.TEXT | Due.DESCENDING | Due.NULLS_FIRST, TEXTS);
    }

    private static Object[] valuesFor(int flags) {
        return (flags & Due.TEXT) != 0 ? TEXTS : INTS;
    }

    private static void nullEqualsOnlyNull() {
        Due.sentence("A null is equal only to a null");
        for (int flags = 0; flags < Due.ALL_FLAGS; flags++) {
            for (Object value : valuesFor(flags)) {
                OrderedKeys x = new OrderedKeys(1, flags);
                Tuples.add(x, 1, value);
                x.setNull(0);
                Due.answer("null matching " + Tuples.tell(value), x.matching(1), 0);
                x.add(2);
                Due.answer("null matching null", x.matching(1), 1);
                Tuples.stage(x, value);
                Due.answer(Tuples.tell(value) + " matching null", x.matching(1), 1);
            }
        }
    }

    private static void nullForgetsWhatWasThere() {
        Due.sentence("A null is equal only to a null: whatever was there before it");
        for (int flags = 0; flags < Due.ALL_FLAGS; flags++) {
            OrderedKeys x = new OrderedKeys(2, Tuples.schema(flags, flags));
            Due.answer("add", x.add(0), 0);
            int added = 1;
            for (Object value : Arrays.copyOf(valuesFor(flags), 18)) {
                Tuples.stage(x, value, value);
                Tuples.stage(x, null, null);
                Due.answer("below()", x.below(), 0);
                Due.answer("matching(2)", x.matching(2), added);
                Due.answer("add", x.add(added), added);
                added++;
            }
        }
    }

    private static void nullsFirst() {
        Due.sentence("a field with NULLS FIRST has nulls before all values, "
                + "whether it is descending or not");
        for (int flags = Due.NULLS_FIRST; flags < Due.UNUSED; flags++) {
            for (Object value : valuesFor(flags)) {
                dueBefore(flags, null, value);
            }
        }
    }

    private static void nullsBehind() {
        Due.sentence("else behind all values, whether it is descending or not");
        for (int flags = 0; flags < Due.NULLS_FIRST; flags++) {
            for (Object value : valuesFor(flags)) {
                dueBefore(flags, value, null);
            }
        }
    }

    private static void equalTuplesByTime() {
        Due.sentence("Equal tuples may occur more than once; they are ordered by the time they "
                + "were added, earlier first");
        for (int flags = 0; flags < Due.ALL_FLAGS; flags++) {
            Object[] values = valuesFor(flags);
            for (Object value : new Object[] {null, values[0], values[values.length - 1]}) {
                OrderedKeys x = new OrderedKeys(2, Tuples.schema(flags, flags));
                int[] tags = new int[Due.CAPACITY];
                for (int i = 0; i < Due.CAPACITY; i++) {
                    tags[i] = -i;
                    Due.answer("add " + i, Tuples.add(x, -i, value, value), i);
                }
                Tuples.dueTags(x, tags);
                Due.answer("below()", x.below(), 0);
                Due.answer("matching(2)", x.matching(2), Due.CAPACITY);
            }
        }
    }

    private static void equalTuplesAfterRemoves() {
        Due.sentence("ordered by the time they were added: removed ones make no room in between");
        for (int flags = 0; flags < Due.ALL_FLAGS; flags += 2) {
            OrderedKeys x = new OrderedKeys(1, flags);
            Tuples.add(x, 1, 0);
            Tuples.add(x, 2, 0);
            Tuples.add(x, 3, 0);
            Tuples.add(x, 4, 0);
            Due.answer("remove(0)", x.remove(0), 3);
            Due.answer("add", x.add(5), 3);
            Tuples.dueTags(x, 2, 3, 4, 5);
            Due.answer("remove(1)", x.remove(1), 3);
            Due.answer("add", x.add(6), 3);
            Tuples.dueTags(x, 2, 4, 5, 6);
            Due.answer("remove(3)", x.remove(3), 3);
            Due.answer("add", x.add(7), 3);
            Tuples.dueTags(x, 2, 4, 5, 7);
        }
    }

    private static void equalTuplesAfterLoad() {
        Due.sentence("ordered by the time they were added: a loaded tuple is added anew");
        OrderedKeys x = new OrderedKeys(1, Due.TEXT | Due.DESCENDING);
        Tuples.add(x, 1, Tuples.text(5));
        Tuples.add(x, 2, Tuples.text(5));
        Tuples.add(x, 3, Tuples.text(4));
        Tuples.add(x, 4, Tuples.text(6));
        Tuples.dueTags(x, 4, 1, 2, 3);
        Due.answer("load(1)", x.load(1), 1);
        Due.answer("add", x.add(5), 3);
        Due.answer("remove(1)", x.remove(1), 4);
        Due.answer("add", x.add(6), 3);
        Tuples.dueTags(x, 4, 2, 5, 6, 3);
    }
}
