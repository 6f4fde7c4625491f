/** One method a sentence of promises 9 to 15, with the boundary cases that it names. */
public final class QuestionsBoundariesTest {
    // Among them those that would reach a cell of another entry, or wrap around to one.
    private static final int[] BAD_FIELDS = {
        -1, -2, -4, -8, 4, 5, 8, 12, 76, 80, 83, 84, 1 << 28, 1 << 30, -(1 << 30), Due.MIN, Due.MAX
    };
    private static final int[] BAD_POSITIONS = {
        -1, -2, -20, 3, 4, 19, 20, 21, 1 << 28, 1 << 30, -(1 << 30), Due.MIN, Due.MAX
    };

    public static void main(String[] args) {
        size();
        sizeAfterRefusedCalls();
        tag();
        tagOfNone();
        belowNothing();
        belowCountsSmaller();
        belowDoesNotCountEquals();
        belowAllTwenty();
        matchingPrefix();
        matchingPrefixZero();
        matchingAllFields();
        matchingBadField();
        intAt();
        intAtNoEntry();
        intAtNoField();
        intAtText();
        intAtNull();
        charAt();
        charAtNoEntry();
        charAtNoField();
        charAtNoCharacter();
        charAtInt();
        charAtNull();
        nullAt();
        nullAtNoEntry();
        nullAtNoField();
        Due.end();
    }

    /** Three entries of this value in each field, tags 1 to 3. */
    private static OrderedKeys three(int fields, int schema, Object value) {
        OrderedKeys x = new OrderedKeys(fields, schema);
        for (int f = 0; f < fields; f++) {
            Tuples.stageField(x, f, value);
        }
        for (int tag = 1; tag <= 3; tag++) {
            x.add(tag);
        }
        return x;
    }

    // Promise 9
    private static void size() {
        Due.sentence("9: How many entries there are");
        OrderedKeys x = new OrderedKeys(4, -1);
        for (int i = 0; i < Due.CAPACITY; i++) {
            Due.answer("size()", x.size(), i);
            x.add(i);
        }
        Due.answer("size()", x.size(), Due.CAPACITY);
        for (int i = Due.CAPACITY; i > 0; i--) {
            x.remove(i / 2);
            Due.answer("size()", x.size(), i - 1);
        }
    }

    private static void sizeAfterRefusedCalls() {
        Due.sentence("9: How many entries there are, after FULL and NONE");
        OrderedKeys x = new OrderedKeys(1, 0);
        x.remove(0);
        Due.answer("size()", x.size(), 0);
        x.load(0);
        Due.answer("size()", x.size(), 0);
        for (int i = 0; i < 2 * Due.CAPACITY; i++) {
            x.add(i);
            Due.answer("size()", x.size(), Math.min(i + 1, Due.CAPACITY));
        }
        x.remove(20);
        x.remove(-1);
        x.load(20);
        Due.answer("size()", x.size(), Due.CAPACITY);
        x.load(19);
        Due.answer("size()", x.size(), Due.CAPACITY);
    }

    // Promise 10
    private static void tag() {
        Due.sentence("10: The tag of the entry at this position");
        OrderedKeys x = new OrderedKeys(1, Due.DESCENDING);
        for (int i = 0; i < Due.CAPACITY; i++) {
            Tuples.add(x, i % 2 == 0 ? Due.MIN + i : Due.MAX - i, i);
        }
        for (int p = 0; p < Due.CAPACITY; p++) {
            int i = 19 - p;
            Due.answer("tag(" + p + ")", x.tag(p), i % 2 == 0 ? Due.MIN + i : Due.MAX - i);
        }
    }

    private static void tagOfNone() {
        Due.sentence("10: tag: 0 if there is none");
        for (int size = 0; size <= Due.CAPACITY; size++) {
            OrderedKeys x = new OrderedKeys(1, 0);
            Tuples.fill(x, size);
            for (int p = size; p < 25; p++) {
                Due.answer("tag(" + p + ") of " + size, x.tag(p), 0);
            }
            for (int p : new int[] {-1, -2, -20, 1 << 30, Due.MIN, Due.MAX}) {
                Due.answer("tag(" + p + ") of " + size, x.tag(p), 0);
            }
            if (size > 0) {
                x.remove(0);
                Due.answer("tag behind the last", x.tag(size - 1), 0);
            }
        }
    }

    // Promise 11
    private static void belowNothing() {
        Due.sentence("11: How many entries come before the stage's tuple: no entries");
        for (int flags = 0; flags < Due.ALL_FLAGS; flags++) {
            OrderedKeys x = new OrderedKeys(4, Tuples.schema(flags, flags, flags, flags));
            Due.answer("below()", x.below(), 0);
            x.add(1);
            x.remove(0);
            Due.answer("below() after a remove", x.below(), 0);
        }
    }

    private static void belowCountsSmaller() {
        Due.sentence("11: How many entries come before the stage's tuple: those whose tuple is smaller");
        for (int turned = 0; turned <= Due.DESCENDING; turned += Due.DESCENDING) {
            OrderedKeys x = new OrderedKeys(1, turned);
            for (int i = 0; i < Due.CAPACITY; i++) {
                Tuples.add(x, i, 2 * i);
            }
            for (int value = -1; value <= 39; value++) {
                x.setInt(0, value);
                int smaller = (value + 1) / 2;
                int greater = 19 - value / 2;
                int due = turned == 0 ? smaller : value < 0 ? Due.CAPACITY : greater;
                Due.answer("below(), stage " + value + ", flags " + turned, x.below(), due);
            }
        }
    }

    private static void belowDoesNotCountEquals() {
        Due.sentence("11: those whose tuple is smaller: not those that are equal");
        Object[] values = {null, 0, Due.MIN, Due.MAX};
        Object[] texts = {null, Tuples.text(), Tuples.repeated(0, 6), Tuples.repeated(255, 6)};
        for (int flags = 0; flags < Due.ALL_FLAGS; flags++) {
            int schema = Tuples.schema(flags, flags, flags, flags);
            for (Object value : (flags & Due.TEXT) != 0 ? texts : values) {
                OrderedKeys x = three(4, schema, value);
                Due.answer("below()", x.below(), 0);
                x.load(2);
                Due.answer("below() of the last", x.below(), 0);
            }
        }
    }

    private static void belowAllTwenty() {
        Due.sentence("11: How many entries come before the stage's tuple: none or all of twenty");
        for (int flags = 0; flags < Due.UNUSED; flags++) {
            boolean isText = (flags & Due.TEXT) != 0;
            boolean isFirst = (flags & Due.NULLS_FIRST) != 0;
            OrderedKeys x = new OrderedKeys(2, Tuples.schema(flags, flags));
            Object value = isText ? Tuples.text(5) : (Object) 5;
            Tuples.stage(x, value, value);
            for (int i = 0; i < Due.CAPACITY; i++) {
                x.add(i);
            }
            Tuples.stage(x, null, value);
            Due.answer("below(), null in field 0", x.below(), isFirst ? 0 : Due.CAPACITY);
            Tuples.stage(x, value, null);
            Due.answer("below(), null in field 1", x.below(), isFirst ? 0 : Due.CAPACITY);
        }
    }

    // Promise 12
    private static void matchingPrefix() {
        Due.sentence("12: How many entries have a tuple equal to the stage's in fields 0 to prefix - 1");
        Object[] tuple = {Due.MIN, Tuples.text(), null, Tuples.repeated(255, 6)};
        Object[] other = {Due.MAX, null, 0, Tuples.repeated(255, 5)};
        OrderedKeys x = new OrderedKeys(4, Tuples.schema(Due.INT, Due.TEXT, Due.INT, Due.TEXT));
        for (int bits = 0; bits < 16; bits++) {
            for (int f = 0; f < 4; f++) {
                Tuples.stageField(x, f, (bits >> f) % 2 == 0 ? tuple[f] : other[f]);
            }
            x.add(bits);
        }
        int[] due = {16, 8, 4, 2, 1};
        for (int prefix = 0; prefix <= 4; prefix++) {
            Tuples.stage(x, tuple);
            Due.answer("matching(" + prefix + ")", x.matching(prefix), due[prefix]);
            Tuples.stage(x, other);
            Due.answer("matching(" + prefix + ")", x.matching(prefix), due[prefix]);
        }
        // A difference in field 0 is not made good by the fields behind it.
        Tuples.stage(x, 0, tuple[1], tuple[2], tuple[3]);
        for (int prefix = 1; prefix <= 4; prefix++) {
            Due.answer("matching(" + prefix + ")", x.matching(prefix), 0);
        }
    }

    private static void matchingPrefixZero() {
        Due.sentence("12: matching: (prefix 0: all entries)");
        for (int fields = 1; fields <= 4; fields++) {
            OrderedKeys x = new OrderedKeys(fields, 0);
            for (int i = 0; i < Due.CAPACITY; i++) {
                Due.answer("matching(0)", x.matching(0), i);
                Tuples.add(x, i, i);
                x.setInt(0, -1);
            }
            Due.answer("matching(0)", x.matching(0), Due.CAPACITY);
            x.remove(0);
            Due.answer("matching(0)", x.matching(0), 19);
        }
    }

    private static void matchingAllFields() {
        Due.sentence("12: matching: prefix equal to fields");
        for (int fields = 1; fields <= 4; fields++) {
            OrderedKeys x = three(fields, 0, 7);
            Due.answer("matching(" + fields + ")", x.matching(fields), 3);
            x.setInt(fields - 1, 8);
            Due.answer("matching(" + fields + ")", x.matching(fields), 0);
            Due.answer("matching(" + (fields - 1) + ")", x.matching(fields - 1), 3);
            x.setNull(fields - 1);
            Due.answer("matching(" + fields + ")", x.matching(fields), 0);
        }
    }

    private static void matchingBadField() {
        Due.sentence("12: matching: prefix not in 0 to fields: BAD_FIELD");
        for (int fields = 1; fields <= 4; fields++) {
            OrderedKeys none = new OrderedKeys(fields, 0);
            OrderedKeys some = three(fields, 0, 7);
            for (int bad : new int[] {-1, -2, fields + 1, fields + 2, 5, 8, 1 << 30, Due.MIN, Due.MAX}) {
                Due.answer("matching(" + bad + ")", none.matching(bad), OrderedKeys.BAD_FIELD);
                Due.answer("matching(" + bad + ")", some.matching(bad), OrderedKeys.BAD_FIELD);
            }
        }
    }

    // Promise 13
    private static void intAt() {
        Due.sentence("13: The int in the field of the entry at this position");
        OrderedKeys x = new OrderedKeys(4, 0);
        for (int i = 0; i < Due.CAPACITY; i++) {
            Tuples.add(x, i, i, Due.MIN + i, Due.MAX - i, -i);
        }
        for (int p = 0; p < Due.CAPACITY; p++) {
            Due.answer("intAt(" + p + ", 0)", x.intAt(p, 0), p);
            Due.answer("intAt(" + p + ", 1)", x.intAt(p, 1), Due.MIN + p);
            Due.answer("intAt(" + p + ", 2)", x.intAt(p, 2), Due.MAX - p);
            Due.answer("intAt(" + p + ", 3)", x.intAt(p, 3), -p);
        }
    }

    private static void intAtNoEntry() {
        Due.sentence("13: intAt: 0 if there is no such entry");
        for (int fields = 1; fields <= 4; fields++) {
            OrderedKeys none = new OrderedKeys(fields, 0);
            none.setInt(0, 7);
            OrderedKeys some = three(fields, 0, 7);
            for (int f = 0; f < fields; f++) {
                Due.answer("intAt(0, " + f + ")", none.intAt(0, f), 0);
                for (int p : BAD_POSITIONS) {
                    Due.answer("intAt(" + p + ", " + f + ")", none.intAt(p, f), 0);
                    Due.answer("intAt(" + p + ", " + f + ")", some.intAt(p, f), 0);
                }
            }
            some.remove(1);
            Due.answer("intAt(2, 0) after a remove", some.intAt(2, 0), 0);
        }
    }

    private static void intAtNoField() {
        Due.sentence("13: intAt: 0 if there is no such field");
        for (int fields = 1; fields <= 4; fields++) {
            OrderedKeys x = three(fields, 0, 7);
            for (int p = 0; p < 3; p++) {
                Due.answer("intAt(" + p + ", " + fields + ")", x.intAt(p, fields), 0);
                for (int f : BAD_FIELDS) {
                    Due.answer("intAt(" + p + ", " + f + ")", x.intAt(p, f), 0);
                }
            }
        }
    }

    private static void intAtText() {
        Due.sentence("13: intAt: 0 if it is a TEXT field");
        for (int flags = Due.TEXT; flags < Due.ALL_FLAGS; flags += 2) {
            Object[] texts = {null, Tuples.text(), Tuples.text(0), Tuples.repeated(65, 6)};
            for (Object text : texts) {
                OrderedKeys x = three(4, Tuples.schema(flags, flags, flags, flags), text);
                for (int f = 0; f < 4; f++) {
                    Due.answer("intAt(1, " + f + ")", x.intAt(1, f), 0);
                }
            }
        }
    }

    private static void intAtNull() {
        Due.sentence("13: intAt: 0 if it is null");
        for (int value : new int[] {1, -1, Due.MIN, Due.MAX}) {
            for (int f = 0; f < 4; f++) {
                OrderedKeys x = three(4, 0, value);
                x.setNull(f);
                int p = x.add(4);
                Due.answer("intAt(" + p + ", " + f + ")", x.intAt(p, f), 0);
                Due.answer("intAt of the next field", x.intAt(p, (f + 1) % 4), value);
                Due.answer("intAt(0, " + f + ")", x.intAt(0, f), value);
            }
        }
    }

    // Promise 14
    private static void charAt() {
        Due.sentence("14: The character i of the text in the field of the entry at this position");
        for (int f = 0; f < 4; f++) {
            OrderedKeys x = new OrderedKeys(4, 0x1111);
            for (int p = 0; p < Due.CAPACITY; p++) {
                Tuples.stageField(x, f, Tuples.text(p, 255, 0, 128 + p, 127 - p, 255 - p));
                Due.answer("add", x.add(p), p);
            }
            for (int p = 0; p < Due.CAPACITY; p++) {
                int[] due = {p, 255, 0, 128 + p, 127 - p, 255 - p};
                for (int i = 0; i < 6; i++) {
                    String call = "charAt(" + p + ", " + f + ", " + i + ")";
                    Due.answer(call, x.charAt(p, f, i), due[i]);
                }
            }
        }
    }

    private static void charAtNoEntry() {
        Due.sentence("14: charAt: NONE if there is no such entry");
        for (int fields = 1; fields <= 4; fields++) {
            OrderedKeys none = new OrderedKeys(fields, 0x1111);
            Tuples.stage(none, Tuples.text(7));
            OrderedKeys some = three(fields, 0x1111, Tuples.text(7));
            for (int f = 0; f < fields; f++) {
                Due.answer("charAt(0, " + f + ", 0)", none.charAt(0, f, 0), OrderedKeys.NONE);
                for (int p : BAD_POSITIONS) {
                    String call = "charAt(" + p + ", " + f + ", 0)";
                    Due.answer(call, none.charAt(p, f, 0), OrderedKeys.NONE);
                    Due.answer(call, some.charAt(p, f, 0), OrderedKeys.NONE);
                }
            }
            some.remove(1);
            Due.answer("charAt(2, 0, 0) after a remove", some.charAt(2, 0, 0), OrderedKeys.NONE);
        }
    }

    private static void charAtNoField() {
        Due.sentence("14: charAt: NONE if there is no such field");
        for (int fields = 1; fields <= 4; fields++) {
            OrderedKeys x = three(fields, 0x1111, Tuples.text(7));
            for (int p = 0; p < 3; p++) {
                Due.answer("charAt one field behind", x.charAt(p, fields, 0), OrderedKeys.NONE);
                for (int f : BAD_FIELDS) {
                    String call = "charAt(" + p + ", " + f + ", 0)";
                    Due.answer(call, x.charAt(p, f, 0), OrderedKeys.NONE);
                }
            }
        }
    }

    private static void charAtNoCharacter() {
        Due.sentence("14: charAt: NONE if there is no such character");
        for (int length = 0; length <= 6; length++) {
            for (int letter : new int[] {0, 255}) {
                OrderedKeys x = three(1, Due.TEXT, Tuples.repeated(letter, length));
                for (int i = -80; i <= 80; i++) {
                    int due = i >= 0 && i < length ? letter : OrderedKeys.NONE;
                    Due.answer("charAt(1, 0, " + i + ")", x.charAt(1, 0, i), due);
                }
                for (int i : new int[] {1 << 16, 1 << 30, -(1 << 30), Due.MIN, Due.MIN + 5, Due.MAX}) {
                    Due.answer("charAt(1, 0, " + i + ")", x.charAt(1, 0, i), OrderedKeys.NONE);
                }
            }
        }
    }

    private static void charAtInt() {
        Due.sentence("14: charAt: NONE if it is an INT field");
        for (int flags = Due.INT; flags < Due.ALL_FLAGS; flags += 2) {
            for (Object number : new Object[] {null, 0, 1, 65, -1, Due.MIN, Due.MAX}) {
                OrderedKeys x = three(4, Tuples.schema(flags, flags, flags, flags), number);
                for (int f = 0; f < 4; f++) {
                    for (int i = -1; i <= 6; i++) {
                        String call = "charAt(1, " + f + ", " + i + ")";
                        Due.answer(call, x.charAt(1, f, i), OrderedKeys.NONE);
                    }
                }
            }
        }
    }

    private static void charAtNull() {
        Due.sentence("14: charAt: NONE if it is null");
        for (int f = 0; f < 4; f++) {
            OrderedKeys x = three(4, 0x1111, Tuples.repeated(65, 6));
            x.setNull(f);
            int p = x.add(4);
            for (int i = -1; i <= 6; i++) {
                Due.answer("charAt of null, " + i, x.charAt(p, f, i), OrderedKeys.NONE);
            }
            Due.answer("charAt of the next field", x.charAt(p, (f + 1) % 4, 5), 65);
            Due.answer("charAt of the entry before", x.charAt(0, f, 5), 65);
        }
    }

    // Promise 15
    private static void nullAt() {
        Due.sentence("15: Whether the field of the entry at this position is null");
        for (int f = 0; f < 4; f++) {
            for (int schema : new int[] {0, 0x1111}) {
                for (int p = 0; p < Due.CAPACITY; p++) {
                    OrderedKeys x = new OrderedKeys(4, schema);
                    for (int i = 0; i < Due.CAPACITY; i++) {
                        x.setNull(f);
                        if (i != p) {
                            Tuples.stageField(x, f, schema == 0 ? 0 : (Object) Tuples.text());
                        }
                        x.add(i);
                    }
                    // The only null is behind the others.
                    for (int i = 0; i < Due.CAPACITY; i++) {
                        Due.answer("nullAt(" + i + ", " + f + ")", x.nullAt(i, f), i == 19);
                    }
                    Due.answer("nullAt of the next field", x.nullAt(0, (f + 1) % 4), true);
                }
            }
        }
    }

    private static void nullAtNoEntry() {
        Due.sentence("15: nullAt: false if there is no such entry");
        for (int fields = 1; fields <= 4; fields++) {
            OrderedKeys none = new OrderedKeys(fields, 0);
            OrderedKeys some = three(fields, 0, null);
            for (int f = 0; f < fields; f++) {
                Due.answer("nullAt(0, " + f + ")", none.nullAt(0, f), false);
                for (int p : BAD_POSITIONS) {
                    Due.answer("nullAt(" + p + ", " + f + ")", none.nullAt(p, f), false);
                    Due.answer("nullAt(" + p + ", " + f + ")", some.nullAt(p, f), false);
                }
            }
            some.remove(1);
            Due.answer("nullAt(2, 0) after a remove", some.nullAt(2, 0), false);
        }
    }

    private static void nullAtNoField() {
        Due.sentence("15: nullAt: false if there is no such field");
        for (int fields = 1; fields <= 4; fields++) {
            OrderedKeys x = three(fields, 0, null);
            for (int p = 0; p < 3; p++) {
                Due.answer("nullAt(" + p + ", " + fields + ")", x.nullAt(p, fields), false);
                for (int f : BAD_FIELDS) {
                    Due.answer("nullAt(" + p + ", " + f + ")", x.nullAt(p, f), false);
                }
            }
        }
    }
}
