import java.util.Arrays;

/** One method a sentence of promises 1 to 5, with the boundary cases that it names. */
public final class StageBoundariesTest {
    private static final int[] BAD_LETTERS = {
        -1, -2, 256, 257, 256 + 65, 512, 65536, 65536 + 65, -256, -256 + 65, 1 << 30, Due.MIN, Due.MAX
    };
    private static final Object[] VALUES = {
        0, -1, Due.MIN, Due.MAX, Tuples.text(), Tuples.text(0), Tuples.repeated(255, 6)
    };

    public static void main(String[] args) {
        fieldsBelowOne();
        fieldsOneToFour();
        fieldsAboveFour();
        noEntries();
        stageAllNull();
        objectsAreApart();
        setNullMakesNull();
        setNullBadField();
        setNullAnswersZero();
        setIntMakesInt();
        setIntBadField();
        setIntBadType();
        setIntAnswersZero();
        setTextMakesEmptyText();
        setTextBadField();
        setTextBadType();
        setTextAnswersZero();
        appendAppends();
        appendBadField();
        appendToInt();
        appendToNull();
        appendBadChar();
        appendFull();
        appendTestsInOrder();
        appendAnswersLength();
        Due.end();
    }

    private static void dueFields(int asked, int fields) {
        String what = "fields " + asked + ": ";
        for (int f = 0; f < fields; f++) {
            OrderedKeys x = new OrderedKeys(asked, 0);
            Due.answer(what + "setInt(" + f + ", 1)", x.setInt(f, 1), 0);
            Due.answer(what + "add", x.add(1), 0);
            Due.answer(what + "intAt(0, " + f + ")", x.intAt(0, f), 1);
        }
        OrderedKeys x = new OrderedKeys(asked, 0);
        Due.answer(what + "setInt behind", x.setInt(fields, 1), OrderedKeys.BAD_FIELD);
        Due.answer(what + "setInt ahead", x.setInt(-1, 1), OrderedKeys.BAD_FIELD);
        x.add(1);
        Due.answer(what + "matching all fields", x.matching(fields), 1);
        Due.answer(what + "matching one more", x.matching(fields + 1), OrderedKeys.BAD_FIELD);
        Due.answer(what + "nullAt the last field", x.nullAt(0, fields - 1), true);
        Due.answer(what + "nullAt one more", x.nullAt(0, fields), false);
    }

    // Promise 1
    private static void fieldsBelowOne() {
        Due.sentence("1: fields is clamped into 1 to 4: below 1 becomes 1");
        for (int asked : new int[] {0, -1, -2, -4, -253, -65534, Due.MIN, Due.MIN + 2}) {
            dueFields(asked, 1);
        }
    }

    private static void fieldsOneToFour() {
        Due.sentence("1: fields is clamped into 1 to 4");
        for (int asked = 1; asked <= 4; asked++) {
            dueFields(asked, asked);
        }
    }

    private static void fieldsAboveFour() {
        Due.sentence("1: fields is clamped into 1 to 4: above 4 becomes 4");
        for (int asked : new int[] {5, 6, 8, 20, 256, 257, 65537, 1 << 30, Due.MAX}) {
            dueFields(asked, 4);
        }
    }

    private static void noEntries() {
        Due.sentence("1: No entries");
        for (int fields = 0; fields <= 5; fields++) {
            for (int schema : new int[] {0, 0x1111, -1}) {
                OrderedKeys x = new OrderedKeys(fields, schema);
                Due.answer("size()", x.size(), 0);
                Due.answer("tag(0)", x.tag(0), 0);
                Due.answer("nullAt(0, 0)", x.nullAt(0, 0), false);
                Due.answer("charAt(0, 0, 0)", x.charAt(0, 0, 0), OrderedKeys.NONE);
                Due.answer("below()", x.below(), 0);
                Due.answer("matching(0)", x.matching(0), 0);
                Due.answer("matching(1)", x.matching(1), 0);
                Due.answer("remove(0)", x.remove(0), OrderedKeys.NONE);
                Due.answer("load(0)", x.load(0), OrderedKeys.NONE);
                Due.answer("add", x.add(1), 0);
            }
        }
    }

    private static void stageAllNull() {
        Due.sentence("1: all fields of the stage are null");
        for (int flags = 0; flags < Due.ALL_FLAGS; flags++) {
            for (int fields = 1; fields <= 4; fields++) {
                OrderedKeys x = new OrderedKeys(fields, Tuples.schema(flags, flags, flags, flags));
                for (int f = 0; f < fields; f++) {
                    Due.answer("append(" + f + ", 0)", x.append(f, 0), OrderedKeys.BAD_TYPE);
                }
                x.add(1);
                Tuples.dueTuple(x, 0, new Object[fields]);
            }
        }
    }

    private static void objectsAreApart() {
        Due.sentence("1: A new object: nothing of another one");
        OrderedKeys x = new OrderedKeys(2, Due.TEXT);
        Tuples.add(x, 1, Tuples.text(1, 2), 3);
        OrderedKeys y = new OrderedKeys(1, 0);
        Due.answer("size() of the new one", y.size(), 0);
        Due.answer("add to the new one", y.add(9), 0);
        Due.answer("nullAt(0, 0) of the new one", y.nullAt(0, 0), true);
        y.setInt(0, 5);
        y.add(10);
        Tuples.dueTags(x, 1);
        Tuples.dueTuple(x, 0, Tuples.text(1, 2), 3);
        Due.answer("append to the old one", x.append(0, 9), 3);
        Due.answer("setInt(1, 4) on the old one", x.setInt(1, 4), 0);
    }

    private static int flagsFor(Object value) {
        return value instanceof int[] ? Due.TEXT : Due.INT;
    }

    // Promise 2
    private static void setNullMakesNull() {
        Due.sentence("2: The stage's field becomes null");
        for (Object value : VALUES) {
            int flags = flagsFor(value);
            for (int f = 0; f < 4; f++) {
                OrderedKeys x = new OrderedKeys(4, Tuples.schema(flags, flags, flags, flags));
                Tuples.stage(x, value, value, value, value);
                x.setNull(f);
                Due.answer("append to it", x.append(f, 1), OrderedKeys.BAD_TYPE);
                x.add(1);
                Object[] due = {value, value, value, value};
                due[f] = null;
                Tuples.dueTuple(x, 0, due);
            }
        }
    }

    private static void setNullBadField() {
        Due.sentence("2: setNull: BAD_FIELD");
        for (int fields = 1; fields <= 4; fields++) {
            for (int f : new int[] {-1, fields, fields + 1, 4, 1 << 30, Due.MIN, Due.MAX}) {
                OrderedKeys x = new OrderedKeys(fields, 0);
                x.setInt(0, 6);
                x.setInt(fields - 1, 7);
                Due.answer("setNull(" + f + ")", x.setNull(f), OrderedKeys.BAD_FIELD);
                x.add(1);
                Due.answer("intAt the last field", x.intAt(0, fields - 1), 7);
                Due.answer("nullAt(0, 0)", x.nullAt(0, 0), false);
            }
        }
    }

    private static void setNullAnswersZero() {
        Due.sentence("2: setNull: Else answers 0");
        for (int flags = 0; flags < Due.ALL_FLAGS; flags++) {
            OrderedKeys x = new OrderedKeys(4, Tuples.schema(flags, flags, flags, flags));
            for (int f = 0; f < 4; f++) {
                Due.answer("setNull(" + f + ") of null", x.setNull(f), 0);
                Tuples.stageField(x, f, (flags & Due.TEXT) != 0 ? Tuples.text(3) : (Object) 3);
                Due.answer("setNull(" + f + ") of a value", x.setNull(f), 0);
                Due.answer("setNull(" + f + ") again", x.setNull(f), 0);
            }
        }
    }

    // Promise 3
    private static void setIntMakesInt() {
        Due.sentence("3: The stage's field becomes this int");
        Object[] ints = {0, 1, -1, -5, Due.MIN, Due.MAX};
        for (Object before : new Object[] {null, 0, -1, Due.MIN, Due.MAX}) {
            for (Object value : ints) {
                for (int f = 0; f < 4; f++) {
                    OrderedKeys x = new OrderedKeys(4, 0);
                    Tuples.stage(x, before, before, before, before);
                    x.setInt(f, (Integer) value);
                    x.add(1);
                    Object[] due = {before, before, before, before};
                    due[f] = value;
                    Tuples.dueTuple(x, 0, due);
                }
            }
        }
    }

    private static void setIntBadField() {
        Due.sentence("3: setInt: BAD_FIELD");
        for (int fields = 1; fields <= 4; fields++) {
            for (int f : new int[] {-1, fields, fields + 1, 4, 1 << 30, Due.MIN, Due.MAX}) {
                OrderedKeys x = new OrderedKeys(fields, 0);
                Due.answer("setInt(" + f + ", 9)", x.setInt(f, 9), OrderedKeys.BAD_FIELD);
                x.add(1);
                Tuples.dueTuple(x, 0, new Object[fields]);
                OrderedKeys text = new OrderedKeys(fields, 0x1111);
                Due.answer("setInt(" + f + ", 9)", text.setInt(f, 9), OrderedKeys.BAD_FIELD);
            }
        }
    }

    private static void setIntBadType() {
        Due.sentence("3: setInt: it is a TEXT field: BAD_TYPE");
        for (int flags = Due.TEXT; flags < Due.ALL_FLAGS; flags += 2) {
            for (Object text : new Object[] {null, Tuples.text(), Tuples.repeated(7, 6)}) {
                for (int f = 0; f < 4; f++) {
                    OrderedKeys x = new OrderedKeys(4, flags << (4 * f));
                    Tuples.stageField(x, f, text);
                    Due.answer("setInt(" + f + ", 0)", x.setInt(f, 0), OrderedKeys.BAD_TYPE);
                    Due.answer("setInt(" + f + ", MAX)", x.setInt(f, Due.MAX), OrderedKeys.BAD_TYPE);
                    x.add(1);
                    Tuples.dueField(x, 0, f, text);
                }
            }
        }
    }

    private static void setIntAnswersZero() {
        Due.sentence("3: setInt: Else answers 0");
        for (int value : new int[] {0, 1, -1, -2, 255, Due.MIN, Due.MAX}) {
            OrderedKeys x = new OrderedKeys(4, 0xeca8);
            for (int f = 0; f < 4; f++) {
                Due.answer("setInt(" + f + ", " + value + ")", x.setInt(f, value), 0);
                Due.answer("setInt(" + f + ", " + value + ") again", x.setInt(f, value), 0);
            }
        }
    }

    // Promise 4
    private static void setTextMakesEmptyText() {
        Due.sentence("4: The stage's field becomes the empty text");
        Object[] texts = {null, Tuples.text(), Tuples.text(0), Tuples.repeated(255, 6)};
        for (Object before : texts) {
            for (int f = 0; f < 4; f++) {
                OrderedKeys x = new OrderedKeys(4, 0x1111);
                Tuples.stage(x, before, before, before, before);
                x.setText(f);
                x.add(1);
                Object[] due = {before, before, before, before};
                due[f] = Tuples.text();
                Tuples.dueTuple(x, 0, due);
                Due.answer("append to it", x.append(f, 0), 1);
            }
        }
    }

    private static void setTextBadField() {
        Due.sentence("4: setText: BAD_FIELD");
        for (int fields = 1; fields <= 4; fields++) {
            for (int f : new int[] {-1, fields, fields + 1, 4, 1 << 30, Due.MIN, Due.MAX}) {
                OrderedKeys x = new OrderedKeys(fields, 0x1111);
                Due.answer("setText(" + f + ")", x.setText(f), OrderedKeys.BAD_FIELD);
                x.add(1);
                Tuples.dueTuple(x, 0, new Object[fields]);
                OrderedKeys number = new OrderedKeys(fields, 0);
                Due.answer("setText(" + f + ")", number.setText(f), OrderedKeys.BAD_FIELD);
            }
        }
    }

    private static void setTextBadType() {
        Due.sentence("4: setText: it is an INT field: BAD_TYPE");
        for (int flags = Due.INT; flags < Due.ALL_FLAGS; flags += 2) {
            for (Object number : new Object[] {null, 0, Due.MIN}) {
                for (int f = 0; f < 4; f++) {
                    OrderedKeys x = new OrderedKeys(4, 0x1111 & ~(15 << (4 * f)) | flags << (4 * f));
                    Tuples.stageField(x, f, number);
                    Due.answer("setText(" + f + ")", x.setText(f), OrderedKeys.BAD_TYPE);
                    x.add(1);
                    Tuples.dueField(x, 0, f, number);
                }
            }
        }
    }

    private static void setTextAnswersZero() {
        Due.sentence("4: setText: Else answers 0");
        OrderedKeys x = new OrderedKeys(4, 0xfdb9);
        for (int f = 0; f < 4; f++) {
            Due.answer("setText(" + f + ") of null", x.setText(f), 0);
            Due.answer("setText(" + f + ") of the empty text", x.setText(f), 0);
            Tuples.stageField(x, f, Tuples.repeated(f, 6));
            Due.answer("setText(" + f + ") of six letters", x.setText(f), 0);
        }
    }

    // Promise 5
    private static void appendAppends() {
        Due.sentence("5: Appends a character to the text in the stage's field");
        int[] six = Tuples.repeated(200, 6);
        int[] letters = {0, 255, 0, 128, 127, 255};
        for (int f = 0; f < 4; f++) {
            OrderedKeys x = new OrderedKeys(4, 0x1111);
            Object[] due = {six, null, Tuples.text(), Tuples.text(3)};
            Tuples.stage(x, due);
            x.setText(f);
            for (int length = 1; length <= 6; length++) {
                x.append(f, letters[length - 1]);
                due[f] = Arrays.copyOf(letters, length);
                int position = x.add(length);
                Tuples.dueTuple(x, position, due);
            }
        }
    }

    private static void appendBadField() {
        Due.sentence("5: append: BAD_FIELD");
        for (int fields = 1; fields <= 4; fields++) {
            for (int f : new int[] {-1, fields, fields + 1, 4, 1 << 30, Due.MIN, Due.MAX}) {
                OrderedKeys x = new OrderedKeys(fields, 0x1111);
                x.setText(fields - 1);
                Due.answer("append(" + f + ", 9)", x.append(f, 9), OrderedKeys.BAD_FIELD);
                x.add(1);
                Tuples.dueField(x, 0, fields - 1, Tuples.text());
            }
        }
    }

    private static void appendToInt() {
        Due.sentence("5: append: it is an INT field: BAD_TYPE");
        for (int flags = Due.INT; flags < Due.ALL_FLAGS; flags += 2) {
            for (Object number : new Object[] {null, 0, 7, Due.MIN, Due.MAX}) {
                for (int c : new int[] {0, 65, 255}) {
                    OrderedKeys x = new OrderedKeys(2, Tuples.schema(flags, Due.TEXT));
                    Tuples.stage(x, number, Tuples.text(1));
                    Due.answer("append(0, " + c + ")", x.append(0, c), OrderedKeys.BAD_TYPE);
                    x.add(1);
                    Tuples.dueTuple(x, 0, number, Tuples.text(1));
                }
            }
        }
    }

    private static void appendToNull() {
        Due.sentence("5: append: or it is null: BAD_TYPE");
        for (int flags = Due.TEXT; flags < Due.ALL_FLAGS; flags += 2) {
            OrderedKeys x = new OrderedKeys(1, flags);
            Due.answer("append to a new stage", x.append(0, 65), OrderedKeys.BAD_TYPE);
            x.add(1);
            for (int[] text : new int[][] {{}, {1}, {1, 2, 3, 4, 5, 6}}) {
                Tuples.stage(x, text);
                x.setNull(0);
                Due.answer("append after setNull", x.append(0, 65), OrderedKeys.BAD_TYPE);
                Tuples.stage(x, text);
                Due.answer("load(0)", x.load(0), 1);
                Due.answer("append to a loaded null", x.append(0, 65), OrderedKeys.BAD_TYPE);
            }
            x.add(2);
            Tuples.dueTuple(x, 1, (Object) null);
        }
    }

    private static void appendBadChar() {
        Due.sentence("5: append: c not in 0 to 255: BAD_CHAR");
        for (int length = 0; length < 6; length++) {
            int[] text = Tuples.repeated(9, length);
            for (int c : BAD_LETTERS) {
                OrderedKeys x = new OrderedKeys(1, Due.TEXT);
                Tuples.stage(x, text);
                Due.answer("append(0, " + c + ")", x.append(0, c), OrderedKeys.BAD_CHAR);
                x.add(1);
                Tuples.dueTuple(x, 0, text);
            }
            for (int c : new int[] {0, 255}) {
                OrderedKeys x = new OrderedKeys(1, Due.TEXT);
                Tuples.stage(x, text);
                Due.answer("append(0, " + c + ")", x.append(0, c), length + 1);
            }
        }
    }

    private static void appendFull() {
        Due.sentence("5: append: the text has six characters: FULL");
        for (int letter : new int[] {0, 1, 255}) {
            int[] six = Tuples.repeated(letter, 6);
            for (int f = 0; f < 4; f++) {
                OrderedKeys x = new OrderedKeys(4, 0x1111);
                Tuples.stageField(x, f, six);
                for (int c : new int[] {0, 65, 255}) {
                    Due.answer("append(" + f + ", " + c + ")", x.append(f, c), OrderedKeys.FULL);
                }
                x.add(1);
                Tuples.dueField(x, 0, f, six);
                x.setNull(f);
                x.load(0);
                Due.answer("append to six loaded", x.append(f, 0), OrderedKeys.FULL);
                x.setText(f);
                Due.answer("append after setText", x.append(f, 0), 1);
            }
        }
    }

    private static void appendTestsInOrder() {
        Due.sentence("5: append: BAD_FIELD, BAD_TYPE, BAD_CHAR, FULL in this order");
        OrderedKeys x = new OrderedKeys(3, Tuples.schema(Due.TEXT, Due.INT, Due.TEXT));
        Tuples.stage(x, Tuples.repeated(0, 6), 4, null);
        for (int c : BAD_LETTERS) {
            Due.answer("bad field, bad char", x.append(3, c), OrderedKeys.BAD_FIELD);
            Due.answer("bad field, bad char", x.append(-1, c), OrderedKeys.BAD_FIELD);
            Due.answer("INT, bad char", x.append(1, c), OrderedKeys.BAD_TYPE);
            Due.answer("null, bad char", x.append(2, c), OrderedKeys.BAD_TYPE);
            Due.answer("six letters, bad char", x.append(0, c), OrderedKeys.BAD_CHAR);
        }
        Due.answer("six letters", x.append(0, 0), OrderedKeys.FULL);
    }

    private static void appendAnswersLength() {
        Due.sentence("5: append: Else answers its length");
        for (int c : new int[] {0, 1, 254, 255}) {
            OrderedKeys x = new OrderedKeys(2, 0x11);
            x.setText(0);
            x.setText(1);
            for (int length = 1; length <= 6; length++) {
                Due.answer("append(0, " + c + ")", x.append(0, c), length);
                x.append(0, 256);
                Due.answer("append(1, " + (255 - c) + ")", x.append(1, 255 - c), length);
            }
        }
    }
}
