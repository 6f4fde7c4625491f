/** One method a promise of the document: ordinary inputs, the edges it names, wrong inputs. */
public final class PromisesTest {
    private static final int MIN = Integer.MIN_VALUE;
    private static final int MAX = Integer.MAX_VALUE;
    private static final int INT = 0;
    private static final int TEXT = 1;
    private static final int DESCENDING = 2;
    private static final int NULLS_FIRST = 4;
    private static final int UNUSED = 8;
    private static final int CAPACITY = 20;

    private static int wrong = 0;

    public static void main(String[] args) {
        newObject();
        newObjectClampsFields();
        schema();
        setNull();
        setInt();
        setText();
        append();
        add();
        addOrdersInts();
        addOrdersTexts();
        addOrdersLongTexts();
        addOrdersByFirstDifference();
        addKeepsEqualTuplesByTime();
        addKeepsAllFieldsOfAllEntries();
        addWhenFull();
        remove();
        load();
        size();
        tag();
        below();
        matching();
        intAt();
        charAt();
        nullAt();
        System.out.println(wrong == 0 ? "all promises hold" : wrong + " wrong answers");
        if (wrong != 0) {
            System.exit(1);
        }
    }

    private static void due(String what, long got, long want) {
        if (got != want) {
            wrong++;
            System.out.println(what + " answered " + got + ", due is " + want);
        }
    }

    private static void due(String what, boolean got, boolean want) {
        due(what, got ? 1 : 0, want ? 1 : 0);
    }

    private static int schemaOf(int... flags) {
        int schema = 0;
        for (int f = 0; f < flags.length; f++) {
            schema |= flags[f] << (4 * f);
        }
        return schema;
    }

    private static void stageText(OrderedKeys x, int field, int... letters) {
        x.setText(field);
        for (int c : letters) {
            x.append(field, c);
        }
    }

    private static int addInt(OrderedKeys x, int value, int tag) {
        x.setInt(0, value);
        return x.add(tag);
    }

    private static int addText(OrderedKeys x, int tag, int... letters) {
        stageText(x, 0, letters);
        return x.add(tag);
    }

    private static void dueTags(String what, OrderedKeys x, int... tags) {
        due(what + ": size", x.size(), tags.length);
        for (int i = 0; i < tags.length; i++) {
            due(what + ": tag(" + i + ")", x.tag(i), tags[i]);
        }
    }

    private static void dueText(String what, OrderedKeys x, int position, int field, int... text) {
        due(what + ": nullAt", x.nullAt(position, field), false);
        for (int i = 0; i < 7; i++) {
            int want = i < text.length ? text[i] : OrderedKeys.NONE;
            due(what + ": charAt " + i, x.charAt(position, field, i), want);
        }
    }

    // Promise 1
    private static void newObject() {
        OrderedKeys x = new OrderedKeys(4, schemaOf(INT, TEXT, INT, TEXT));
        due("new: size", x.size(), 0);
        due("new: matching(4)", x.matching(4), 0);
        due("new: below", x.below(), 0);
        due("new: remove(0)", x.remove(0), OrderedKeys.NONE);
        due("new: append to null", x.append(1, 5), OrderedKeys.BAD_TYPE);
        due("new: add", x.add(7), 0);
        for (int f = 0; f < 4; f++) {
            due("new: stage null in " + f, x.nullAt(0, f), true);
        }
        OrderedKeys y = new OrderedKeys(4, 0);
        due("another object: size", y.size(), 0);
    }

    private static void newObjectClampsFields() {
        int[] asked = {MIN, -1, 0, 1, 2, 3, 4, 5, 6, MAX};
        int[] fields = {1, 1, 1, 1, 2, 3, 4, 4, 4, 4};
        for (int i = 0; i < asked.length; i++) {
            OrderedKeys x = new OrderedKeys(asked[i], 0);
            String what = "fields " + asked[i];
            due(what + ": last field", x.setInt(fields[i] - 1, 3), 0);
            due(what + ": field behind", x.setInt(fields[i], 3), OrderedKeys.BAD_FIELD);
            due(what + ": matching all", x.matching(fields[i]), 0);
            due(what + ": matching more", x.matching(fields[i] + 1), OrderedKeys.BAD_FIELD);
        }
    }

    // The schema, under Terms
    private static void schema() {
        for (int flags = 0; flags < 16; flags++) {
            for (int f = 0; f < 4; f++) {
                OrderedKeys x = new OrderedKeys(4, flags << (4 * f));
                boolean text = (flags & TEXT) != 0;
                String what = "flags " + flags + " in field " + f;
                due(what + ": setInt", x.setInt(f, 1), text ? OrderedKeys.BAD_TYPE : 0);
                due(what + ": setText", x.setText(f), text ? 0 : OrderedKeys.BAD_TYPE);
                due(what + ": next is INT", x.setInt((f + 1) % 4, 1), 0);
            }
        }
        OrderedKeys all = new OrderedKeys(4, -1);
        for (int f = 0; f < 4; f++) {
            due("schema -1: setText(" + f + ")", all.setText(f), 0);
        }
        OrderedKeys far = new OrderedKeys(4, 0xffff0000);
        for (int f = 0; f < 4; f++) {
            due("bits behind field 3: setInt(" + f + ")", far.setInt(f, 1), 0);
        }
    }

    // Promise 2
    private static void setNull() {
        OrderedKeys x = new OrderedKeys(2, schemaOf(INT, TEXT));
        x.setInt(0, 9);
        stageText(x, 1, 65);
        due("setNull(-1)", x.setNull(-1), OrderedKeys.BAD_FIELD);
        due("setNull(2)", x.setNull(2), OrderedKeys.BAD_FIELD);
        due("setNull(MIN)", x.setNull(MIN), OrderedKeys.BAD_FIELD);
        due("setNull(MAX)", x.setNull(MAX), OrderedKeys.BAD_FIELD);
        x.add(1);
        due("refused setNull: int", x.intAt(0, 0), 9);
        due("refused setNull: text", x.charAt(0, 1, 0), 65);
        due("setNull(0)", x.setNull(0), 0);
        due("add", x.add(2), 1);
        due("setNull: field 0", x.nullAt(1, 0), true);
        due("setNull: field 1 stays", x.charAt(1, 1, 0), 65);
        due("setNull(1)", x.setNull(1), 0);
        due("setNull(1) again", x.setNull(1), 0);
        due("append to null", x.append(1, 66), OrderedKeys.BAD_TYPE);
        due("add", x.add(3), 2);
        due("setNull: field 1", x.nullAt(2, 1), true);
        due("the entry stays", x.nullAt(0, 0), false);
    }

    // Promise 3
    private static void setInt() {
        OrderedKeys x = new OrderedKeys(2, schemaOf(INT, TEXT));
        stageText(x, 1, 65);
        due("setInt(-1, 1)", x.setInt(-1, 1), OrderedKeys.BAD_FIELD);
        due("setInt(2, 1)", x.setInt(2, 1), OrderedKeys.BAD_FIELD);
        due("setInt(MIN, 1)", x.setInt(MIN, 1), OrderedKeys.BAD_FIELD);
        due("setInt(MAX, 1)", x.setInt(MAX, 1), OrderedKeys.BAD_FIELD);
        due("setInt(1, 1)", x.setInt(1, 1), OrderedKeys.BAD_TYPE);
        x.add(0);
        due("refused setInt: field 0", x.nullAt(0, 0), true);
        dueText("refused setInt: field 1", x, 0, 1, 65);
        int[] values = {0, -1, 1, MIN, MAX, 256, -65536};
        for (int value : values) {
            OrderedKeys y = new OrderedKeys(1, INT);
            due("setInt(0, " + value + ")", y.setInt(0, value), 0);
            y.add(0);
            due("int " + value, y.intAt(0, 0), value);
            due("int " + value + " is not null", y.nullAt(0, 0), false);
        }
    }

    // Promise 4
    private static void setText() {
        OrderedKeys x = new OrderedKeys(2, schemaOf(INT, TEXT));
        x.setInt(0, 9);
        due("setText(-1)", x.setText(-1), OrderedKeys.BAD_FIELD);
        due("setText(2)", x.setText(2), OrderedKeys.BAD_FIELD);
        due("setText(MIN)", x.setText(MIN), OrderedKeys.BAD_FIELD);
        due("setText(MAX)", x.setText(MAX), OrderedKeys.BAD_FIELD);
        due("setText(0)", x.setText(0), OrderedKeys.BAD_TYPE);
        x.add(0);
        due("refused setText: field 0", x.intAt(0, 0), 9);
        due("refused setText: field 1", x.nullAt(0, 1), true);
        x.remove(0);
        due("setText(1)", x.setText(1), 0);
        x.add(1);
        dueText("empty text", x, 0, 1);
        x.remove(0);
        stageText(x, 1, 1, 2, 3, 4, 5, 6);
        due("setText(1) over a text", x.setText(1), 0);
        x.add(2);
        dueText("text made empty", x, 0, 1);
        due("append starts again", x.append(1, 9), 1);
    }

    // Promise 5
    private static void append() {
        OrderedKeys x = new OrderedKeys(2, schemaOf(TEXT, INT));
        int[] bad = {-1, 2, MIN, MAX};
        for (int field : bad) {
            due("append(" + field + ", 1)", x.append(field, 1), OrderedKeys.BAD_FIELD);
            due("append(" + field + ", 256)", x.append(field, 256), OrderedKeys.BAD_FIELD);
        }
        due("append to INT null", x.append(1, 1), OrderedKeys.BAD_TYPE);
        x.setInt(1, 77);
        due("append to INT", x.append(1, 1), OrderedKeys.BAD_TYPE);
        due("append bad char to INT", x.append(1, -1), OrderedKeys.BAD_TYPE);
        due("append to null", x.append(0, 1), OrderedKeys.BAD_TYPE);
        due("append bad char to null", x.append(0, 256), OrderedKeys.BAD_TYPE);
        x.setText(0);
        due("append(0, -1)", x.append(0, -1), OrderedKeys.BAD_CHAR);
        due("append(0, 256)", x.append(0, 256), OrderedKeys.BAD_CHAR);
        due("append(0, MIN)", x.append(0, MIN), OrderedKeys.BAD_CHAR);
        due("append(0, MAX)", x.append(0, MAX), OrderedKeys.BAD_CHAR);
        int[] text = {0, 255, 0, 97, 255, 0};
        for (int i = 0; i < text.length; i++) {
            due("append " + i, x.append(0, text[i]), i + 1);
        }
        due("seventh", x.append(0, 1), OrderedKeys.FULL);
        due("seventh, bad char", x.append(0, 256), OrderedKeys.BAD_CHAR);
        due("seventh, bad char", x.append(0, -1), OrderedKeys.BAD_CHAR);
        x.add(0);
        dueText("six letters", x, 0, 0, text);
        due("the INT field stays", x.intAt(0, 1), 77);
        appendAfterLoad();
    }

    private static void appendAfterLoad() {
        OrderedKeys x = new OrderedKeys(1, TEXT);
        addText(x, 5, 0, 0);
        x.setNull(0);
        x.load(0);
        due("append to a loaded text", x.append(0, 8), 3);
        due("add the longer text", x.add(6), 1);
        dueText("the entry stays", x, 0, 0, 0, 0);
        dueText("the longer text", x, 1, 0, 0, 0, 8);
    }

    // Promise 6
    private static void add() {
        OrderedKeys x = new OrderedKeys(2, schemaOf(INT, TEXT));
        x.setInt(0, 4);
        stageText(x, 1, 7);
        due("add", x.add(MIN), 0);
        due("add: the stage stays", x.add(MAX), 1);
        due("add: size", x.size(), 2);
        due("add: tag", x.tag(0), MIN);
        due("add: tag", x.tag(1), MAX);
        due("add: int", x.intAt(1, 0), 4);
        dueText("add: text", x, 1, 1, 7);
        due("add: the stage's text stays", x.append(1, 8), 2);
        dueText("the entry has a text of its own", x, 1, 1, 7);
        due("add before", addInt(x, 3, 9), 0);
        dueTags("add before", x, 9, MIN, MAX);
    }

    private static void addOrdersInts() {
        int[] values = {5, MIN, 0, MAX, -1, 1};
        for (int flags = 0; flags < 16; flags += 2) {
            OrderedKeys x = new OrderedKeys(1, flags);
            x.add(100);
            for (int i = 0; i < values.length; i++) {
                addInt(x, values[i], i);
            }
            x.setNull(0);
            x.add(101);
            boolean turned = (flags & DESCENDING) != 0;
            int[] tags = turned ? new int[] {3, 0, 5, 2, 4, 1} : new int[] {1, 4, 2, 5, 0, 3};
            dueNullsAndTags("ints, flags " + flags, x, flags, tags);
        }
    }

    private static void addOrdersTexts() {
        int[][] texts = {{1}, {}, {0}, {0, 0}, {255}, {0, 255}, {1, 0}, {128}, {127}};
        for (int flags = 1; flags < 16; flags += 2) {
            OrderedKeys x = new OrderedKeys(1, flags);
            x.add(100);
            for (int i = 0; i < texts.length; i++) {
                addText(x, i, texts[i]);
            }
            x.setNull(0);
            x.add(101);
            boolean turned = (flags & DESCENDING) != 0;
            int[] tags = turned
                    ? new int[] {4, 7, 8, 6, 0, 5, 3, 2, 1}
                    : new int[] {1, 2, 3, 5, 0, 6, 8, 7, 4};
            dueNullsAndTags("texts, flags " + flags, x, flags, tags);
        }
    }

    /** The nulls have the tags 100 and 101, in this order. */
    private static void dueNullsAndTags(String what, OrderedKeys x, int flags, int[] tags) {
        boolean first = (flags & NULLS_FIRST) != 0;
        int[] all = new int[tags.length + 2];
        System.arraycopy(tags, 0, all, first ? 2 : 0, tags.length);
        all[first ? 0 : tags.length] = 100;
        all[first ? 1 : tags.length + 1] = 101;
        dueTags(what, x, all);
    }

    private static void addOrdersLongTexts() {
        OrderedKeys x = new OrderedKeys(1, TEXT);
        due("six letters", addText(x, 0, 255, 255, 255, 255, 255, 255), 0);
        due("last letter smaller", addText(x, 1, 255, 255, 255, 255, 255, 254), 0);
        due("five letters", addText(x, 2, 255, 255, 255, 255, 255), 0);
        due("last letter 0", addText(x, 3, 255, 255, 255, 255, 255, 0), 1);
        due("first letter smaller", addText(x, 4, 254, 255, 255, 255, 255, 255), 0);
        due("six zeros", addText(x, 5, 0, 0, 0, 0, 0, 0), 0);
        due("five zeros", addText(x, 6, 0, 0, 0, 0, 0), 0);
        dueTags("long texts", x, 6, 5, 4, 2, 3, 1, 0);
    }

    private static void addOrdersByFirstDifference() {
        OrderedKeys x = new OrderedKeys(4, schemaOf(INT, DESCENDING, TEXT, NULLS_FIRST | UNUSED));
        int tag = 0;
        for (int a = 1; a >= 0; a--) {
            for (int b = 0; b <= 1; b++) {
                for (int c = 1; c >= 0; c--) {
                    x.setInt(0, a);
                    x.setInt(1, b);
                    stageText(x, 2, c);
                    x.setInt(3, 5);
                    due("field 0 to 2, tag " + tag, x.add(tag++), 0);
                    x.setNull(3);
                    due("field 3, tag " + tag, x.add(tag++), 0);
                }
            }
        }
        dueTags("four fields", x, 15, 14, 13, 12, 11, 10, 9, 8, 7, 6, 5, 4, 3, 2, 1, 0);
    }

    private static void addKeepsEqualTuplesByTime() {
        OrderedKeys x = new OrderedKeys(1, DESCENDING);
        addInt(x, 5, 1);
        addInt(x, 9, 2);
        addInt(x, 1, 3);
        due("second 5", addInt(x, 5, 4), 2);
        due("third 5", addInt(x, 5, 0), 3);
        x.remove(1);
        due("fourth 5", addInt(x, 5, 6), 3);
        dueTags("equal tuples", x, 2, 4, 0, 6, 3);
        OrderedKeys empty = new OrderedKeys(2, NULLS_FIRST);
        due("first null", empty.add(3), 0);
        due("second null", empty.add(2), 1);
        due("third null", empty.add(1), 2);
        dueTags("equal nulls", empty, 3, 2, 1);
    }

    private static void addKeepsAllFieldsOfAllEntries() {
        OrderedKeys x = new OrderedKeys(4, schemaOf(INT, INT, INT, TEXT));
        for (int i = 0; i < CAPACITY; i++) {
            x.setInt(0, i);
            x.setInt(1, 100 + i);
            x.setInt(2, 200 + i);
            stageText(x, 3, i, 255 - i);
            due("add " + i, x.add(300 + i), i);
        }
        for (int i = 0; i < CAPACITY; i++) {
            due("entry " + i + ": field 0", x.intAt(i, 0), i);
            due("entry " + i + ": field 1", x.intAt(i, 1), 100 + i);
            due("entry " + i + ": field 2", x.intAt(i, 2), 200 + i);
            due("entry " + i + ": field 3", x.charAt(i, 3, 0), i);
            due("entry " + i + ": field 3", x.charAt(i, 3, 1), 255 - i);
            due("entry " + i + ": tag", x.tag(i), 300 + i);
        }
    }

    private static void addWhenFull() {
        OrderedKeys x = new OrderedKeys(1, INT);
        for (int i = 0; i < CAPACITY; i++) {
            due("add " + i, addInt(x, 2 * i, i), i);
        }
        due("add to a full index", addInt(x, 5, 99), OrderedKeys.FULL);
        due("again", x.add(OrderedKeys.FULL), OrderedKeys.FULL);
        due("full: size", x.size(), CAPACITY);
        for (int i = 0; i < CAPACITY; i++) {
            due("full: tag(" + i + ")", x.tag(i), i);
            due("full: intAt(" + i + ")", x.intAt(i, 0), 2 * i);
        }
        due("full: the stage stays", x.below(), 3);
        due("remove", x.remove(19), 19);
        due("add after remove", x.add(99), 3);
        due("full again", x.add(99), OrderedKeys.FULL);
    }

    // Promise 7
    private static void remove() {
        OrderedKeys x = new OrderedKeys(1, INT);
        due("remove from nothing", x.remove(0), OrderedKeys.NONE);
        for (int i = 0; i < 5; i++) {
            addInt(x, i, 10 + i);
        }
        int[] bad = {-1, 5, 19, 20, MIN, MAX};
        for (int position : bad) {
            due("remove(" + position + ")", x.remove(position), OrderedKeys.NONE);
        }
        dueTags("refused removes", x, 10, 11, 12, 13, 14);
        due("remove(2)", x.remove(2), 4);
        dueTags("remove(2)", x, 10, 11, 13, 14);
        due("remove(3)", x.remove(3), 3);
        dueTags("remove(3)", x, 10, 11, 13);
        due("remove(3) again", x.remove(3), OrderedKeys.NONE);
        due("remove(0)", x.remove(0), 2);
        dueTags("remove(0)", x, 11, 13);
        due("the stage stays", x.below(), 2);
        due("add after removes", x.add(20), 2);
        due("the values move too", x.intAt(1, 0), 3);
        due("remove(0)", x.remove(0), 2);
        due("remove(0)", x.remove(0), 1);
        due("remove(0)", x.remove(0), 0);
        due("remove(0)", x.remove(0), OrderedKeys.NONE);
        removeAndFillAgain();
    }

    private static void removeAndFillAgain() {
        OrderedKeys x = new OrderedKeys(1, INT);
        for (int i = 0; i < CAPACITY; i++) {
            addInt(x, i, i);
        }
        for (int i = 0; i < CAPACITY; i++) {
            due("remove the first", x.remove(0), CAPACITY - 1);
            due("add at the end", addInt(x, 100 + i, 100 + i), CAPACITY - 1);
        }
        for (int i = 0; i < CAPACITY; i++) {
            due("filled again: tag(" + i + ")", x.tag(i), 100 + i);
            due("filled again: intAt(" + i + ")", x.intAt(i, 0), 100 + i);
        }
    }

    // Promise 8
    private static void load() {
        OrderedKeys x = new OrderedKeys(3, schemaOf(INT, TEXT, INT));
        due("load from nothing", x.load(0), OrderedKeys.NONE);
        x.setInt(0, 1);
        stageText(x, 1, 7, 8);
        x.add(OrderedKeys.NONE);
        x.setInt(0, 2);
        x.setNull(1);
        x.setInt(2, 6);
        x.add(42);
        int[] bad = {-1, 2, 20, MIN, MAX};
        for (int position : bad) {
            due("load(" + position + ")", x.load(position), OrderedKeys.NONE);
        }
        due("refused load: the stage stays", x.matching(3), 1);
        due("refused load: the stage stays", x.below(), 1);
        due("load(0): the tag is NONE", x.load(0), OrderedKeys.NONE);
        due("load(0): the stage", x.below(), 0);
        due("load(0): the stage", x.matching(3), 1);
        due("load(0): size", x.size(), 2);
        due("load(0): append", x.append(1, 9), 3);
        x.add(43);
        dueText("load(0): text", x, 1, 1, 7, 8, 9);
        due("load(0): null", x.nullAt(1, 2), true);
        due("load(2)", x.load(2), 42);
        due("load(2): null", x.append(1, 9), OrderedKeys.BAD_TYPE);
        x.setInt(0, 3);
        due("the entry stays", x.intAt(2, 0), 2);
        due("add", x.add(44), 3);
        due("load(2): int", x.intAt(3, 2), 6);
        due("load(2): null", x.nullAt(3, 1), true);
    }

    // Promise 9
    private static void size() {
        OrderedKeys x = new OrderedKeys(1, INT);
        for (int i = 0; i < CAPACITY; i++) {
            due("size", x.size(), i);
            x.add(i);
        }
        due("size", x.size(), CAPACITY);
        x.add(0);
        due("size after FULL", x.size(), CAPACITY);
        for (int i = CAPACITY; i > 0; i--) {
            x.remove(i);
            due("size after NONE", x.size(), i);
            x.remove(0);
            due("size", x.size(), i - 1);
        }
    }

    // Promise 10
    private static void tag() {
        OrderedKeys x = new OrderedKeys(1, INT);
        due("tag of nothing", x.tag(0), 0);
        addInt(x, 2, MAX);
        addInt(x, 1, MIN);
        addInt(x, 3, -5);
        due("tag(0)", x.tag(0), MIN);
        due("tag(1)", x.tag(1), MAX);
        due("tag(2)", x.tag(2), -5);
        int[] bad = {-1, 3, 20, MIN, MAX};
        for (int position : bad) {
            due("tag(" + position + ")", x.tag(position), 0);
        }
        x.remove(2);
        due("tag of a removed entry", x.tag(2), 0);
    }

    // Promise 11
    private static void below() {
        OrderedKeys x = new OrderedKeys(2, schemaOf(DESCENDING, TEXT | NULLS_FIRST));
        for (int a = 3; a > 0; a--) {
            x.setInt(0, a);
            x.setNull(1);
            x.add(0);
            stageText(x, 1);
            x.add(0);
            stageText(x, 1, 5);
            x.add(0);
            x.add(0);
        }
        x.setInt(0, 4);
        due("below: first", x.below(), 0);
        x.setInt(0, 2);
        due("below: equals do not count", x.below(), 6);
        x.append(1, 0);
        due("below: longer text", x.below(), 8);
        x.setText(1);
        due("below: empty text", x.below(), 5);
        x.setNull(1);
        due("below: null first", x.below(), 4);
        stageText(x, 1, 4);
        due("below: between", x.below(), 6);
        x.setNull(0);
        due("below: null behind", x.below(), 12);
        due("below: again", x.below(), 12);
        due("below adds nothing", x.size(), 12);
    }

    // Promise 12
    private static void matching() {
        OrderedKeys x = new OrderedKeys(3, schemaOf(INT, TEXT, INT));
        due("matching nothing", x.matching(0), 0);
        due("matching nothing", x.matching(3), 0);
        for (int i = 0; i < 8; i++) {
            x.setInt(0, i & 1);
            stageText(x, 1, i >> 1 & 1);
            x.setNull(2);
            x.add(i);
        }
        x.setInt(2, 0);
        x.add(8);
        due("matching(0)", x.matching(0), 9);
        due("matching(1)", x.matching(1), 5);
        due("matching(2)", x.matching(2), 3);
        due("matching(3): 0 is not null", x.matching(3), 1);
        x.setNull(2);
        due("matching(3): null equals null", x.matching(3), 2);
        x.append(1, 0);
        due("matching(2): the beginning is not equal", x.matching(2), 0);
        due("matching(1)", x.matching(1), 5);
        x.setText(1);
        due("matching(2): empty text", x.matching(2), 0);
        x.setNull(1);
        due("matching(2): null", x.matching(2), 0);
        x.setInt(0, 7);
        due("matching(1): none", x.matching(1), 0);
        due("matching(0): all", x.matching(0), 9);
        int[] bad = {-1, 4, 5, MIN, MAX};
        for (int prefix : bad) {
            due("matching(" + prefix + ")", x.matching(prefix), OrderedKeys.BAD_FIELD);
        }
        due("matching changes nothing", x.size(), 9);
    }

    // Promise 13
    private static void intAt() {
        OrderedKeys x = new OrderedKeys(3, schemaOf(INT, TEXT, INT | DESCENDING));
        x.setInt(0, MIN);
        stageText(x, 1, 65);
        x.setInt(2, MAX);
        due("intAt of nothing", x.intAt(0, 0), 0);
        x.add(1);
        x.setInt(0, 11);
        x.setNull(2);
        x.add(2);
        due("intAt(0, 0)", x.intAt(0, 0), MIN);
        due("intAt(0, 2)", x.intAt(0, 2), MAX);
        due("intAt(1, 0)", x.intAt(1, 0), 11);
        due("intAt: TEXT", x.intAt(0, 1), 0);
        due("intAt: null that was an int", x.intAt(1, 2), 0);
        int[] bad = {-1, 3, 20, MIN, MAX};
        for (int wrongOne : bad) {
            due("intAt(" + wrongOne + ", 0)", x.intAt(wrongOne, 0), 0);
            due("intAt(0, " + wrongOne + ")", x.intAt(0, wrongOne), 0);
        }
        due("intAt(2, 0)", x.intAt(2, 0), 0);
        x.remove(1);
        due("intAt of a removed entry", x.intAt(1, 0), 0);
    }

    // Promise 14
    private static void charAt() {
        OrderedKeys x = new OrderedKeys(2, schemaOf(TEXT, INT));
        stageText(x, 0, 0, 255, 65);
        x.setInt(1, 66);
        due("charAt of nothing", x.charAt(0, 0, 0), OrderedKeys.NONE);
        x.add(1);
        stageText(x, 0, 1, 2, 3, 4, 5, 6);
        x.add(2);
        x.setNull(0);
        x.add(3);
        dueText("charAt: three letters", x, 0, 0, 0, 255, 65);
        dueText("charAt: six letters", x, 1, 0, 1, 2, 3, 4, 5, 6);
        due("charAt: null that was a text", x.charAt(2, 0, 0), OrderedKeys.NONE);
        due("charAt: INT", x.charAt(0, 1, 0), OrderedKeys.NONE);
        int[] bad = {-1, 3, 6, 7, 20, MIN, MAX};
        for (int wrongOne : bad) {
            due("charAt(" + wrongOne + ", 0, 0)", x.charAt(wrongOne, 0, 0), OrderedKeys.NONE);
            due("charAt(0, " + wrongOne + ", 0)", x.charAt(0, wrongOne, 0), OrderedKeys.NONE);
            due("charAt(0, 0, " + wrongOne + ")", x.charAt(0, 0, wrongOne), OrderedKeys.NONE);
        }
        due("charAt(1, 0, 6)", x.charAt(1, 0, 6), OrderedKeys.NONE);
        due("charAt(1, 0, -1)", x.charAt(1, 0, -1), OrderedKeys.NONE);
        due("charAt(0, 2, 0)", x.charAt(0, 2, 0), OrderedKeys.NONE);
        x.remove(1);
        x.remove(1);
        due("charAt of a removed entry", x.charAt(1, 0, 0), OrderedKeys.NONE);
    }

    // Promise 15
    private static void nullAt() {
        OrderedKeys x = new OrderedKeys(3, schemaOf(INT, TEXT, TEXT));
        due("nullAt of nothing", x.nullAt(0, 0), false);
        x.setInt(0, 0);
        x.setText(1);
        x.add(1);
        due("nullAt: 0", x.nullAt(0, 0), false);
        due("nullAt: the empty text", x.nullAt(0, 1), false);
        due("nullAt: null", x.nullAt(0, 2), true);
        x.setNull(0);
        x.setNull(1);
        due("nullAt: the stage is another tuple", x.nullAt(0, 0), false);
        x.add(2);
        due("nullAt: null", x.nullAt(1, 0), true);
        due("nullAt: null", x.nullAt(1, 1), true);
        int[] bad = {-1, 3, 4, 20, MIN, MAX};
        for (int wrongOne : bad) {
            due("nullAt(" + wrongOne + ", 0)", x.nullAt(wrongOne, 0), false);
            due("nullAt(0, " + wrongOne + ")", x.nullAt(0, wrongOne), false);
        }
        due("nullAt(2, 0)", x.nullAt(2, 0), false);
        x.remove(1);
        due("nullAt of a removed entry", x.nullAt(1, 0), false);
        OrderedKeys one = new OrderedKeys(1, INT);
        one.add(1);
        due("nullAt(0, 1) of one field", one.nullAt(0, 1), false);
    }
}
