import java.util.Arrays;
import java.util.function.Consumer;
import java.util.function.ToIntFunction;

/** One method a sentence under 'What it is' and 'Terms' that names a boundary case. */
public final class TermsBoundariesTest {
    private static final int[] BAD_POSITIONS = {-1, -2, 20, 21, 1 << 30, Due.MIN, Due.MAX};
    private static final int[] BAD_FIELDS = {-1, -4, 4, 5, 8, 1 << 30, -(1 << 30), Due.MIN, Due.MAX};

    public static void main(String[] args) {
        atMostTwentyEntries();
        oneToFourFields();
        anyTag();
        fiveHundredTwelveCalls();
        fiveHundredTwelveCallsOnEqualTuples();
        anInt();
        zeroToSixCharacters();
        charactersZeroTo255();
        anyFieldMayBeNull();
        schemaBits();
        schemaBit3();
        schemaBitsBehindField3();
        stageCells();
        badFieldFirst();
        refusedStageCalls();
        refusedStageCallsOfFewFields();
        refusedEntryCalls();
        position();
        questionsChangeNothing();
        Due.end();
    }

    private static void atMostTwentyEntries() {
        Due.sentence("An index of at most 20 ENTRIES");
        for (int fields = 1; fields <= 4; fields++) {
            OrderedKeys x = new OrderedKeys(fields, 0);
            Tuples.fill(x, Due.CAPACITY);
            Due.answer("add, the 21st", x.add(0), OrderedKeys.FULL);
            Due.answer("size()", x.size(), Due.CAPACITY);
            for (int i = 0; i < Due.CAPACITY; i++) {
                Due.answer("intAt(" + i + ", 0)", x.intAt(i, 0), i);
                Due.answer("tag(" + i + ")", x.tag(i), 100 + i);
            }
            Due.answer("remove(19)", x.remove(19), 19);
            Due.answer("add, the 20th again", x.add(0), 19);
            Due.answer("add, the 21st again", x.add(0), OrderedKeys.FULL);
        }
    }

    private static void oneToFourFields() {
        Due.sentence("each a tuple of one to four FIELDS");
        Object[] tuple = {Due.MIN, Tuples.text(255), null, Tuples.text(0, 0)};
        int schema = Tuples.schema(Due.INT, Due.TEXT, Due.INT, Due.TEXT);
        for (int fields = 1; fields <= 4; fields++) {
            OrderedKeys x = new OrderedKeys(fields, schema);
            Object[] held = Arrays.copyOf(tuple, fields);
            Due.answer("add", Tuples.add(x, 1, held), 0);
            Due.answer("add", x.add(2), 1);
            Tuples.dueTuple(x, 0, held);
            Tuples.dueTuple(x, 1, held);
            Due.answer("matching(" + fields + ")", x.matching(fields), 2);
        }
    }

    private static void anyTag() {
        Due.sentence("a tag (any int)");
        int[] tags = {0, 1, -1, -2, -3, -4, -5, -6, 20, 255, 256, 65536, Due.MIN, Due.MAX};
        OrderedKeys x = new OrderedKeys(1, 0);
        for (int i = 0; i < tags.length; i++) {
            Due.answer("add(" + tags[i] + ")", x.add(tags[i]), i);
        }
        Tuples.dueTags(x, tags);
        for (int i = 0; i < tags.length; i++) {
            Due.answer("load(" + i + ")", x.load(i), tags[i]);
        }
    }

    private static void fiveHundredTwelveCalls() {
        Due.sentence("An object is used for at most 512 calls after it has been made");
        OrderedKeys x = new OrderedKeys(1, Due.DESCENDING);
        for (int i = 0; i < Due.CAPACITY; i++) {
            Due.answer("setInt", x.setInt(0, i), 0);
            Due.answer("add " + i, x.add(i), 0);
        }
        // 40 calls are done; 118 times four more make 512.
        for (int i = Due.CAPACITY; i < Due.CAPACITY + 118; i++) {
            Due.answer("remove(19)", x.remove(19), 19);
            Due.answer("setInt", x.setInt(0, i), 0);
            Due.answer("add " + i, x.add(i), 0);
            Due.answer("tag(19)", x.tag(19), i - 19);
        }
    }

    private static void fiveHundredTwelveCallsOnEqualTuples() {
        Due.sentence("An object is used for at most 512 calls: equal tuples");
        OrderedKeys x = new OrderedKeys(4, 0);
        for (int i = 0; i < Due.CAPACITY; i++) {
            Due.answer("add " + i, x.add(i), i);
        }
        // 20 calls are done; 164 times three more make 512.
        for (int i = Due.CAPACITY; i < Due.CAPACITY + 164; i++) {
            Due.answer("remove(0)", x.remove(0), 19);
            Due.answer("add " + i, x.add(i), 19);
            int p = i % Due.CAPACITY;
            Due.answer("tag(" + p + ")", x.tag(p), i - 19 + p);
        }
    }

    private static void anInt() {
        Due.sentence("INT an int");
        int[] values = {
            0, 1, -1, -2, -3, -4, -5, 127, 128, 255, 256, -256, 65535, 65536, -65536,
            Due.MIN, Due.MIN + 1, Due.MAX, Due.MAX - 1
        };
        for (int value : values) {
            for (int flags = 0; flags < Due.ALL_FLAGS; flags += 2) {
                OrderedKeys x = new OrderedKeys(4, Tuples.schema(flags, flags, flags, flags));
                Tuples.add(x, 1, value, ~value, value, null);
                Tuples.dueTuple(x, 0, value, ~value, value, null);
            }
        }
    }

    private static void zeroToSixCharacters() {
        Due.sentence("TEXT a list of 0 to 6 characters");
        int[] letters = {0, 255, 1, 0, 254, 0};
        for (int length = 0; length <= 6; length++) {
            for (int f = 0; f < 4; f++) {
                OrderedKeys x = new OrderedKeys(4, 0x1111);
                Object[] tuple = {null, null, null, null};
                tuple[f] = Arrays.copyOf(letters, length);
                Tuples.add(x, 1, tuple);
                Tuples.dueTuple(x, 0, tuple);
            }
        }
        OrderedKeys x = new OrderedKeys(1, Due.TEXT);
        Tuples.stage(x, letters);
        Due.answer("append, the seventh", x.append(0, 0), OrderedKeys.FULL);
        x.add(1);
        Tuples.dueTuple(x, 0, letters);
    }

    private static void charactersZeroTo255() {
        Due.sentence("characters, each 0 to 255");
        for (int c = 0; c <= 255; c++) {
            for (int place = 0; place < 6; place++) {
                int[] letters = Tuples.repeated(255 - c, 6);
                letters[place] = c;
                OrderedKeys x = new OrderedKeys(1, Due.TEXT);
                Tuples.add(x, 1, letters);
                Tuples.dueTuple(x, 0, letters);
            }
        }
        OrderedKeys x = new OrderedKeys(1, Due.TEXT);
        x.setText(0);
        Due.answer("append(0, 256)", x.append(0, 256), OrderedKeys.BAD_CHAR);
        Due.answer("append(0, -1)", x.append(0, -1), OrderedKeys.BAD_CHAR);
    }

    private static void anyFieldMayBeNull() {
        Due.sentence("and any field may be NULL instead");
        for (int flags = 0; flags < Due.ALL_FLAGS; flags++) {
            Object value = (flags & Due.TEXT) != 0 ? Tuples.text(0) : (Object) 0;
            for (int f = 0; f < 4; f++) {
                OrderedKeys x = new OrderedKeys(4, Tuples.schema(flags, flags, flags, flags));
                Object[] tuple = {value, value, value, value};
                tuple[f] = null;
                Tuples.add(x, 1, tuple);
                Tuples.dueTuple(x, 0, tuple);
            }
        }
    }

    private static void schemaBits() {
        Due.sentence("THE SCHEMA is a number with four bits a field, field f in bits 4f to 4f + 3: "
                + "bit 0 TEXT (else INT), bit 1 DESCENDING, bit 2 NULLS FIRST");
        for (int schema = 0; schema < 1 << 16; schema++) {
            if ((schema & 0x8888) == 0) {
                for (int f = 0; f < 4; f++) {
                    dueFlags(4, schema, f, schema >> (4 * f) & 7);
                }
            }
        }
    }

    private static void schemaBit3() {
        Due.sentence("bit 3 is not looked at");
        for (int schema = 0; schema < 1 << 16; schema++) {
            if ((schema & 0x8888) != 0) {
                int f = schema % 5 % 4;
                dueFlags(4, schema, f, schema >> (4 * f) & 7);
            }
        }
    }

    private static void schemaBitsBehindField3() {
        Due.sentence("four bits a field: bits behind the last field's");
        int[] schemas = {0xffff0000, 0x80000000, 0x7fff0000, 0x00010000, -1, -2, 0xfedc4321};
        for (int schema : schemas) {
            for (int fields = 1; fields <= 4; fields++) {
                for (int f = 0; f < fields; f++) {
                    dueFlags(fields, schema, f, schema >>> (4 * f) & 7);
                }
            }
        }
    }

    /** The field's type and ways of ordering, found by calls on it alone. */
    private static void dueFlags(int fields, int schema, int f, int flags) {
        String what = "schema " + Integer.toHexString(schema) + ", field " + f + ": ";
        boolean isText = (flags & Due.TEXT) != 0;
        boolean isDescending = (flags & Due.DESCENDING) != 0;
        boolean hasNullsFirst = (flags & Due.NULLS_FIRST) != 0;
        OrderedKeys x = new OrderedKeys(fields, schema);
        Due.answer(what + "setInt", x.setInt(f, 2), isText ? OrderedKeys.BAD_TYPE : 0);
        Due.answer(what + "setText", x.setText(f), isText ? 0 : OrderedKeys.BAD_TYPE);
        if (isText) {
            Due.answer(what + "append", x.append(f, 2), 1);
        }
        Due.answer(what + "add", x.add(1), 0);
        Tuples.stageField(x, f, isText ? Tuples.text(1) : (Object) 1);
        Due.answer(what + "DESCENDING", x.below(), isDescending ? 1 : 0);
        Tuples.stageField(x, f, null);
        Due.answer(what + "NULLS FIRST", x.below(), hasNullsFirst ? 0 : 1);
    }

    private static void stageCells() {
        Due.sentence("Tuples are put together in a STAGE with one cell for each field");
        Object[] nulls = {null, null, null, null};
        Object[] full = {1, Tuples.repeated(2, 6), Tuples.repeated(3, 6), 4};
        Object[] other = {Due.MAX, Tuples.text(), Tuples.text(0), Due.MIN};
        for (int f = 0; f < 4; f++) {
            dueOneCell(nulls, f, full[f]);
            dueOneCell(nulls, f, null);
            dueOneCell(full, f, other[f]);
            dueOneCell(full, f, null);
            dueOneCell(other, f, full[f]);
        }
    }

    /** Of a stage that holds this tuple, the call on a field changes that field alone. */
    private static void dueOneCell(Object[] tuple, int f, Object value) {
        OrderedKeys x = new OrderedKeys(4, Tuples.schema(Due.INT, Due.TEXT, Due.TEXT, Due.INT));
        Tuples.stage(x, tuple);
        Tuples.stageField(x, f, value);
        x.add(1);
        Object[] due = tuple.clone();
        due[f] = value;
        Tuples.dueTuple(x, 0, due);
    }

    private static void badFieldFirst() {
        Due.sentence("A field not in 0 to fields - 1 is BAD_FIELD, tested first");
        int[] schemas = {0, 0x1111, 0x0101, 0x1010, -1};
        int[] letters = {0, 255, -1, 256, Due.MIN, Due.MAX};
        for (int schema : schemas) {
            for (int fields = 1; fields <= 4; fields++) {
                OrderedKeys x = new OrderedKeys(fields, schema);
                for (int f : BAD_FIELDS) {
                    dueBadField(x, f, letters);
                }
                for (int f = fields; f < 16; f++) {
                    dueBadField(x, f, letters);
                }
            }
        }
        badFieldBesideFullText();
    }

    private static void dueBadField(OrderedKeys x, int f, int[] letters) {
        Due.answer("setNull(" + f + ")", x.setNull(f), OrderedKeys.BAD_FIELD);
        Due.answer("setInt(" + f + ", 1)", x.setInt(f, 1), OrderedKeys.BAD_FIELD);
        Due.answer("setText(" + f + ")", x.setText(f), OrderedKeys.BAD_FIELD);
        for (int c : letters) {
            Due.answer("append(" + f + ", " + c + ")", x.append(f, c), OrderedKeys.BAD_FIELD);
        }
    }

    private static void badFieldBesideFullText() {
        OrderedKeys x = new OrderedKeys(2, 0x1111);
        Tuples.stage(x, Tuples.repeated(1, 6), Tuples.repeated(1, 6));
        int[] letters = {0, 256};
        for (int f : BAD_FIELDS) {
            dueBadField(x, f, letters);
        }
        dueBadField(x, 2, letters);
        dueBadField(x, 3, letters);
    }

    private static void refusedStageCalls() {
        Due.sentence("THE STAGE: a refused call changes nothing");
        for (int f : BAD_FIELDS) {
            refusedEverywhere("setNull(" + f + ")", x -> x.setNull(f), OrderedKeys.BAD_FIELD);
            refusedEverywhere("setInt(" + f + ", 9)", x -> x.setInt(f, 9), OrderedKeys.BAD_FIELD);
            refusedEverywhere("setText(" + f + ")", x -> x.setText(f), OrderedKeys.BAD_FIELD);
            refusedEverywhere("append(" + f + ", 9)", x -> x.append(f, 9), OrderedKeys.BAD_FIELD);
        }
        for (int f = 1; f <= 3; f += 2) {
            int text = f;
            int number = f - 1;
            String toInt = "append(" + number + ", 9)";
            refusedEverywhere("setInt(" + text + ")", x -> x.setInt(text, 9), OrderedKeys.BAD_TYPE);
            refusedEverywhere("setText(" + number + ")", x -> x.setText(number), OrderedKeys.BAD_TYPE);
            refusedEverywhere(toInt, x -> x.append(number, 9), OrderedKeys.BAD_TYPE);
            refused("append to null", Situations::isNew, x -> x.append(text, 9), OrderedKeys.BAD_TYPE);
        }
        refused("append to null", Situations::hasEntries, x -> x.append(3, 9), OrderedKeys.BAD_TYPE);
        refused("append to six", Situations::hasEntries, x -> x.append(1, 9), OrderedKeys.FULL);
        refused("append to six", Situations::isStaged, x -> x.append(3, 9), OrderedKeys.FULL);
        refused("append to six", Situations::isFull, x -> x.append(3, 9), OrderedKeys.FULL);
        for (int c : new int[] {-1, 256, 256 + 65, -256 + 65, Due.MIN, Due.MAX}) {
            String call = "append, char " + c;
            refused(call, Situations::isStaged, x -> x.append(1, c), OrderedKeys.BAD_CHAR);
            refused(call, Situations::isStaged, x -> x.append(3, c), OrderedKeys.BAD_CHAR);
            refused(call, Situations::isFull, x -> x.append(1, c), OrderedKeys.BAD_CHAR);
        }
    }

    private static void refusedStageCallsOfFewFields() {
        Due.sentence("a refused call changes nothing: fields that other objects have");
        for (int fields = 1; fields < 4; fields++) {
            for (int schema : new int[] {0, 0x1111}) {
                OrderedKeys x = new OrderedKeys(fields, schema);
                Object value = schema == 0 ? 7 : (Object) Tuples.text(7);
                for (int f = 0; f < fields; f++) {
                    Tuples.stageField(x, f, value);
                }
                x.add(1);
                dueBadField(x, fields, new int[] {9, 256});
                Due.answer("matching(" + fields + ")", x.matching(fields), 1);
                Due.answer("add", x.add(2), 1);
                for (int f = 0; f < fields; f++) {
                    Tuples.dueField(x, 1, f, value);
                }
            }
        }
    }

    private static void refusedEntryCalls() {
        Due.sentence("ENTRIES: FULL and NONE, nothing changes");
        for (int p : BAD_POSITIONS) {
            refusedEverywhere("remove(" + p + ")", x -> x.remove(p), OrderedKeys.NONE);
            refusedEverywhere("load(" + p + ")", x -> x.load(p), OrderedKeys.NONE);
        }
        refused("remove(0)", Situations::isNew, x -> x.remove(0), OrderedKeys.NONE);
        refused("load(0)", Situations::isNew, x -> x.load(0), OrderedKeys.NONE);
        refused("remove(0)", Situations::isStaged, x -> x.remove(0), OrderedKeys.NONE);
        refused("load(0)", Situations::isStaged, x -> x.load(0), OrderedKeys.NONE);
        refused("remove(4)", Situations::hasEntries, x -> x.remove(4), OrderedKeys.NONE);
        refused("load(4)", Situations::hasEntries, x -> x.load(4), OrderedKeys.NONE);
        refused("add(1)", Situations::isFull, x -> x.add(1), OrderedKeys.FULL);
        refused("add(FULL)", Situations::isFull, x -> x.add(OrderedKeys.FULL), OrderedKeys.FULL);
    }

    private static void refusedEverywhere(String name, ToIntFunction<OrderedKeys> call, int want) {
        refused(name, Situations::isNew, call, want);
        refused(name, Situations::isStaged, call, want);
        refused(name, Situations::hasEntries, call, want);
        refused(name, Situations::isFull, call, want);
    }

    private static void refused(
            String name, Consumer<OrderedKeys> situation, ToIntFunction<OrderedKeys> call, int want) {
        Situations.unchanged(name, situation, call, want);
    }

    private static void position() {
        Due.sentence("The POSITION of an entry is how many entries come before it in the order");
        OrderedKeys x = new OrderedKeys(1, 0);
        for (int i = 0; i < Due.CAPACITY; i++) {
            // Each value is added twice; 7 and 10 have no common factor, so all ten come up.
            int value = i * 7 % 10;
            int position = Tuples.add(x, i, value);
            Due.answer("tag at the position answered", x.tag(position), i);
            Due.answer("intAt the position answered", x.intAt(position, 0), value);
        }
        for (int p = 0; p < Due.CAPACITY; p++) {
            Due.answer("intAt(" + p + ", 0)", x.intAt(p, 0), p / 2);
            int tag = x.tag(p);
            Due.answer("tag(" + p + ") is of this value", tag * 7 % 10, p / 2);
            Due.answer("tag(" + p + ") is of this time", tag / 10, p % 2);
            Due.answer("load(" + p + ")", x.load(p), tag);
            Due.answer("below()", x.below(), p / 2 * 2);
        }
    }

    private static void questionsChangeNothing() {
        Due.sentence("The calls below change nothing");
        questionsChangeNothing(Situations::isNew);
        questionsChangeNothing(Situations::isStaged);
        questionsChangeNothing(Situations::hasEntries);
        questionsChangeNothing(Situations::isFull);
    }

    private static void questionsChangeNothing(Consumer<OrderedKeys> situation) {
        silent(situation, OrderedKeys::size);
        silent(situation, OrderedKeys::below);
        for (int n : new int[] {-1, 0, 1, 3, 4, 5, 19, 20, Due.MIN, Due.MAX}) {
            silent(situation, x -> x.tag(n));
            silent(situation, x -> x.matching(n));
            for (int f : new int[] {-1, 0, 1, 2, 3, 4, Due.MIN, Due.MAX}) {
                silent(situation, x -> x.intAt(n, f));
                silent(situation, x -> x.nullAt(n, f) ? 1 : 0);
                silent(situation, x -> x.charAt(n, f, 0));
                silent(situation, x -> x.charAt(n, f, 5));
                silent(situation, x -> x.charAt(n, f, 6));
                silent(situation, x -> x.charAt(n, f, -1));
            }
        }
    }

    private static void silent(Consumer<OrderedKeys> situation, ToIntFunction<OrderedKeys> call) {
        int want = call.applyAsInt(Situations.made(situation));
        Situations.unchanged("a question", situation, call, want);
    }
}
