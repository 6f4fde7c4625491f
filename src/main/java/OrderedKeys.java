/**
 * An index of at most 20 entries, each a tuple of one to four fields and a tag, kept in the
 * order that its schema asks for.
 */
public final class OrderedKeys {
    public static final int BAD_FIELD = -1;
    public static final int BAD_TYPE = -2;
    public static final int FULL = -3;
    public static final int BAD_CHAR = -4;
    public static final int NONE = -5;

    private static final int MAX_ENTRIES = 20;
    private static final int MAX_FIELDS = 4;
    private static final int MAX_LETTERS = 6;
    private static final int MAX_LETTER = 255;

    // The stage is one more row behind those of the entries, so that a tuple is compared and
    // copied in the same way wherever it stands.
    private static final int STAGE = 20;
    private static final int CELLS = 84;

    private static final int BITS_A_FIELD = 4;
    private static final int TEXT = 1;
    private static final int DESCENDING = 2;
    private static final int NULLS_FIRST = 4;

    private static final int LETTER_BITS = 9;
    private static final int LETTER_MASK = 511;

    private final int fields;
    private final int schema;
    private int count = 0;

    // The rows of the entries in their order, then the rows that are free: entries change their
    // position without their tuples being moved.
    private final int[] rows = new int[MAX_ENTRIES];
    private final int[] tags = new int[MAX_ENTRIES];

    // A cell that is not filled is null, so that a new stage is all null.
    private final boolean[] filled = new boolean[CELLS];

    // An int as it is; a text as its letters plus one, nine bits each, the first letter highest
    // and 0 behind the last one. So two values of a field are in the order of these numbers.
    private final long[] values = new long[CELLS];

    public OrderedKeys(int fields, int schema) {
        this.fields = fields < 1 ? 1 : fields > MAX_FIELDS ? MAX_FIELDS : fields;
        this.schema = schema;
        for (int i = 0; i < MAX_ENTRIES; i++) {
            rows[i] = i;
        }
    }

    public int setNull(int field) {
        if (!isField(field)) {
            return BAD_FIELD;
        }
        filled[cell(STAGE, field)] = false;
        return 0;
    }

    public int setInt(int field, int value) {
        if (!isField(field)) {
            return BAD_FIELD;
        }
        if (isSet(field, TEXT)) {
            return BAD_TYPE;
        }
        fillStage(field, value);
        return 0;
    }

    public int setText(int field) {
        if (!isField(field)) {
            return BAD_FIELD;
        }
        if (!isSet(field, TEXT)) {
            return BAD_TYPE;
        }
        fillStage(field, 0L);
        return 0;
    }

    public int append(int field, int c) {
        if (!isField(field)) {
            return BAD_FIELD;
        }
        int target = cell(STAGE, field);
        if (!isSet(field, TEXT) || !filled[target]) {
            return BAD_TYPE;
        }
        if (c < 0 || c > MAX_LETTER) {
            return BAD_CHAR;
        }
        int length = textLength(values[target]);
        if (length >= MAX_LETTERS) {
            return FULL;
        }
        values[target] |= (c + 1L) << letterShift(length);
        return length + 1;
    }

    public int add(int tag) {
        if (count >= MAX_ENTRIES) {
            return FULL;
        }
        int row = rows[count];
        copyTuple(STAGE, row);
        tags[row] = tag;
        int position = countNotBehindStage();
        for (int i = count; i > position; i--) {
            rows[i] = rows[i - 1];
        }
        rows[position] = row;
        count++;
        return position;
    }

    public int remove(int position) {
        if (!isEntry(position)) {
            return NONE;
        }
        int freed = rows[position];
        count--;
        for (int i = position; i < count; i++) {
            rows[i] = rows[i + 1];
        }
        rows[count] = freed;
        return count;
    }

    public int load(int position) {
        if (!isEntry(position)) {
            return NONE;
        }
        int row = rows[position];
        copyTuple(row, STAGE);
        return tags[row];
    }

    public int size() {
        return count;
    }

    public int tag(int position) {
        return isEntry(position) ? tags[rows[position]] : 0;
    }

    public int below() {
        int smaller = 0;
        for (int i = 0; i < count; i++) {
            if (compareToStage(rows[i], fields) < 0) {
                smaller++;
            }
        }
        return smaller;
    }

    public int matching(int prefix) {
        if (prefix < 0 || prefix > fields) {
            return BAD_FIELD;
        }
        int equal = 0;
        for (int i = 0; i < count; i++) {
            if (compareToStage(rows[i], prefix) == 0) {
                equal++;
            }
        }
        return equal;
    }

    public int intAt(int position, int field) {
        if (!hasValue(position, field) || isSet(field, TEXT)) {
            return 0;
        }
        return (int) values[cell(rows[position], field)];
    }

    public int charAt(int position, int field, int i) {
        if (!hasValue(position, field) || !isSet(field, TEXT) || i < 0 || i >= MAX_LETTERS) {
            return NONE;
        }
        long text = values[cell(rows[position], field)];
        int code = letterCode(text, i);
        return code == 0 ? NONE : code - 1;
    }

    public boolean nullAt(int position, int field) {
        return isEntry(position) && isField(field) && !filled[cell(rows[position], field)];
    }

    private boolean isField(int field) {
        return field >= 0 && field < fields;
    }

    private boolean isEntry(int position) {
        return position >= 0 && position < count;
    }

    private boolean hasValue(int position, int field) {
        return isEntry(position) && isField(field) && filled[cell(rows[position], field)];
    }

    private boolean isSet(int field, int flag) {
        return ((schema >> (BITS_A_FIELD * field)) & flag) != 0;
    }

    private static int cell(int row, int field) {
        return row * MAX_FIELDS + field;
    }

    private void fillStage(int field, long value) {
        int target = cell(STAGE, field);
        filled[target] = true;
        values[target] = value;
    }

    private void copyTuple(int from, int to) {
        for (int field = 0; field < fields; field++) {
            int source = cell(from, field);
            int target = cell(to, field);
            filled[target] = filled[source];
            values[target] = values[source];
        }
    }

    private static int letterShift(int i) {
        return LETTER_BITS * (MAX_LETTERS - 1 - i);
    }

    private static int letterCode(long text, int i) {
        return (int) (text >> letterShift(i)) & LETTER_MASK;
    }

    private static int textLength(long text) {
        int length = 0;
        for (int i = 0; i < MAX_LETTERS; i++) {
            if (letterCode(text, i) != 0) {
                length++;
            }
        }
        return length;
    }

    // Equal tuples that are already there were added earlier, so a new one goes behind them.
    private int countNotBehindStage() {
        int notBehind = 0;
        for (int i = 0; i < count; i++) {
            if (compareToStage(rows[i], fields) <= 0) {
                notBehind++;
            }
        }
        return notBehind;
    }

    // Below 0, 0, above 0: in fields 0 to prefix - 1 the row comes before the stage, equals it,
    // comes behind it.
    private int compareToStage(int row, int prefix) {
        for (int field = 0; field < prefix; field++) {
            int order = compareFieldToStage(row, field);
            if (order != 0) {
                return order;
            }
        }
        return 0;
    }

    private int compareFieldToStage(int row, int field) {
        int a = cell(row, field);
        int b = cell(STAGE, field);
        if (!filled[a] && !filled[b]) {
            return 0;
        }
        // Looked at ahead of DESCENDING, which does not turn the place of nulls round.
        if (!filled[a]) {
            return isSet(field, NULLS_FIRST) ? -1 : 1;
        }
        if (!filled[b]) {
            return isSet(field, NULLS_FIRST) ? 1 : -1;
        }
        if (values[a] == values[b]) {
            return 0;
        }
        boolean smaller = values[a] < values[b];
        return smaller != isSet(field, DESCENDING) ? -1 : 1;
    }
}
