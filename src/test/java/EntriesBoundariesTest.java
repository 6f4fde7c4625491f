import java.util.stream.IntStream;

/** One method a sentence of promises 6 to 8, with the boundary cases that it names. */
public final class EntriesBoundariesTest {
    private static final int[] NEVER_THERE = {-1, -2, -20, 20, 21, 1 << 30, Due.MIN, Due.MAX};
    private static final int SCHEMA = Tuples.schema(
            Due.INT, Due.TEXT | Due.DESCENDING, Due.INT | Due.NULLS_FIRST, Due.TEXT);

    public static void main(String[] args) {
        addAddsTupleWithTag();
        addKeepsTheStage();
        addKeepsATupleOfItsOwn();
        addToFull();
        addAfterFull();
        addAnswersPosition();
        addAnswersFirstAndLastPosition();
        removeTakesOut();
        removeTakesOneOfEquals();
        removeKeepsTheStage();
        removeNone();
        removeNoneBehindTheLast();
        removeAnswersHowManyAreLeft();
        removeMakesRoom();
        loadMakesTheStage();
        loadKeepsTheEntries();
        loadNone();
        loadNoneBehindTheLast();
        loadAnswersTag();
        loadOfTagNone();
        Due.end();
    }

    private static OrderedKeys filled(int size) {
        OrderedKeys x = new OrderedKeys(1, 0);
        Tuples.fill(x, size);
        return x;
    }

    /** The ints 0 to size - 1 and the tags 100 and up, with a gap where entries are missing. */
    private static void dueInts(OrderedKeys x, int... ints) {
        Due.answer("size()", x.size(), ints.length);
        for (int i = 0; i < ints.length; i++) {
            Due.answer("intAt(" + i + ", 0)", x.intAt(i, 0), ints[i]);
            Due.answer("tag(" + i + ")", x.tag(i), 100 + ints[i]);
        }
    }

    private static int[] upTo(int size) {
        return without(size, size);
    }

    private static int[] without(int size, int missing) {
        return IntStream.range(0, size).filter(i -> i != missing).toArray();
    }

    // Promise 6
    private static void addAddsTupleWithTag() {
        Due.sentence("6: Adds the stage's tuple with a tag");
        Object[][] tuples = {
            {Due.MIN, Tuples.repeated(255, 6), null, Tuples.text()},
            {Due.MAX, Tuples.text(), 0, null},
            {null, null, null, null},
            {0, Tuples.text(0), Due.MAX, Tuples.repeated(0, 6)}
        };
        for (Object[] tuple : tuples) {
            for (int tag : new int[] {0, -1, Due.MIN, Due.MAX}) {
                OrderedKeys x = new OrderedKeys(4, SCHEMA);
                Due.answer("add(" + tag + ")", Tuples.add(x, tag, tuple), 0);
                Tuples.dueTags(x, tag);
                Tuples.dueTuple(x, 0, tuple);
            }
        }
    }

    private static void addKeepsTheStage() {
        Due.sentence("6: the stage stays");
        Object[][] tuples = {
            {null, null, null, null},
            {0, Tuples.text(), Due.MIN, Tuples.repeated(255, 6)},
            {Due.MAX, Tuples.text(1), null, Tuples.text(0, 0)}
        };
        for (Object[] tuple : tuples) {
            OrderedKeys x = new OrderedKeys(4, SCHEMA);
            Tuples.stage(x, tuple);
            for (int i = 0; i < Due.CAPACITY; i++) {
                Due.answer("add, " + i, x.add(i), i);
                Due.answer("matching(4)", x.matching(4), i + 1);
            }
            x.remove(0);
            Due.answer("add", x.add(Due.CAPACITY), 19);
            Tuples.dueTuple(x, 19, tuple);
            int length = tuple[1] == null ? -1 : ((int[]) tuple[1]).length;
            int due = length < 0 ? OrderedKeys.BAD_TYPE : length + 1;
            Due.answer("append to the stage", x.append(1, 5), due);
        }
    }

    private static void addKeepsATupleOfItsOwn() {
        Due.sentence("6: Adds the stage's tuple: later calls on the stage do not reach it");
        OrderedKeys x = new OrderedKeys(4, SCHEMA);
        Tuples.add(x, 1, 5, Tuples.text(6), null, Tuples.text());
        x.setInt(0, 9);
        x.append(1, 7);
        x.setInt(2, 8);
        x.append(3, 0);
        Tuples.dueTuple(x, 0, 5, Tuples.text(6), null, Tuples.text());
        x.setNull(0);
        x.setText(1);
        x.setNull(3);
        Tuples.dueTuple(x, 0, 5, Tuples.text(6), null, Tuples.text());
    }

    private static void addToFull() {
        Due.sentence("6: The index has 20 entries: FULL, nothing changes");
        for (Object value : new Object[] {null, Due.MIN, 0, 7, 19, Due.MAX}) {
            OrderedKeys x = filled(Due.CAPACITY);
            Tuples.stage(x, value);
            int below = x.below();
            int matching = x.matching(1);
            for (int tag : new int[] {0, 1, OrderedKeys.FULL, Due.MIN, Due.MAX}) {
                Due.answer("add(" + tag + ")", x.add(tag), OrderedKeys.FULL);
            }
            dueInts(x, upTo(Due.CAPACITY));
            Due.answer("below()", x.below(), below);
            Due.answer("matching(1)", x.matching(1), matching);
            Due.answer("nullAt(20, 0)", x.nullAt(20, 0), false);
        }
        for (int size = 0; size < Due.CAPACITY; size++) {
            OrderedKeys x = filled(size);
            x.setInt(0, Due.MAX);
            Due.answer("add to " + size, x.add(1), size);
        }
    }

    private static void addAfterFull() {
        Due.sentence("6: 20 entries: FULL, until one is taken out");
        for (int p = 0; p < Due.CAPACITY; p++) {
            OrderedKeys x = filled(Due.CAPACITY);
            x.setInt(0, p);
            Due.answer("add to 20", x.add(1), OrderedKeys.FULL);
            Due.answer("remove(" + p + ")", x.remove(p), 19);
            Due.answer("add to 19", x.add(100 + p), p);
            Due.answer("add to 20", x.add(1), OrderedKeys.FULL);
            dueInts(x, upTo(Due.CAPACITY));
        }
    }

    private static void addAnswersPosition() {
        Due.sentence("6: Else answers the new entry's position");
        for (int size = 0; size < Due.CAPACITY; size++) {
            for (int value = -1; value <= size; value++) {
                OrderedKeys x = filled(size);
                x.setInt(0, value);
                // Behind the one that is equal, if there is one.
                int due = Math.min(value + 1, size);
                Due.answer("add " + value + " to " + size, x.add(77), due);
                Due.answer("tag(" + due + ")", x.tag(due), 77);
                Due.answer("intAt(" + due + ", 0)", x.intAt(due, 0), value);
                Due.answer("size()", x.size(), size + 1);
            }
        }
    }

    private static void addAnswersFirstAndLastPosition() {
        Due.sentence("6: answers the new entry's position: always first, always last");
        OrderedKeys first = new OrderedKeys(1, Due.DESCENDING);
        OrderedKeys last = new OrderedKeys(1, 0);
        for (int i = 0; i < Due.CAPACITY; i++) {
            Due.answer("add before all", Tuples.add(first, i, i), 0);
            Due.answer("add behind all", Tuples.add(last, i, i), i);
        }
        for (int i = 0; i < Due.CAPACITY; i++) {
            Due.answer("tag(" + i + ")", first.tag(i), 19 - i);
            Due.answer("tag(" + i + ")", last.tag(i), i);
        }
    }

    // Promise 7
    private static void removeTakesOut() {
        Due.sentence("7: Takes the entry at this position out");
        for (int size = 1; size <= Due.CAPACITY; size++) {
            for (int p = 0; p < size; p++) {
                OrderedKeys x = filled(size);
                Due.answer("remove(" + p + ") of " + size, x.remove(p), size - 1);
                dueInts(x, without(size, p));
            }
        }
    }

    private static void removeTakesOneOfEquals() {
        Due.sentence("7: Takes the entry at this position out, and none that is equal to it");
        for (int p = 0; p < 4; p++) {
            OrderedKeys x = new OrderedKeys(2, Due.TEXT);
            for (int i = 0; i < 4; i++) {
                x.add(100 + i);
            }
            Due.answer("remove(" + p + ")", x.remove(p), 3);
            for (int i = 0; i < 3; i++) {
                Due.answer("tag(" + i + ")", x.tag(i), i < p ? 100 + i : 101 + i);
            }
            Due.answer("matching(2)", x.matching(2), 3);
        }
    }

    private static void removeKeepsTheStage() {
        Due.sentence("7: Takes the entry out: the stage is no entry");
        OrderedKeys x = new OrderedKeys(4, SCHEMA);
        Object[] tuple = {3, Tuples.text(1, 2), null, Tuples.repeated(4, 6)};
        Due.answer("add", Tuples.add(x, 1, tuple), 0);
        Due.answer("remove(0)", x.remove(0), 0);
        Due.answer("append to six", x.append(3, 4), OrderedKeys.FULL);
        Due.answer("add", x.add(2), 0);
        Tuples.dueTuple(x, 0, tuple);
        Due.answer("append", x.append(1, 3), 3);
    }

    private static void removeNone() {
        Due.sentence("7: remove: There is none: NONE, nothing changes");
        for (int size = 0; size <= Due.CAPACITY; size++) {
            OrderedKeys x = filled(size);
            x.setInt(0, 5);
            for (int p : NEVER_THERE) {
                Due.answer("remove(" + p + ")", x.remove(p), OrderedKeys.NONE);
            }
            dueInts(x, upTo(size));
            Due.answer("below()", x.below(), Math.min(size, 5));
        }
    }

    private static void removeNoneBehindTheLast() {
        Due.sentence("7: remove: There is none at the position behind the last: NONE");
        for (int size = 0; size <= Due.CAPACITY; size++) {
            OrderedKeys x = filled(size);
            for (int p = size; p < 25; p++) {
                Due.answer("remove(" + p + ") of " + size, x.remove(p), OrderedKeys.NONE);
            }
            dueInts(x, upTo(size));
            // An entry was there, and is not any more.
            if (size > 0) {
                x.remove(size - 1);
                Due.answer("remove again", x.remove(size - 1), OrderedKeys.NONE);
                dueInts(x, upTo(size - 1));
            }
        }
    }

    private static void removeAnswersHowManyAreLeft() {
        Due.sentence("7: Else answers how many are left");
        OrderedKeys first = filled(Due.CAPACITY);
        OrderedKeys last = filled(Due.CAPACITY);
        OrderedKeys middle = filled(Due.CAPACITY);
        for (int left = 19; left >= 0; left--) {
            Due.answer("remove(0)", first.remove(0), left);
            Due.answer("remove the last", last.remove(left), left);
            Due.answer("remove in the middle", middle.remove((left + 1) / 2), left);
            Due.answer("size()", first.size(), left);
            Due.answer("size()", last.size(), left);
            Due.answer("size()", middle.size(), left);
        }
        Due.answer("remove(0) of none", first.remove(0), OrderedKeys.NONE);
        Due.answer("remove(0) of none", last.remove(0), OrderedKeys.NONE);
        Due.answer("remove(0) of none", middle.remove(0), OrderedKeys.NONE);
    }

    private static void removeMakesRoom() {
        Due.sentence("7: Takes the entry out: all twenty, and twenty anew");
        OrderedKeys x = new OrderedKeys(2, Tuples.schema(Due.INT, Due.TEXT));
        for (int i = 0; i < Due.CAPACITY; i++) {
            Tuples.add(x, i, i, Tuples.text(i, 255));
        }
        for (int i = 0; i < Due.CAPACITY; i++) {
            x.remove(i % 2 == 0 ? 0 : x.size() - 1);
        }
        Due.answer("size()", x.size(), 0);
        x.setNull(1);
        for (int i = 0; i < Due.CAPACITY; i++) {
            x.setInt(0, 100 + i);
            Due.answer("add", x.add(i), i);
        }
        for (int i = 0; i < Due.CAPACITY; i++) {
            Tuples.dueField(x, i, 1, null);
            Due.answer("intAt(" + i + ", 0)", x.intAt(i, 0), 100 + i);
        }
    }

    // Promise 8
    private static void loadMakesTheStage() {
        Due.sentence("8: The stage becomes the tuple of the entry at this position");
        Object[][] tuples = {
            {Due.MIN, Tuples.repeated(255, 6), null, Tuples.text()},
            {0, null, Due.MIN, Tuples.text(0)},
            {Due.MAX, Tuples.text(), 0, null},
            {null, Tuples.text(0, 0), Due.MAX, Tuples.repeated(0, 6)}
        };
        for (int p = 0; p < tuples.length; p++) {
            for (Object[] before : tuples) {
                OrderedKeys x = new OrderedKeys(4, SCHEMA);
                for (int i = 0; i < tuples.length; i++) {
                    Due.answer("add", Tuples.add(x, i, tuples[i]), i);
                }
                Tuples.stage(x, before);
                Due.answer("load(" + p + ")", x.load(p), p);
                Due.answer("below()", x.below(), p);
                Due.answer("matching(4)", x.matching(4), 1);
                Due.answer("add", x.add(9), p + 1);
                Tuples.dueTuple(x, p + 1, tuples[p]);
            }
        }
    }

    private static void loadKeepsTheEntries() {
        Due.sentence("8: The stage becomes the tuple: the entry stays, and is not the stage");
        OrderedKeys x = new OrderedKeys(4, SCHEMA);
        Object[] tuple = {3, Tuples.text(1, 2), null, Tuples.text()};
        Tuples.add(x, 1, tuple);
        Due.answer("load(0)", x.load(0), 1);
        Tuples.dueTags(x, 1);
        x.setInt(0, 4);
        x.append(1, 3);
        x.setInt(2, 5);
        x.append(3, 0);
        Tuples.dueTuple(x, 0, tuple);
        Due.answer("load(0) again", x.load(0), 1);
        Due.answer("matching(4)", x.matching(4), 1);
        Due.answer("remove(0)", x.remove(0), 0);
        Due.answer("append to what was loaded", x.append(1, 3), 3);
    }

    private static void loadNone() {
        Due.sentence("8: load: There is none: NONE, nothing changes");
        for (int size = 0; size <= Due.CAPACITY; size++) {
            OrderedKeys x = filled(size);
            x.setInt(0, 5);
            for (int p : NEVER_THERE) {
                Due.answer("load(" + p + ")", x.load(p), OrderedKeys.NONE);
            }
            dueInts(x, upTo(size));
            Due.answer("below()", x.below(), Math.min(size, 5));
            Due.answer("matching(1)", x.matching(1), size > 5 ? 1 : 0);
        }
    }

    private static void loadNoneBehindTheLast() {
        Due.sentence("8: load: There is none at the position behind the last: NONE");
        for (int size = 0; size <= Due.CAPACITY; size++) {
            OrderedKeys x = filled(size);
            x.setInt(0, -1);
            for (int p = size; p < 25; p++) {
                Due.answer("load(" + p + ") of " + size, x.load(p), OrderedKeys.NONE);
            }
            Due.answer("below()", x.below(), 0);
            if (size > 0) {
                x.remove(size - 1);
                Due.answer("load what was removed", x.load(size - 1), OrderedKeys.NONE);
                Due.answer("below()", x.below(), 0);
                Due.answer("matching(1)", x.matching(1), 0);
            }
        }
    }

    private static void loadAnswersTag() {
        Due.sentence("8: Else answers its tag");
        int[] tags = {Due.MAX, 0, -1, -2, -3, -4, 1, 20, 256, Due.MIN};
        OrderedKeys x = new OrderedKeys(1, Due.DESCENDING);
        for (int i = 0; i < tags.length; i++) {
            Tuples.add(x, tags[i], i);
        }
        for (int i = 0; i < tags.length; i++) {
            Due.answer("load(" + i + ")", x.load(i), tags[tags.length - 1 - i]);
        }
    }

    private static void loadOfTagNone() {
        Due.sentence("8: (A tag may be NONE too.)");
        OrderedKeys x = new OrderedKeys(2, Tuples.schema(Due.INT, Due.TEXT));
        Tuples.add(x, OrderedKeys.NONE, 3, Tuples.text(4, 5));
        Tuples.stage(x, 9, null);
        Due.answer("load(0)", x.load(0), OrderedKeys.NONE);
        Due.answer("matching(2)", x.matching(2), 1);
        Due.answer("append to what was loaded", x.append(1, 6), 3);
        Due.answer("tag(0)", x.tag(0), OrderedKeys.NONE);
        Due.answer("size()", x.size(), 1);
        Due.answer("remove(0)", x.remove(0), 0);
    }
}
