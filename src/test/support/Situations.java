import java.util.function.Consumer;
import java.util.function.ToIntFunction;

/** Objects in which calls are tried, and the test that a call leaves them as they were. */
final class Situations {
    static final int FIELDS = 4;
    static final int SCHEMA = Tuples.schema(
            Due.INT, Due.TEXT, Due.INT | Due.DESCENDING, Due.TEXT | Due.DESCENDING | Due.NULLS_FIRST);

    private Situations() {
    }

    /** No entries, a stage of nulls. */
    static void isNew(OrderedKeys x) {
    }

    /** No entries, no nulls in the stage, and a text of six letters in field 3. */
    static void isStaged(OrderedKeys x) {
        Tuples.stage(x, 5, Tuples.text(7, 0), Due.MIN, Tuples.repeated(255, 6));
    }

    /** Four entries, two of them equal to the stage, with nulls in fields 2 and 3. */
    static void hasEntries(OrderedKeys x) {
        Tuples.add(x, 11, 5, Tuples.text(), Due.MIN, Tuples.repeated(255, 6));
        Tuples.add(x, OrderedKeys.NONE, null, Tuples.text(1, 2, 3), 0, Tuples.text(0));
        Tuples.add(x, 13, 4, Tuples.repeated(9, 6), null, null);
        x.add(0);
    }

    /** Twenty entries, some of them equal, and a stage that none of them is equal to. */
    static void isFull(OrderedKeys x) {
        for (int i = 0; i < Due.CAPACITY; i++) {
            Tuples.add(x, i, i / 3, Tuples.text(i % 2), i % 2 == 0 ? null : i, null);
        }
        Tuples.stage(x, 3, Tuples.text(0), 4, Tuples.repeated(0, 6));
    }

    static OrderedKeys made(Consumer<OrderedKeys> situation) {
        OrderedKeys x = new OrderedKeys(FIELDS, SCHEMA);
        situation.accept(x);
        return x;
    }

    /** The call has this answer in this situation and changes nothing. */
    static void unchanged(
            String name, Consumer<OrderedKeys> situation, ToIntFunction<OrderedKeys> call, int want) {
        Due.answer(name, call.applyAsInt(made(situation)), want);
        String before = State.of(() -> made(situation));
        String after = State.of(() -> {
            OrderedKeys x = made(situation);
            call.applyAsInt(x);
            return x;
        });
        Due.same("state after " + name, after, before);
    }
}
