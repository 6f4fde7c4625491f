import java.util.function.Supplier;

/**
 * All that the calls can tell about an object. Each part is looked at on an object made anew, so
 * that looking at one part cannot hide a change of another, and none has more than 512 calls.
 */
final class State {
    private static final int MAX_FIELDS = 4;
    private static final int MAX_LETTERS = 6;
    private static final int STAGE_TAG = 123456789;

    private State() {
    }

    static String of(Supplier<OrderedKeys> maker) {
        StringBuilder told = new StringBuilder();
        int size = maker.get().size();
        told.append("size ").append(size).append('\n');
        for (int position = -1; position <= size; position++) {
            tellEntry(told, maker.get(), position);
        }
        tellStage(told, maker.get());
        tellPlace(told, maker.get());
        tellRoom(told, maker.get());
        return told.toString();
    }

    private static void tellEntry(StringBuilder told, OrderedKeys x, int position) {
        told.append("entry ").append(position).append(" tag ").append(x.tag(position)).append(':');
        for (int f = 0; f < MAX_FIELDS; f++) {
            told.append(x.nullAt(position, f) ? " null " : " ").append(x.intAt(position, f));
            for (int i = 0; i < MAX_LETTERS; i++) {
                told.append(',').append(x.charAt(position, f, i));
            }
        }
        told.append('\n');
    }

    private static void tellStage(StringBuilder told, OrderedKeys x) {
        if (x.size() == Due.CAPACITY) {
            x.remove(0);
        }
        told.append("stage as ");
        tellEntry(told, x, x.add(STAGE_TAG));
        for (int f = 0; f < MAX_FIELDS; f++) {
            told.append("append ").append(x.append(f, 1)).append('\n');
        }
    }

    private static void tellPlace(StringBuilder told, OrderedKeys x) {
        told.append("below ").append(x.below()).append('\n');
        for (int prefix = -1; prefix <= MAX_FIELDS + 1; prefix++) {
            told.append("matching ").append(x.matching(prefix)).append('\n');
        }
    }

    private static void tellRoom(StringBuilder told, OrderedKeys x) {
        for (int i = 0; i <= Due.CAPACITY; i++) {
            told.append("add ").append(x.add(STAGE_TAG + i)).append('\n');
        }
        for (int position = 0; position < Due.CAPACITY; position++) {
            told.append("tag ").append(x.tag(position)).append('\n');
        }
    }
}
