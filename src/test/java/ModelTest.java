import java.util.ArrayList;
import java.util.Arrays;
import java.util.List;

/**
 * Runs of calls on OrderedKeys and on a plain model of the document side by side. The calls come
 * from a fixed row of numbers, so that every run of this test is the same.
 */
public final class ModelTest {
    private static final int OBJECTS = 4000;
    private static final int CALLS = 512;
    private static final int MOST_FAULTS_TOLD = 20;

    private static long seed = 20261115L;
    private static int wrong = 0;

    public static void main(String[] args) {
        for (int i = 0; i < OBJECTS; i++) {
            walk(i);
        }
        System.out.println(wrong == 0 ? "all answers are the model's" : wrong + " wrong answers");
        if (wrong != 0) {
            System.exit(1);
        }
    }

    private static int below(int bound) {
        seed = seed * 6364136223846793005L + 1442695040888963407L;
        return (int) ((seed >>> 33) % bound);
    }

    private static int pick(int... choices) {
        return choices[below(choices.length)];
    }

    private static int anyInt() {
        return pick(0, 1, -1, 2, Integer.MIN_VALUE, Integer.MAX_VALUE, below(1 << 30) - (1 << 29));
    }

    private static int anyLetter() {
        return below(16) == 0
                ? pick(-1, 256, Integer.MIN_VALUE, Integer.MAX_VALUE)
                : pick(0, 0, 1, 97, 98, 127, 128, 254, 255, below(256));
    }

    private static int anyField() {
        return below(12) == 0 ? pick(-1, 4, 5, Integer.MIN_VALUE, Integer.MAX_VALUE) : below(4);
    }

    private static int anyPosition(int size) {
        return below(12) == 0
                ? pick(-1, size, 20, Integer.MIN_VALUE, Integer.MAX_VALUE)
                : below(size + 1);
    }

    private static void walk(int run) {
        int fields = below(8) == 0 ? anyInt() : 1 + below(4);
        int schema = below(1 << 30) ^ below(1 << 30) << 8;
        OrderedKeys x = new OrderedKeys(fields, schema);
        Model model = new Model(fields, schema);
        // Some runs rarely remove, so that the index is often full.
        int removing = pick(1, 4, 8);
        for (int i = 0; i < CALLS; i++) {
            int call = below(40 + removing);
            if (call < 40) {
                step(run, x, model, call);
            } else {
                int position = anyPosition(model.entries.size());
                due(run, "remove(" + position + ")", x.remove(position), model.remove(position));
            }
        }
    }

    private static void step(int run, OrderedKeys x, Model model, int call) {
        int f = anyField();
        int p = anyPosition(model.entries.size());
        int v = anyInt();
        int c = anyLetter();
        int i = pick(-1, 0, 1, 2, 3, 4, 5, 6, Integer.MIN_VALUE, Integer.MAX_VALUE);
        if (call < 2) {
            due(run, "setNull(" + f + ")", x.setNull(f), model.setNull(f));
        } else if (call < 6) {
            due(run, "setInt(" + f + ", " + v + ")", x.setInt(f, v), model.setInt(f, v));
        } else if (call < 9) {
            due(run, "setText(" + f + ")", x.setText(f), model.setText(f));
        } else if (call < 18) {
            due(run, "append(" + f + ", " + c + ")", x.append(f, c), model.append(f, c));
        } else if (call < 23) {
            due(run, "add(" + v + ")", x.add(v), model.add(v));
        } else if (call < 25) {
            due(run, "load(" + p + ")", x.load(p), model.load(p));
        } else if (call < 26) {
            due(run, "size()", x.size(), model.entries.size());
        } else if (call < 28) {
            due(run, "tag(" + p + ")", x.tag(p), model.tag(p));
        } else if (call < 30) {
            due(run, "below()", x.below(), model.below());
        } else if (call < 32) {
            due(run, "matching(" + f + ")", x.matching(f), model.matching(f));
        } else if (call < 34) {
            due(run, "intAt(" + p + ", " + f + ")", x.intAt(p, f), model.intAt(p, f));
        } else if (call < 38) {
            String text = "charAt(" + p + ", " + f + ", " + i + ")";
            due(run, text, x.charAt(p, f, i), model.charAt(p, f, i));
        } else {
            int got = x.nullAt(p, f) ? 1 : 0;
            due(run, "nullAt(" + p + ", " + f + ")", got, model.nullAt(p, f) ? 1 : 0);
        }
    }

    private static void due(int run, String call, int got, int want) {
        if (got != want && wrong++ < MOST_FAULTS_TOLD) {
            System.out.println("run " + run + ": " + call + " answered " + got + ", due is " + want);
        }
    }

    /** A value is absent (null), an int as an array of one, or a text as an array of its letters. */
    private record Entry(int[][] tuple, int tag, int time) {
    }

    /** The entries stand in no order here: a position is counted anew each time it is asked for. */
    private static final class Model {
        final int fields;
        final int schema;
        final List<Entry> entries = new ArrayList<>();
        int[][] stage;
        int time = 0;

        Model(int fields, int schema) {
            this.fields = Math.max(1, Math.min(4, fields));
            this.schema = schema;
            stage = new int[this.fields][];
        }

        boolean flag(int field, int bit) {
            return (schema >>> (4 * field + bit)) % 2 != 0;
        }

        boolean isField(int field) {
            return 0 <= field && field < fields;
        }

        boolean isText(int field) {
            return flag(field, 0);
        }

        int compareValues(int field, int[] a, int[] b) {
            if (a == null || b == null) {
                int nullsBehind = (a == null ? 1 : 0) - (b == null ? 1 : 0);
                return flag(field, 2) ? -nullsBehind : nullsBehind;
            }
            int order = Arrays.compare(a, b);
            return flag(field, 1) ? -order : order;
        }

        int compareTuples(int[][] a, int[][] b) {
            for (int f = 0; f < fields; f++) {
                int order = compareValues(f, a[f], b[f]);
                if (order != 0) {
                    return order;
                }
            }
            return 0;
        }

        int position(Entry entry) {
            int before = 0;
            for (Entry other : entries) {
                int order = compareTuples(other.tuple(), entry.tuple());
                if (order < 0 || order == 0 && other.time() < entry.time()) {
                    before++;
                }
            }
            return before;
        }

        Entry at(int position) {
            for (Entry entry : entries) {
                if (position(entry) == position) {
                    return entry;
                }
            }
            return null;
        }

        int[] valueAt(int position, int field) {
            Entry entry = at(position);
            return entry == null || !isField(field) ? null : entry.tuple()[field];
        }

        int setNull(int field) {
            if (!isField(field)) {
                return -1;
            }
            stage[field] = null;
            return 0;
        }

        int setInt(int field, int value) {
            if (!isField(field)) {
                return -1;
            }
            if (isText(field)) {
                return -2;
            }
            stage[field] = new int[] {value};
            return 0;
        }

        int setText(int field) {
            if (!isField(field)) {
                return -1;
            }
            if (!isText(field)) {
                return -2;
            }
            stage[field] = new int[0];
            return 0;
        }

        int append(int field, int c) {
            if (!isField(field)) {
                return -1;
            }
            if (!isText(field) || stage[field] == null) {
                return -2;
            }
            if (c < 0 || c > 255) {
                return -4;
            }
            int length = stage[field].length;
            if (length == 6) {
                return -3;
            }
            stage[field] = Arrays.copyOf(stage[field], length + 1);
            stage[field][length] = c;
            return length + 1;
        }

        int add(int tag) {
            if (entries.size() == 20) {
                return -3;
            }
            Entry entry = new Entry(stage.clone(), tag, time++);
            entries.add(entry);
            return position(entry);
        }

        int remove(int position) {
            Entry entry = at(position);
            if (entry == null) {
                return -5;
            }
            entries.removeIf(other -> other.time() == entry.time());
            return entries.size();
        }

        int load(int position) {
            Entry entry = at(position);
            if (entry == null) {
                return -5;
            }
            stage = entry.tuple().clone();
            return entry.tag();
        }

        int tag(int position) {
            Entry entry = at(position);
            return entry == null ? 0 : entry.tag();
        }

        int below() {
            int smaller = 0;
            for (Entry entry : entries) {
                smaller += compareTuples(entry.tuple(), stage) < 0 ? 1 : 0;
            }
            return smaller;
        }

        int matching(int prefix) {
            if (prefix < 0 || prefix > fields) {
                return -1;
            }
            int equal = 0;
            for (Entry entry : entries) {
                boolean same = true;
                for (int f = 0; f < prefix; f++) {
                    same &= Arrays.equals(entry.tuple()[f], stage[f]);
                }
                equal += same ? 1 : 0;
            }
            return equal;
        }

        int intAt(int position, int field) {
            int[] value = valueAt(position, field);
            return value == null || isText(field) ? 0 : value[0];
        }

        int charAt(int position, int field, int i) {
            int[] value = valueAt(position, field);
            boolean there = value != null && isText(field) && 0 <= i && i < value.length;
            return there ? value[i] : -5;
        }

        boolean nullAt(int position, int field) {
            return at(position) != null && isField(field) && valueAt(position, field) == null;
        }
    }
}
