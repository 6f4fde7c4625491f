/**
 * Rule 7 of LANGUAGE.md: no call throws, for any arguments in any state. The answers are not looked
 * at here: most of the calls come behind the 512th, where the document leaves them free.
 */
public final class AnyArgumentsTest {
    private static final int[] ARGUMENTS = {
        0, 1, 2, 3, 4, 5, 6, 7, 18, 19, 20, 21, 83, 84, 85, 255, 256, 511, 512, 1 << 16, 1 << 28,
        1 << 29, 1 << 30, (1 << 30) + 1, Integer.MAX_VALUE - 1, Integer.MAX_VALUE,
        -1, -2, -3, -4, -5, -6, -20, -21, -84, -255, -256, -(1 << 16), -(1 << 28), -(1 << 29),
        -(1 << 30), Integer.MIN_VALUE, Integer.MIN_VALUE + 1
    };
    private static final int SMALL = 20;
    private static final int KINDS = 14;
    private static final int CALLS = 50_000;
    private static final int MOST_FAULTS_TOLD = 20;

    private static long seed = 20261116L;
    private static int thrown = 0;

    public static void main(String[] args) {
        for (int fields : ARGUMENTS) {
            for (int schema : new int[] {0, -1, 0x1111, 0x1010, 0x7654, Integer.MIN_VALUE}) {
                walk(new OrderedKeys(fields, schema));
            }
        }
        allArguments(0);
        allArguments(7);
        allArguments(20);
        System.out.println(thrown == 0 ? "no call throws" : thrown + " calls threw");
        if (thrown != 0) {
            System.exit(1);
        }
    }

    private static int upTo(int bound) {
        seed = seed * 6364136223846793005L + 1442695040888963407L;
        return (int) ((seed >>> 33) % bound);
    }

    /** Mostly small, so that many calls are not refused. */
    private static int anyArgument() {
        return upTo(4) == 0 ? ARGUMENTS[upTo(ARGUMENTS.length)] : upTo(SMALL);
    }

    private static void walk(OrderedKeys x) {
        for (int i = 0; i < CALLS; i++) {
            int first = upTo(2) == 0 ? upTo(4) : anyArgument();
            tried(x, upTo(KINDS), first, anyArgument(), anyArgument());
        }
    }

    /** Every call with every choice of arguments, on an index that held so many entries at first. */
    private static void allArguments(int entries) {
        for (int kind = 0; kind < KINDS; kind++) {
            OrderedKeys x = new OrderedKeys(4, 0x1010);
            for (int i = 0; i < entries; i++) {
                x.setInt(0, i);
                x.setText(1);
                x.add(i);
            }
            for (int a : ARGUMENTS) {
                for (int b : ARGUMENTS) {
                    for (int c : ARGUMENTS) {
                        tried(x, kind, a, b, c);
                    }
                }
            }
        }
    }

    private static void tried(OrderedKeys x, int kind, int a, int b, int c) {
        try {
            call(x, kind, a, b, c);
        } catch (RuntimeException | Error fault) {
            if (thrown++ < MOST_FAULTS_TOLD) {
                System.out.println("call " + kind + " of " + a + ", " + b + ", " + c + ": " + fault);
            }
        }
    }

    private static void call(OrderedKeys x, int kind, int a, int b, int c) {
        switch (kind) {
            case 0 -> x.setNull(a);
            case 1 -> x.setInt(a, b);
            case 2 -> x.setText(a);
            case 3 -> x.append(a, b);
            case 4 -> x.add(a);
            case 5 -> x.remove(a);
            case 6 -> x.load(a);
            case 7 -> x.size();
            case 8 -> x.tag(a);
            case 9 -> x.below();
            case 10 -> x.matching(a);
            case 11 -> x.intAt(b, a);
            case 12 -> x.charAt(b, a, c);
            default -> x.nullAt(b, a);
        }
    }
}
