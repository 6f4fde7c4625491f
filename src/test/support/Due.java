/** Compares answers with those that are due, and tells the sentence of the document at fault. */
final class Due {
    static final int MIN = Integer.MIN_VALUE;
    static final int MAX = Integer.MAX_VALUE;
    static final int INT = 0;
    static final int TEXT = 1;
    static final int DESCENDING = 2;
    static final int NULLS_FIRST = 4;
    static final int UNUSED = 8;
    static final int ALL_FLAGS = 16;
    static final int CAPACITY = 20;

    private static final int MOST_FAULTS_TOLD = 10;

    private static String sentence = "";
    private static int sentences = 0;
    private static int wrong = 0;
    private static int wrongInSentence = 0;

    private Due() {
    }

    /** From here on, answers are tested for this sentence. */
    static void sentence(String text) {
        sentence = text;
        sentences++;
        wrongInSentence = 0;
    }

    static void answer(String call, int got, int want) {
        if (got != want) {
            fault(call + " answered " + got + ", due is " + want);
        }
    }

    static void answer(String call, boolean got, boolean want) {
        if (got != want) {
            fault(call + " answered " + got + ", due is " + want);
        }
    }

    static void same(String what, String got, String want) {
        if (!got.equals(want)) {
            fault(what + ": got\n" + got + "due is\n" + want);
        }
    }

    private static void fault(String text) {
        wrong++;
        if (wrongInSentence++ < MOST_FAULTS_TOLD) {
            System.out.println("[" + sentence + "] " + text);
        }
    }

    /** Ends the program, with 1 if an answer was wrong. */
    static void end() {
        System.out.println(sentences + " sentences, " + wrong + " wrong answers");
        if (wrong != 0 || sentences == 0) {
            System.exit(1);
        }
    }
}
