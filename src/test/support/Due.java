import java.util.function.Supplier;

/** Holds what was answered against what is due. The last line of a test's main method is Due.end(). */
final class Due {
    /** What is wrong at one place is often wrong at many; of each sentence the first rows tell enough. */
    private static final int MOST_TOLD = 5;
    private static String sentence = "";
    private static int looked = 0;
    private static int wrong = 0;
    private static int wrongInSentence = 0;

    private Due() {
    }

    /** A test of its own for a sentence of the document, which stands before each of its wrong answers. */
    static void sentence(String words, Runnable test) {
        int lookedBefore = looked;
        wrongInSentence = 0;
        sentence = words + ": ";
        try {
            test.run();
        } catch (RuntimeException thrown) {
            wrong("a call threw " + thrown);
        }
        if (looked == lookedBefore) {
            wrong("nothing was looked at");
        }
        sentence = "";
    }

    static void answer(Supplier<String> call, int got, int want) {
        looked++;
        if (got != want) {
            wrong(call.get() + " answered " + got + ", due is " + want);
        }
    }

    static void holds(boolean holds, String what) {
        looked++;
        if (!holds) {
            wrong("not so: " + what);
        }
    }

    static void wrong(String what) {
        wrong++;
        wrongInSentence++;
        if (wrongInSentence <= MOST_TOLD) {
            System.out.println(sentence + what);
        }
    }

    /** A test that would go on for long may stop here. */
    static boolean enoughToldOfSentence() {
        return wrongInSentence >= MOST_TOLD;
    }

    static void end() {
        if (looked == 0) {
            wrong("the test looked at nothing");
        }
        System.out.println(wrong == 0 ? "all " + looked + " answers are as due" : wrong + " are not as due");
        if (wrong != 0) {
            System.exit(1);
        }
    }
}
