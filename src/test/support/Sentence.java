/**
 * A sentence of the document that names a boundary, and the answers that it asks for. An answer that
 * is not the one that is due is printed with the sentence and the line of the test that asked.
 */
final class Sentence {
    static final int BUY = 0;
    static final int SELL = 1;

    private static final String ARGUMENT = "IllegalArgumentException";
    private static final String STATE = "IllegalStateException";

    private static int sentences = 0;
    private static int looked = 0;
    private static int wrong = 0;

    private final String words;

    interface Call {
        long run();
    }

    interface Act {
        void run();
    }

    Sentence(String words) {
        this.words = words;
        sentences++;
    }

    /** The call answers this. */
    void is(long due, Call call) {
        look(answerOf(call), Long.toString(due));
    }

    /** The call, which answers nothing or something of no interest, throws nothing. */
    void goes(Act act) {
        look(endOf(act), "nothing");
    }

    /** The call throws an IllegalArgumentException. */
    void badArgument(Act act) {
        look(endOf(act), ARGUMENT);
    }

    /** The call throws an IllegalStateException. */
    void badState(Act act) {
        look(endOf(act), STATE);
    }

    /** Two objects, or two ways to one, come to the same. */
    void same(String got, String due) {
        look(got, due);
    }

    private static String answerOf(Call call) {
        try {
            return Long.toString(call.run());
        } catch (RuntimeException e) {
            return e.getClass().getSimpleName();
        }
    }

    private static String endOf(Act act) {
        try {
            act.run();
            return "nothing";
        } catch (RuntimeException e) {
            return e.getClass().getSimpleName();
        }
    }

    private void look(String got, String due) {
        looked++;
        if (!got.equals(due)) {
            wrong++;
            System.out.println("\"" + words + "\" (" + askedAt() + "): answered " + got + ", due is " + due);
        }
    }

    private static String askedAt() {
        return StackWalker.getInstance().walk(frames -> frames
                .filter(frame -> !frame.getClassName().equals(Sentence.class.getName()))
                .findFirst()
                .map(frame -> frame.getFileName() + ":" + frame.getLineNumber())
                .orElse("nowhere"));
    }

    /** Says how the test went, and ends it with 1 if an answer was not as due. */
    static void end() {
        System.out.println(sentences + " sentences, " + looked + " answers looked at, " + wrong + " not as due");
        if (wrong != 0 || looked == 0) {
            System.exit(1);
        }
    }
}
