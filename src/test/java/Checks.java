/** What all tests need: comparing answers, and telling which exception a call throws. */
final class Checks {
    interface Call {
        long answer();
    }

    private static int checked = 0;
    private static int wrong = 0;
    // The sentence of the document that is tested now, and how many answers were checked for it.
    private static int promise = 0;
    private static String sentence = "";
    private static int checkedForSentence = 1;

    private Checks() {
    }

    /** What follows is the test of this sentence, which the promise says (0: What it is, Terms). */
    static void says(int newPromise, String newSentence) {
        endSentence();
        promise = newPromise;
        sentence = newSentence;
        checkedForSentence = 0;
    }

    private static void endSentence() {
        if (checkedForSentence == 0) {
            tell(promise, sentence, "nothing", "a check at least");
        }
    }

    static void due(String call, long got, long due) {
        due(promise, call, got, due);
    }

    static void due(String call, String got, String due) {
        due(promise, call, got, due);
    }

    static void dueShare(String call, double got, double due) {
        dueShare(promise, call, got, due);
    }

    static void due(int promise, String call, long got, long due) {
        count();
        if (got != due) {
            tell(promise, call, Long.toString(got), Long.toString(due));
        }
    }

    static void due(int promise, String call, String got, String due) {
        count();
        if (!got.equals(due)) {
            tell(promise, call, got, due);
        }
    }

    static void dueShare(int promise, String call, double got, double due) {
        count();
        if (Double.doubleToLongBits(got) != Double.doubleToLongBits(due)) {
            tell(promise, call, Double.toString(got), Double.toString(due));
        }
    }

    /** The call throws this very class, and leaves the object as it was. */
    static void dueThrow(int promise, String call, SumBlocks x, Class<?> due, Call made) {
        count();
        long before = x.digest();
        String got = outcome(made);
        if (!got.equals(due.getSimpleName())) {
            tell(promise, call, got, due.getSimpleName());
        }
        due(promise, "digest() behind " + call, x.digest(), before);
    }

    /** The call leaves the object as it was. */
    static void dueUnchanged(int promise, String call, SumBlocks x, Call made) {
        long before = x.digest();
        made.answer();
        due(promise, "digest() behind " + call, x.digest(), before);
    }

    static String outcome(Call made) {
        try {
            return Long.toString(made.answer());
        } catch (RuntimeException e) {
            return e.getClass().getSimpleName();
        }
    }

    /** Each block as address/order/count/use, with - for a free one. */
    static String blocks(SumBlocks x) {
        StringBuilder text = new StringBuilder();
        for (int place = 0; place < x.count(2); place++) {
            int use = x.block(place, 3);
            text.append(place == 0 ? "" : " ").append(x.block(place, 0)).append('/')
                    .append(x.block(place, 1)).append('/').append(x.block(place, 2)).append('/')
                    .append(use == SumBlocks.NONE ? "-" : Integer.toString(use));
        }
        return text.toString();
    }

    static void type(SumBlocks x, String text) {
        for (int index = 0; index < text.length(); index++) {
            x.append(text.charAt(index));
        }
    }

    private static void count() {
        checked++;
        checkedForSentence++;
    }

    static void tell(int promise, String call, String got, String due) {
        wrong++;
        System.out.println("promise " + promise + ": " + call + " answered " + got + ", due is " + due);
        if (!sentence.isEmpty()) {
            System.out.println("    as it says: " + sentence);
        }
    }

    static void end() {
        endSentence();
        System.out.println(checked + " answers checked, " + wrong + " are not as due");
        if (wrong != 0) {
            System.exit(1);
        }
    }
}
