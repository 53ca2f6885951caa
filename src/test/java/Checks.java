/** What all tests need: comparing answers, and telling which exception a call throws. */
final class Checks {
    interface Call {
        long answer();
    }

    private static int checked = 0;
    private static int wrong = 0;

    private Checks() {
    }

    static void due(int promise, String call, long got, long due) {
        checked++;
        if (got != due) {
            tell(promise, call, Long.toString(got), Long.toString(due));
        }
    }

    static void due(int promise, String call, String got, String due) {
        checked++;
        if (!got.equals(due)) {
            tell(promise, call, got, due);
        }
    }

    static void dueShare(int promise, String call, double got, double due) {
        checked++;
        if (Double.doubleToLongBits(got) != Double.doubleToLongBits(due)) {
            tell(promise, call, Double.toString(got), Double.toString(due));
        }
    }

    /** The call throws this very class, and leaves the object as it was. */
    static void dueThrow(int promise, String call, SumBlocks x, Class<?> due, Call made) {
        checked++;
        long before = x.digest();
        String got = outcome(made);
        if (!got.equals(due.getSimpleName())) {
            tell(promise, call, got, due.getSimpleName());
        }
        due(promise, "digest() behind " + call, x.digest(), before);
    }

    /** The call leaves the object as it was. */
    static void dueUnchanged(int promise, String call, SumBlocks x, Call made) {
        long before = x.digest();
        made.answer();
        due(promise, "digest() behind " + call, x.digest(), before);
    }

    static String outcome(Call made) {
        try {
            return Long.toString(made.answer());
        } catch (RuntimeException e) {
            return e.getClass().getSimpleName();
        }
    }

    /** Each block as address/order/count/use, with - for a free one. */
    static String blocks(SumBlocks x) {
        StringBuilder text = new StringBuilder();
        for (int place = 0; place < x.count(2); place++) {
            int use = x.block(place, 3);
            text.append(place == 0 ? "" : " ").append(x.block(place, 0)).append('/')
                    .append(x.block(place, 1)).append('/').append(x.block(place, 2)).append('/')
                    .append(use == SumBlocks.NONE ? "-" : Integer.toString(use));
        }
        return text.toString();
    }

    static void type(SumBlocks x, String text) {
        for (int index = 0; index < text.length(); index++) {
            x.append(text.charAt(index));
        }
    }

    static void tell(int promise, String call, String got, String due) {
        wrong++;
        System.out.println("promise " + promise + ": " + call + " answered " + got + ", due is " + due);
    }

    static void end() {
        System.out.println(checked + " answers checked, " + wrong + " are not as due");
        if (wrong != 0) {
            System.exit(1);
        }
    }
}
