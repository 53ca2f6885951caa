import java.util.regex.Pattern;

/** The edges that the terms "Input text" and the promises 9 to 12 name. */
public final class EdgesOfTextsTest {
    private static final Class<?> ARGUMENT = IllegalArgumentException.class;
    private static final Class<?> STATE = IllegalStateException.class;
    private static final String ORDER = "(w[1-9][0-9]?[0-9]?|g(1?[0-9]|2[0-3]))";
    private static final Pattern ROW = Pattern.compile(ORDER + "(;" + ORDER + ")*");
    private static final Pattern START = Pattern.compile("(" + ORDER + ";)*(w|g|" + ORDER + ")?");

    private static SumBlocks typed(String text) {
        SumBlocks x = new SumBlocks();
        Checks.type(x, text);
        return x;
    }

    private static void right(String text) {
        Checks.due("firstError() of " + text, typed(text).firstError(), text.length());
    }

    /** The last character of the text is its first error. */
    private static void wrongAtTheEnd(String text) {
        Checks.due("firstError() of " + text, typed(text).firstError(), text.length() - 1);
        Checks.due("firstError() of " + text + "w1", typed(text + "w1").firstError(), text.length() - 1);
        incomplete(text);
    }

    private static void complete(String text, int due) {
        Checks.due("run() of " + text, typed(text).run(), due);
    }

    private static void incomplete(String text) {
        Twins.refused("run() of " + text, ARGUMENT, x -> Checks.type(x, text), SumBlocks::run);
    }

    private static void fullBuffer() {
        Checks.says(0, "The buffer has at most 60 characters.");
        SumBlocks x = new SumBlocks();
        for (int length = 1; length <= 60; length++) {
            Checks.due("append('w')", x.append('w'), length);
        }
        Twins.refused("append('w'), the 61st", STATE, y -> Checks.type(y, "w".repeat(60)),
                y -> y.append('w'));
        Checks.due("clearBuffer()", x.clearBuffer(), 60);
        Checks.due("append('w') behind it", x.append('w'), 1);
    }

    private static void rows() {
        Checks.says(0, "A row of orders as a text is one or more orders with \";\" between them: \"w\" and a number"
                + " of cells, 1 to 999 (a wish), or \"g\" and the number of a use, 0 to 23 (it is given"
                + " back).");
        complete("w1", 1);
        complete("g0", 0);
        complete("w1;g0", 2);
        incomplete("");
        incomplete("w");
        incomplete("g");
        incomplete("w1;");
        incomplete("w1;g");
        incomplete("g0;w");
        wrongAtTheEnd(";");
        wrongAtTheEnd("w1;;");
        wrongAtTheEnd("w;");
        wrongAtTheEnd("g;");
        wrongAtTheEnd("1");
        wrongAtTheEnd("w1,");
        wrongAtTheEnd("w1w");
        wrongAtTheEnd("g1g");
        wrongAtTheEnd("ww");
        wrongAtTheEnd("wg");
        wrongAtTheEnd("gw");
    }

    private static void numbersOfOrders() {
        Checks.says(0, "A row of orders as a text is one or more orders with \";\" between them: \"w\" and a number"
                + " of cells, 1 to 999 (a wish), or \"g\" and the number of a use, 0 to 23 (it is given"
                + " back).");
        for (int cells = 1; cells <= 999; cells++) {
            right("w" + cells);
            Checks.due("run() of w" + cells, typed("w" + cells).run(), cells <= 89 ? 1 : 0);
        }
        for (int use = 0; use <= 23; use++) {
            right("g" + use);
            Checks.due("run() of g" + use, typed("g" + use).run(), 0);
        }
        wrongAtTheEnd("w0");
        wrongAtTheEnd("w1000");
        wrongAtTheEnd("w9999");
        wrongAtTheEnd("g24");
        wrongAtTheEnd("g29");
        wrongAtTheEnd("g30");
        wrongAtTheEnd("g99");
        wrongAtTheEnd("g230");
        wrongAtTheEnd("g100");
        wrongAtTheEnd("w-");
        wrongAtTheEnd("g-");
    }

    private static void leadingZeros() {
        Checks.says(0, "Numbers are without leading zeros.");
        for (int digit = 0; digit <= 9; digit++) {
            wrongAtTheEnd("g0" + digit);
        }
        wrongAtTheEnd("w0");
        wrongAtTheEnd("w1;w0");
        complete("w10", 1);
        complete("w20;w5", 2);
        right("w100");
        right("w900");
        right("g0");
        right("g10");
        right("g20");
    }

    private static void syntaxErrors() {
        Checks.says(0, "The buffer is read from left to right; a character is a syntax error if no row of orders,"
                + " of any length, begins with the characters before it and this character.");
        right("w1;".repeat(20));
        right("w1;".repeat(19) + "w10");
        right("w1;".repeat(19) + "w1;");
        right("w10;" + "g7;".repeat(18) + "g");
        right("w10;" + "g7;".repeat(18) + "w");
        incomplete("w10;" + "g7;".repeat(18) + "w");
        incomplete("w1;".repeat(20));
        wrongAtTheEnd("w1;".repeat(18) + "g24");
        wrongAtTheEnd("w1;".repeat(17) + "w1000");
        Checks.due("firstError(), the 60th", typed("w1;".repeat(19) + "g24").firstError(), 59);
        for (int code = 33; code <= 126; code++) {
            String text = "" + (char) code;
            Checks.due("firstError() of " + text, typed(text).firstError(), code == 'w' || code == 'g' ? 1 : 0);
            boolean isNext = code == ';' || code >= '0' && code <= '9';
            Checks.due("firstError() of w1" + text, typed("w1" + text).firstError(), isNext ? 3 : 2);
            Checks.due("firstError() of g1" + text, typed("g1" + text).firstError(), isNext ? 3 : 2);
            Checks.due("firstError() of w" + text, typed("w" + text).firstError(),
                    code >= '1' && code <= '9' ? 2 : 1);
            Checks.due("firstError() of g" + text, typed("g" + text).firstError(),
                    code >= '0' && code <= '9' ? 2 : 1);
            Checks.due("firstError() of g2" + text, typed("g2" + text).firstError(),
                    code == ';' || code >= '0' && code <= '3' ? 3 : 2);
        }
    }

    /** All texts of up to five of these characters, against the patterns above. */
    private static void allShortTexts(String text) {
        int due = text.length();
        for (int length = text.length(); length > 0; length--) {
            due = START.matcher(text.substring(0, length)).matches() ? due : length - 1;
        }
        Checks.due("firstError() of " + text, typed(text).firstError(), due);
        String outcome = Checks.outcome(typed(text)::run);
        Checks.due("whether run() refuses " + text, outcome.equals("IllegalArgumentException") ? 1 : 0,
                ROW.matcher(text).matches() ? 0 : 1);
        if (text.length() < 5) {
            for (char code : "wg;0234".toCharArray()) {
                allShortTexts(text + code);
            }
        }
    }

    private static void append() {
        Checks.says(9, "Appends a character to the buffer.");
        SumBlocks x = new SumBlocks();
        x.append('w');
        x.append('2');
        x.append('1');
        Checks.due("run()", x.run(), 1);
        Checks.due("use(0, 1), in the order of appending", x.use(0, 1), 21);
        for (int code = 33; code <= 126; code++) {
            SumBlocks one = new SumBlocks();
            long withNone = one.digest();
            one.append(code);
            // The last two values of the digest are the length and the code.
            Checks.due("digest() with the code " + code, one.digest(), 31 * (withNone + 1) + code);
        }
        Checks.says(9, "`code`: the character code, 33 to 126");
        Checks.due("append(33)", x.append(33), 1);
        Checks.due("append(126)", x.append(126), 2);
        Checks.says(9, "Returns the new length of the buffer.");
        Checks.due("append('w') to two", x.append('w'), 3);
        Checks.due("append('w') to none", new SumBlocks().append('w'), 1);
        Checks.due("append('w') to 59", typed("w".repeat(59)).append('w'), 60);
        Checks.says(9, "Throws `IllegalArgumentException` if code is not 33 to 126");
        for (int code : Twins.outside(33, 126)) {
            Twins.refusedInEachState("append(" + code + ")", ARGUMENT, y -> y.append(code));
        }
        Checks.says(9, "Throws `IllegalStateException` if the buffer has 60 characters");
        for (int code : new int[] {33, 'w', ';', 126}) {
            Twins.refused("append(" + code + ") to 60", STATE, Twins::fullBufferAndSavedStates,
                    y -> y.append(code));
        }
    }

    private static void clearBuffer() {
        Checks.says(10, "Clears the buffer.");
        SumBlocks x = typed("w45;g0");
        x.clearBuffer();
        Checks.due("firstError()", x.firstError(), 0);
        Checks.due("append('w')", x.append('w'), 1);
        Checks.due("append('3')", x.append('3'), 2);
        Checks.due("run(), nothing of it is left", x.run(), 1);
        Checks.due("use(0, 1)", x.use(0, 1), 3);
        Checks.says(10, "Returns the length that it had.");
        SumBlocks empty = new SumBlocks();
        Checks.due("clearBuffer() of none", empty.clearBuffer(), 0);
        empty.append('!');
        Checks.due("clearBuffer() of one", empty.clearBuffer(), 1);
        Checks.due("clearBuffer() of none", empty.clearBuffer(), 0);
        Checks.due("clearBuffer() of 59", typed("g".repeat(59)).clearBuffer(), 59);
        Checks.due("clearBuffer() of 60", typed("g".repeat(60)).clearBuffer(), 60);
        Checks.due("count(12), as it is not undoable", empty.count(12), 0);
    }

    private static void firstError() {
        Checks.says(11, "Finds the first syntax error of the buffer.");
        Checks.due("firstError() of xx", typed("xx").firstError(), 0);
        Checks.due("firstError() of w1x;x", typed("w1x;x").firstError(), 2);
        Twins.quietInEachState("firstError()", SumBlocks::firstError);
        Checks.says(11, "Returns the index of the first character that is a syntax error; the length of the buffer"
                + " if there is none.");
        Checks.due("firstError() of none", new SumBlocks().firstError(), 0);
        Checks.due("firstError() of !", typed("!").firstError(), 0);
        Checks.due("firstError() of w", typed("w").firstError(), 1);
        String sixty = "w999;".repeat(12);
        Checks.due("firstError() of 60 without one", typed(sixty).firstError(), 60);
        Checks.due("firstError() of the 60th", typed(sixty.substring(0, 59) + "9").firstError(), 59);
        Checks.due("firstError() of the first of 60", typed("W" + sixty.substring(1)).firstError(), 0);
    }

    private static void run() {
        Checks.says(12, "Carries out the orders in the buffer as want() and give() do, one after the other, up to"
                + " the first one whose method would throw an exception, and clears the buffer.");
        SumBlocks x = typed("w4;w10;g0;w1;w4");
        SumBlocks calls = new SumBlocks();
        Checks.due("run()", x.run(), 5);
        calls.want(4);
        calls.want(10);
        calls.give(0);
        calls.want(1);
        calls.want(4);
        Checks.due("what there is", Twins.seen(x), Twins.seen(calls));
        Checks.due("clearBuffer() behind run()", x.clearBuffer(), 0);
        stopsAt("g0;w1", 0);
        stopsAt("w1;g1;w1", 1);
        stopsAt("w1;g0;g0;w1", 2);
        stopsAt("w89;w1;g0", 1);
        stopsAt("w90;w1", 0);
        stopsAt("w988;w1", 0);
        stopsAt("w999;w1", 0);
        stopsAt("w1;w2;g23;g0", 2);
        SumBlocks many = new SumBlocks();
        Twins.allUses(many);
        many.give(23);
        many.give(7);
        Checks.type(many, "w1;w1;w1;g0");
        Checks.due("run() up to the 25th use", many.run(), 2);
        Checks.due("count(4)", many.count(4), 24);
        SumBlocks longest = new SumBlocks();
        longest.begin(14);
        Checks.type(longest, "w1;".repeat(19) + "g10");
        Checks.due("run() of 60 characters", longest.run(), 20);
        Checks.due("use(10, 1), the last order", longest.use(10, 1), -1);
        Checks.due("clearBuffer()", longest.clearBuffer(), 0);
    }

    private static void stopsAt(String text, int due) {
        SumBlocks x = typed(text);
        SumBlocks first = new SumBlocks();
        int wishes = 0;
        String[] orders = text.split(";");
        for (int index = 0; index < due; index++) {
            int number = Integer.parseInt(orders[index].substring(1));
            wishes += orders[index].charAt(0) == 'w' ? 1 : 0;
            long made = orders[index].charAt(0) == 'w' ? first.want(number) : first.give(number);
        }
        Checks.due("run() of " + text, x.run(), due);
        Checks.due("what there is behind " + text, Twins.seen(x), Twins.seen(first));
        Checks.due("count(10) behind " + text, x.count(10), wishes);
        Checks.due("clearBuffer() behind " + text, x.clearBuffer(), 0);
    }

    private static void runIsUndoable() {
        Checks.says(12, "Undoable, as one call, also if none is carried out.");
        Twins.savesOne("run() of three orders", x -> Checks.type(x, "w1;w2;g0"), SumBlocks::run);
        Twins.savesOne("run() of none", x -> Checks.type(x, "g5;w1"), SumBlocks::run);
        Twins.Making full = x -> {
            Twins.fullBufferAndSavedStates(x);
            x.clearBuffer();
            Checks.type(x, "g0;g1");
        };
        Twins.savesOne("run() with six saved states", full, SumBlocks::run);
        Checks.says(12, "Returns how many are carried out.");
        Checks.due("run() of w1", typed("w1").run(), 1);
        Checks.due("run() of g0", typed("g0").run(), 0);
        Checks.due("run() of w1;g0;w2;g0", typed("w1;g0;w2;g0").run(), 4);
        Checks.says(12, "Throws `IllegalArgumentException` if the buffer is not a complete row of orders");
        for (String text : new String[] {"", "w", "g", "w1;", "g0;", "w0", "g24", "w1000", "w1g", "W1", "x"}) {
            Twins.refused("run() of " + text, ARGUMENT, x -> Checks.type(x, text), SumBlocks::run);
        }
        Twins.refused("run() of 60 that end with ;", ARGUMENT, Twins::fullBufferAndSavedStates, SumBlocks::run);
        Twins.refused("run() of none, cleared", ARGUMENT, x -> {
            Twins.someUses(x);
            x.clearBuffer();
        }, SumBlocks::run);
        SumBlocks stays = typed("w1;w");
        Checks.due("run()", Checks.outcome(stays::run), "IllegalArgumentException");
        Checks.due("append('2'), as the buffer stays", stays.append('2'), 5);
        Checks.due("run() of the whole row", stays.run(), 2);
    }

    public static void main(String[] args) {
        fullBuffer();
        rows();
        numbersOfOrders();
        leadingZeros();
        syntaxErrors();
        allShortTexts("");
        append();
        clearBuffer();
        firstError();
        run();
        runIsUndoable();
        Checks.end();
    }
}
