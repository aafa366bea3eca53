/** Counts the answers that are not as due; shared by the tests of the project. */
final class Check {
    private static int asked = 0;
    private static int wrong = 0;
    private static String quoted = "";

    private Check() {
    }

    /** The words of the document that the checks after it hold the class to; told with each wrong answer. */
    static void sentence(String words) {
        quoted = words;
    }

    static void due(String what, long got, long want) {
        asked++;
        if (got != want) {
            wrong++;
            String after = quoted.isEmpty() ? "" : " (\"" + quoted + "\")";
            System.out.println(what + " answered " + got + ", due is " + want + after);
        }
    }

    static void isTrue(String what, boolean holds) {
        due(what, holds ? 1 : 0, 1);
    }

    /** The answers of one call after another, beginning with the number 0. */
    static void row(String what, java.util.function.IntUnaryOperator call, int... want) {
        for (int i = 0; i < want.length; i++) {
            due(what + " " + i, call.applyAsInt(i), want[i]);
        }
    }

    /** Every number just beside a range, and far from it, gets the error. */
    static void beside(String what, int least, int most, int error, java.util.function.IntUnaryOperator call) {
        int[] numbers = {least - 1, most + 1, least - 2, most + 2, Integer.MIN_VALUE, Integer.MAX_VALUE};
        for (int number : numbers) {
            due(what + " with " + number, call.applyAsInt(number), error);
        }
    }

    static int wrongSoFar() {
        return wrong;
    }

    /** A board made by a text; its number of gates is checked. */
    static ChipSlots boardOf(String text, int gates) {
        ChipSlots x = new ChipSlots();
        boardOn(x, text, gates);
        return x;
    }

    static void boardOn(ChipSlots x, String text, int gates) {
        writeAll(x, text);
        due("board() of " + text, x.board(), gates);
    }

    static void writeAll(ChipSlots x, String text) {
        x.wipe();
        for (int i = 0; i < text.length(); i++) {
            due("write " + text.charAt(i), x.write(text.charAt(i)), i + 1);
        }
    }

    static void finish() {
        System.out.println(asked + " answers asked, " + wrong + " not as due");
        if (wrong != 0) {
            System.exit(1);
        }
    }
}
