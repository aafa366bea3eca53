/** Counts the answers that are not as due; shared by the tests of the project. */
final class Check {
    private static int asked = 0;
    private static int wrong = 0;

    private Check() {
    }

    static void due(String what, long got, long want) {
        asked++;
        if (got != want) {
            wrong++;
            System.out.println(what + " answered " + got + ", due is " + want);
        }
    }

    static void isTrue(String what, boolean holds) {
        due(what, holds ? 1 : 0, 1);
    }

    static int wrongSoFar() {
        return wrong;
    }

    /** A board made by a text; its number of gates is checked. */
    static ChipSlots boardOf(String text, int gates) {
        ChipSlots x = new ChipSlots();
        writeAll(x, text);
        due("board() of " + text, x.board(), gates);
        return x;
    }

    static void writeAll(ChipSlots x, String text) {
        x.wipe();
        for (int i = 0; i < text.length(); i++) {
            due("write " + text.charAt(i), x.write(text.charAt(i)), i + 1);
        }
    }

    static void finish() {
        System.out.println(asked + " answers asked, " + wrong + " not as due");
        if (wrong != 0) {
            System.exit(1);
        }
    }
}
