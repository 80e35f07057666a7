/** Counts and prints the answers that are not as due. */
final class Checks {
    private static final int MOST_PRINTED = 40;
    private int done;
    private int wrong;

    void due(String call, long want, long got) {
        done++;
        if (got != want) {
            wrong++;
            if (wrong <= MOST_PRINTED) {
                System.out.println(call + " answered " + got + ", due is " + want);
            }
        }
    }

    void holds(String what, boolean so) {
        due(what, 1, so ? 1 : 0);
    }

    void same(String what, String want, String got) {
        done++;
        if (!got.equals(want)) {
            wrong++;
            if (wrong <= MOST_PRINTED) {
                System.out.println(what + " is '" + got + "', due is '" + want + "'");
            }
        }
    }

    boolean anyWrong() {
        return wrong != 0;
    }

    void end(String name) {
        System.out.println(name + ": " + done + " checks, " + wrong + " wrong");
        if (wrong != 0) {
            System.exit(1);
        }
    }

    /** A SHEET that has the codes of a text, as a row of a LANE. */
    static void write(NosePost x, int sheet, int lane, String text) {
        x.sheet(sheet, lane, text.length());
        for (int i = 0; i < text.length(); i++) {
            x.put(sheet, i, text.charAt(i));
        }
    }

    /** A SHEET that has the numbers, as a row of a LANE. */
    static void write(NosePost x, int sheet, int lane, int... numbers) {
        x.sheet(sheet, lane, numbers.length);
        for (int i = 0; i < numbers.length; i++) {
            x.put(sheet, i, numbers[i]);
        }
    }

    /** What moor answers to a text. */
    static int told(NosePost x, String text) {
        write(x, 3, 0, text);
        return x.moor(3, 0, 0, text.length());
    }

    static NosePost moorOf(String text) {
        NosePost x = new NosePost();
        if (told(x, text) < 2) {
            throw new IllegalArgumentException("no text of a moor: " + text);
        }
        return x;
    }
}
