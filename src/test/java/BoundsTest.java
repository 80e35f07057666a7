import java.util.Arrays;
import java.util.function.Supplier;

/**
 * Calls that are taken, each argument at both of its bounds: what they answer, what fault() tells
 * then, and that they change what they name and nothing else. One more is in RefusalTest.
 */
public final class BoundsTest {
    private static final long LOST = Long.MIN_VALUE;
    private static final int MIN = Integer.MIN_VALUE, MAX = Integer.MAX_VALUE;
    private static final int NONE = -9;

    private static final Checks CHECKS = new Checks();
    private static Table table;

    public static void main(String[] args) {
        withFourPeople();
        withTwoPeople();
        withSixPeople();
        withoutAMoor();
        withAllReadings();
        onTheLongestRows();
        onNoCells();
        allCalls();
        objectsApart();
        CHECKS.end("BoundsTest");
    }

    private static void begin(String part, Supplier<NosePost> setUp) {
        table = new Table(CHECKS, part, setUp);
    }

    /** Of a call that names no FAULTS. */
    private static void does(long answer, String changes, String name, int... args) {
        table.row(answer, Table.STAYS, changes, name, args);
    }

    private static void tells(long answer, String name, int... args) {
        table.row(answer, Table.STAYS, Table.NOTHING, name, args);
    }

    /** Of a call that names FAULTS, and comes to none. */
    private static void doesWith0(long answer, String changes, String name, int... args) {
        table.row(answer, 0, changes, name, args);
    }

    private static void tellsWith0(long answer, String name, int... args) {
        table.row(answer, 0, Table.NOTHING, name, args);
    }

    /** With a text of three PEOPLE on SHEET 0. */
    private static NosePost moor() {
        NosePost x = SetUps.moor();
        Checks.write(x, 0, 0, "d90;p001;p112;r223");
        return x;
    }

    private static void withFourPeople() {
        begin("four PEOPLE", BoundsTest::moor);
        tellsOfPeople();
        changesAMoor();
        newMoors();
        rounds();
        howTheyWouldCome();
        readings();
        sheets();
        cells();
        copies();
        parts();
    }

    private static void tellsOfPeople() {
        // To 0: 0 is alike. To 3: 1 is alike.
        int[] first = {0, 3, 3, 4, 2, 1, 0};
        int[] last = {0, 5, 6, 6, 2, 1, 1};
        for (int what = 0; what < 7; what++) {
            tells(first[what], "ofPerson", 0, what);
            tells(last[what], "ofPerson", 3, what);
        }
        int[] many = {4, 5, 1, 1, 2};
        for (int what = 0; what < 5; what++) {
            tells(many[what], "many", what);
        }
        // 0's and 2's go to 0, 3's to 1; and 1's to 0, who is the least of the two nearest (0 and 3).
        tells(1, "comes", 0);
        tells(1 + 2, "comes", 1);
    }

    private static void changesAMoor() {
        does(5, "POST 5>0", "post", 0);
        does(5, "POST 5>9", "post", 9);
        tells(5, "post", 5);
        does(1, "LAX 1>0", "lax", 0);
        does(1, "LAX 1>3", "lax", 3);
        tells(1, "lax", 1);
        does(3, "SMELL of 0 3>0", "bathe", 0, 0);
        does(3, "SMELL of 0 3>7", "bathe", 0, 7);
        does(5, "SMELL of 3 5>0", "bathe", 3, 0);
        does(5, "SMELL of 3 5>7", "bathe", 3, 7);
        tells(5, "bathe", 3, 5);
        does(4, "PLACE of 0 4>0", "moves", 0, 0);
        does(4, "PLACE of 0 4>9", "moves", 0, 9);
        does(6, "PLACE of 3 6>0", "moves", 3, 0);
        does(6, "PLACE of 3 6>9", "moves", 3, 9);
        tells(6, "moves", 3, 6);
        does(0, "letters 1>2", "send", 0);
        does(0, "letters 1>2", "send", 1);
        does(1, "letters 1>2; WAS of 1 1>6", "send", 3);
        begin("four PEOPLE, LAX 0", () -> {
            NosePost x = moor();
            x.lax(0);
            return x;
        });
        does(NONE, "letters 1>2", "send", 1);
        does(1, "letters 1>2; WAS of 1 1>6", "send", 3);
        begin("four PEOPLE", BoundsTest::moor);
    }

    private static void newMoors() {
        doesWith0(3, "PEOPLE 4>3; POST 5>9; LAX 1>0; letters 1>0; READINGS 2>0; SMELL of 0 3>0; "
                + "WAS of 0 3>0; PLACE of 0 4>1; kind of 1 1>0; SMELL of 1 6>1; PLACE of 1 7>2; "
                + "kind of 2 2>1; SMELL of 2 4>2; WAS of 2 3>2; PLACE of 2 8>3; kind of 3 0>none; "
                + "SMELL of 3 5>none; WAS of 3 6>none; PLACE of 3 6>none", "moor", 0, 0, 0, 18);
        doesWith0(2, "PEOPLE 4>2; POST 5>9; LAX 1>0; letters 1>0; READINGS 2>0; SMELL of 0 3>0; "
                + "WAS of 0 3>0; PLACE of 0 4>1; kind of 1 1>0; SMELL of 1 6>1; PLACE of 1 7>2; "
                + "kind of 2 2>none; SMELL of 2 4>none; WAS of 2 3>none; PLACE of 2 8>none; "
                + "kind of 3 0>none; SMELL of 3 5>none; WAS of 3 6>none; PLACE of 3 6>none",
                "moor", 0, 0, 0, 13);
    }

    private static void rounds() {
        // A letter to 0 (comes), 1 bathes to 3, 2 moves to 5.
        int[] by = {1, NONE, 1, 0};
        int[] pasts = {3, 1, 3, 6, NONE, NONE};
        for (int what = 0; what < 16; what++) {
            if (what < 4 || what >= 10) {
                tellsWith0(what < 4 ? by[what] : pasts[what - 10], "round", 1, 1, 0, 3, what);
            }
        }
        tellsWith0(0, "round", 1, 1, 0, 0, 0);
        tellsWith0(NONE, "round", 1, 1, 0, 0, 1);
        tellsWith0(0, "round", 1, 1, 6, 0, 2);
        tellsWith0(0, "round", 1, 1, 6, 0, 3);
        tellsWith0(6, "round", 1, 1, 6, 0, 13);
        tellsWith0(0, "round", 1, 1, 4, 1, 0);
        // To 3, and that is all: the pair behind it is none.
        tellsWith0(0, "round", 2, 2, 0, 1, 0);
        tellsWith0(0, "round", 2, 2, 0, 1, 1);
        tellsWith0(2, "round", 2, 2, 0, 1, 2);
        tellsWith0(6, "round", 2, 2, 0, 1, 11);
    }

    private static void howTheyWouldCome() {
        tells(0, "strict", 0);
        tells(NONE, "strict", 1);
        tells(NONE, "strict", 3);
        tells(0, "ahead", 0);
        tells(1, "ahead", 1);
        tells(NONE, "ahead", 3);
        // 3 ahead of 1, that 1's comes: 0 and 1.
        tells(2, "order", -1);
        int[] order = {0, 2, 3, 1, NONE, NONE};
        for (int k = 0; k < 6; k++) {
            tells(order[k], "order", k);
        }
    }

    private static void readings() {
        for (int to : new int[] {0, 3, NONE}) {
            does(2, "READINGS 2>3", "reading", 0, to);
            does(2, "READINGS 2>3", "reading", 3, to);
        }
        tells(2, "back", 0);
        does(1, "READINGS 2>1", "back", 1);
        does(0, "READINGS 2>0", "back", 2);
    }

    private static String zeros(int lane, int n) {
        return lane + Arrays.toString(new int[n]);
    }

    private static void sheets() {
        for (int lane = 0; lane < 3; lane++) {
            for (int n : new int[] {0, 1, 60}) {
                doesWith0(1, "SHEET 3 nothing>" + zeros(lane, n), "sheet", 3, lane, n);
                doesWith0(1, "SHEET 1 1[0, 8, 1, 3, 2, 15]>" + zeros(lane, n), "sheet", 1, lane, n);
            }
        }
        String text = "0[100, 57, 48, 59, 112, 48, 48, 49, 59, 112, 49, 49, 50, 59, 114, 50, 50, 51]";
        doesWith0(1, "SHEET 0 " + text + ">1[0]", "sheet", 0, 1, 1);
        does(1, "SHEET 0 " + text + ">nothing", "lose", 0);
        does(1, "SHEET 2 2[3, 8, 70000, 9]>nothing", "lose", 2);
        tells(0, "lose", 3);
    }

    private static void cells() {
        doesWith0(1, "SHEET 2 2[3, 8, 70000, 9]>2[-2147483648, 8, 70000, 9]", "put", 2, 0, MIN);
        doesWith0(1, "SHEET 2 2[3, 8, 70000, 9]>2[3, 8, 70000, 2147483647]", "put", 2, 3, MAX);
        doesWith0(1, "SHEET 1 1[0, 8, 1, 3, 2, 15]>1[-32768, 8, 1, 3, 2, 15]", "put", 1, 0, 32768);
        doesWith0(1, "SHEET 1 1[0, 8, 1, 3, 2, 15]>1[0, 8, 1, 3, 2, -1]", "put", 1, 5, -1);
        tellsWith0(1, "put", 1, 5, 15);
        tellsWith0(1, "put", 1, 5, 65536 + 15);
        tellsWith0(100, "cell", 0, 0, 0);
        tellsWith0(51, "cell", 0, 17, 0);
        tellsWith0(15, "cell", 1, 5, 1);
        tellsWith0(3, "cell", 2, 0, 2);
        tellsWith0(9, "cell", 2, 3, 2);
    }

    private static void copies() {
        String row = "SHEET 1 1[0, 8, 1, 3, 2, 15]>";
        doesWith0(5, row + "1[0, 0, 8, 1, 3, 2]", "copy", 1, 0, 1, 1, 5);
        doesWith0(5, row + "1[8, 1, 3, 2, 15, 15]", "copy", 1, 1, 1, 0, 5);
        doesWith0(3, row + "1[0, 8, 1, 0, 8, 1]", "copy", 1, 0, 1, 3, 3);
        doesWith0(1, row + "1[15, 8, 1, 3, 2, 15]", "copy", 1, 5, 1, 0, 1);
        tellsWith0(6, "copy", 1, 0, 1, 0, 6);
        tellsWith0(0, "copy", 1, 0, 1, 0, 0);
        tellsWith0(0, "copy", 1, 6, 1, 6, 0);
        tellsWith0(0, "copy", 1, 6, 1, 0, 0);
        tellsWith0(0, "copy", 1, 0, 1, 6, 0);
    }

    private static void parts() {
        // REEKING's body, RANK's, PLAIN's for that one, PLAIN's once more.
        int trace = ((3 * 31 + 2) * 31 + 1) * 31 + 1;
        String left = "TRACE " + trace + ">";
        does(3, left + (trace * 31 + 1), "tell", 0);
        does(106, left + ((trace * 31 + 2) * 31 + 1), "tell", 1);
        does(108, left + ((((trace * 31 + 3) * 31 + 2) * 31 + 1) * 31 + 1), "tell", 2);
        does(5, left + (trace * 31 + 1), "tell", 3);
        does(0, left + (trace * 31 + 4), "whistle", 0);
        does(1, left + (trace * 31 + 4), "whistle", 1);
        does(70, left + (trace * 31 + 5), "whistle", 2);
        does(3, left + (trace * 31 + 4), "whistle", 3);
        tells(trace, "trace");
        tellsWith0(1, "as", 0, 0);
        tellsWith0(1, "as", 1, 0);
        tellsWith0(1, "as", 1, 1);
        tellsWith0(1, "as", 2, 0);
        tellsWith0(1, "as", 2, 1);
        tellsWith0(1, "as", 2, 2);
        tellsWith0(1, "as", 3, 0);
    }

    /** The fewest: 1 is the last. */
    private static void withTwoPeople() {
        begin("two PEOPLE", () -> SetUps.moorOf("d50;k165;k215"));
        lastIs(1);
        tells(1, "order", -1);
        tells(1, "order", 0);
        tells(0, "order", 1);
        tells(NONE, "order", 2);
        tells(NONE, "order", 5);
    }

    /** The most: 5 is the last. */
    private static void withSixPeople() {
        begin("six PEOPLE", () -> SetUps.moorOf("d50;k165;k335;k445;k555;k775;k215"));
        lastIs(5);
        // The letter to 5 goes to 0, who gets its own then.
        tells(5, "order", -1);
        int[] order = {1, 2, 3, 4, 5, 0};
        for (int k = 0; k < 6; k++) {
            tells(order[k], "order", k);
        }
    }

    /** One of "k215", whose letter goes to 0, who is "k165", whose goes HOME; LAX is 0. */
    private static void lastIs(int p) {
        tells(p + 1, "many", 0);
        tells(2, "ofPerson", p, 1);
        tells(0, "ofPerson", p, 6);
        tells(-1, "ofPerson", p + 1, 6);
        does(2, "SMELL of " + p + " 2>7", "bathe", p, 7);
        tells(-1, "bathe", p + 1, 7);
        does(5, "PLACE of " + p + " 5>9", "moves", p, 9);
        tells(-1, "moves", p + 1, 9);
        does(0, "letters 0>1; WAS of 0 6>1", "send", p);
        tells(-1, "send", p + 1);
        tells(NONE, "strict", p);
        tells(-1, "strict", p + 1);
        tells(NONE, "ahead", p);
        tells(1, "ahead", 0);
        tells(-1, "ahead", p + 1);
        does(0, "READINGS 0>1", "reading", p, p);
        tells(-1, "reading", p + 1, p);
        tells(-1, "reading", p, p + 1);
        tells(255, "smells", p);
        tells(-1, "smells", p + 1);
        tells(255, "pasts", p);
        tells(-1, "pasts", p + 1);
        tells(7, "kinds", p);
        tells(-1, "kinds", p + 1);
        does(104, "TRACE 0>" + (((3 * 31 + 2) * 31 + 1) * 31 + 1), "tell", p);
        tells(-1, "tell", p + 1);
        does(70, "TRACE 0>5", "whistle", p);
        tells(-1, "whistle", p + 1);
        tellsWith0(1, "as", p, 2);
        tellsWith0(-1, "as", p + 1, 2);
        // By none, as 0 is as like to its WAS as it could be; 0 by its WAS alone.
        tells(0, "odds", p, 0);
        tells(1, "odds", p, 1);
        tells(1, "odds", 0, 0);
        tells(8, "odds", 0, 1);
        tells(LOST, "odds", p + 1, 0);
    }

    private static void withoutAMoor() {
        begin("without a moor", () -> {
            NosePost x = new NosePost();
            Checks.write(x, 0, 0, "d90;p001;p112");
            return x;
        });
        for (int what = 0; what < 5; what++) {
            tells(0, "many", what);
        }
        tells(0, "trace");
        tells(0, "back", 0);
        tells(0, "lose", 3);
        tellsWith0(112, "cell", 0, 4, 0);
        doesWith0(2, "PEOPLE 0>2; POST 0>9; kind of 0 none>0; SMELL of 0 none>0; WAS of 0 none>0; "
                + "PLACE of 0 none>1; kind of 1 none>0; SMELL of 1 none>1; WAS of 1 none>1; "
                + "PLACE of 1 none>2", "moor", 0, 0, 0, 13);
        begin("a new object", NosePost::new);
        for (int k = 0; k < 4; k++) {
            tells(0, "lose", k);
            table.row(LOST, 1, Table.NOTHING, "cell", k, 0, 0);
        }
        doesWith0(1, "SHEET 0 nothing>0[]", "sheet", 0, 0, 0);
        doesWith0(1, "SHEET 3 nothing>" + zeros(2, 60), "sheet", 3, 2, 60);
        CHECKS.due("fault() \"0 ahead of any\"", 0, new NosePost().fault());
    }

    private static void withAllReadings() {
        begin("8 READINGS", SetUps::moorWithAllReadings);
        tells(8, "many", 4);
        tells(8, "back", 0);
        does(7, "READINGS 8>7", "back", 1);
        does(1, "READINGS 8>1", "back", 7);
        does(0, "READINGS 8>0", "back", 8);
        NosePost x = moor();
        for (int k = 2; k < 8; k++) {
            CHECKS.due("the number of a READING", k, x.reading(3, 3));
        }
        CHECKS.due("FULL", -4, x.reading(3, 3));
        CHECKS.due("one back", 7, x.back(1));
        CHECKS.due("the last again", 7, x.reading(3, 3));
        CHECKS.due("all back", 0, x.back(8));
        CHECKS.due("none is left", -2, x.back(1));
        CHECKS.due("the first again", 0, x.reading(3, 3));
    }

    /** Rows of 60 cells, of which the last ones are taken. */
    private static void onTheLongestRows() {
        for (int lane = 0; lane < 3; lane++) {
            NosePost x = new NosePost();
            String six = "d93;p771;r662;k553;p444;r335;k226";
            CHECKS.due("sheet", 1, x.sheet(0, lane, 60));
            for (int c = 0; c < 33; c++) {
                CHECKS.due("put", 1, x.put(0, 27 + c, six.charAt(c)));
            }
            CHECKS.due("one beyond", -13, x.moor(0, lane, 28, 33));
            CHECKS.due("the last 33", 6, x.moor(0, lane, 27, 33));
            CHECKS.due("the last one's PLACE", 6, x.ofPerson(5, 3));
            x.sheet(1, lane, 60);
            x.put(1, 58, 5);
            x.put(1, 59, 10);
            CHECKS.due("the last 20 pairs", 0, x.round(1, lane, 20, 20, 0));
            CHECKS.due("one beyond", -13, x.round(1, lane, 21, 20, 0));
            x.put(1, 59, 8);
            // 5 is as far as 3, its SCENT is 4, and its SMELL is its WAS.
            CHECKS.due("the last pair: it comes", 1, x.round(1, lane, 20, 20, 0));
            CHECKS.due("the last pair: who gets it", 32, x.round(1, lane, 20, 20, 2));
            x.moves(5, 0);
            CHECKS.due("the last pair: it does not come", 0, x.round(1, lane, 20, 20, 0));
            CHECKS.due("the last pair: FIRST WRONG", 19, x.round(1, lane, 20, 20, 1));
            CHECKS.due("all of a row", 60, x.copy(1, 0, 0, 0, 60));
            CHECKS.due("its last", 8, x.cell(0, 59, lane));
            CHECKS.due("its first", 0, x.cell(0, 27, lane));
            CHECKS.due("one more", -13, x.copy(1, 0, 0, 0, 61));
            CHECKS.due("put(0, 60, 0)", -13, x.put(0, 60, 0));
            CHECKS.due("cell(0, 60, lane)", LOST, x.cell(0, 60, lane));
        }
    }

    private static void onNoCells() {
        begin("on a row of no cells", () -> {
            NosePost x = moor();
            x.sheet(1, 0, 0);
            return x;
        });
        tellsWith0(0, "round", 1, 0, 0, 0, 0);
        tellsWith0(NONE, "round", 1, 0, 0, 0, 1);
        tellsWith0(0, "copy", 1, 0, 1, 0, 0);
        tellsWith0(0, "copy", 1, 0, 0, 18, 0);
        tellsWith0(0, "copy", 0, 18, 1, 0, 0);
        does(1, "SHEET 1 0[]>nothing", "lose", 1);
    }

    /** "An object is used for at most 512 calls": the last of them is as good as the first. */
    private static void allCalls() {
        String text = "d50;k145;k215";
        NosePost x = Checks.moorOf(text);
        int calls = 1 + text.length() + 1;
        int sent = 0;
        for (; calls < 511; calls++) {
            CHECKS.due("call " + calls, 0, x.send(1));
            sent++;
        }
        CHECKS.due("call 512", sent, x.many(3));
    }

    /** What one object is told, another one does not know. */
    private static void objectsApart() {
        State atFirst = State.of(new NosePost());
        NosePost one = moor();
        State before = State.of(one);
        NosePost other = new NosePost();
        CHECKS.due("a second object's fault()", 0, other.fault());
        CHECKS.same("what is new of a second object", "", atFirst.changesTo(State.of(other)));
        Checks.write(other, 0, 2, "d00;p000;p000");
        other.moor(0, 2, 0, 13);
        other.send(0);
        other.reading(0, 0);
        other.tell(1);
        other.lose(1);
        CHECKS.same("what is new of the first", "", before.changesTo(State.of(one)));
    }
}
