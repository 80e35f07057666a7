import java.util.Arrays;
import java.util.function.Supplier;

/**
 * "REFUSALS: [..] of several the first in the order in which a call's line tells them. They change
 * nothing (but fault(), of a call that names FAULTS). FAULTS [..] Of a call the first that is come
 * to, in the order told; it answers -10 less it (LOST, where a long is answered, as for refusals)
 * and changes nothing; fault() tells it." Each of them alone and two at once, and that all else is
 * as it was behind them.
 */
public final class RefusalTest {
    private static final long LOST = Long.MIN_VALUE;
    private static final int MIN = Integer.MIN_VALUE, MAX = Integer.MAX_VALUE;
    private static final int UNKNOWN = -1, OUTSIDE = -2, STATE = -3, FULL = -4, NONE = -9;
    private static final int NULL = -11, CAST = -12, INDEX = -13, SIZE = -14;
    private static final int[] NO_SHEETS = {-1, 4, MIN, MAX};
    private static final int[] NO_LANES = {-1, 3, MIN, MAX};
    /** The moor that is set up has PEOPLE 0 .. 3. */
    private static final int[] NO_PEOPLE = {-1, 4, 5, 6, NONE, MIN, MAX};
    private static final int[] NO_PLACES = {-1, 10, MIN, MAX};
    private static final int[] NO_SMELLS = {-1, 8, MIN, MAX};

    private static final Checks CHECKS = new Checks();
    private static Table table;

    public static void main(String[] args) {
        onAMoor();
        withAllReadings();
        withoutAMoor();
        onNoCells();
        pairs();
        pairsFromEachCell();
        byEachWindow();
        CHECKS.end("RefusalTest");
    }

    private static void begin(String part, Supplier<NosePost> setUp) {
        table = new Table(CHECKS, part, setUp);
    }

    /** A refusal of a call that names no FAULTS. */
    private static void refused(long answer, String name, int... args) {
        table.row(answer, Table.STAYS, Table.NOTHING, name, args);
    }

    /** A refusal of a call that names FAULTS: "0: it came to none, or was refused". */
    private static void refusedWith0(long answer, String name, int... args) {
        table.row(answer, 0, Table.NOTHING, name, args);
    }

    private static void fault(int answer, String name, int... args) {
        table.row(answer, -10 - answer, Table.NOTHING, name, args);
    }

    private static void onAMoor() {
        begin("on a moor", SetUps::moor);
        moorsSheetAndLane();
        moorsFaults();
        moorsFirstFaults();
        ofPerson();
        postAndLax();
        changesOfOne();
        asksOfAll();
        asksOfOne();
        readings();
        sheet();
        lose();
        put();
        cell();
        copy();
        parts();
        roundsArguments();
        roundsFaults();
    }

    private static void moorsSheetAndLane() {
        for (int sheet : NO_SHEETS) {
            refusedWith0(UNKNOWN, "moor", sheet, 0, 0, 23);
            refusedWith0(UNKNOWN, "moor", sheet, 3, 0, 23);
            refusedWith0(UNKNOWN, "moor", sheet, 0, 0, -1);
            refusedWith0(UNKNOWN, "moor", sheet, 0, -1, 23);
            refusedWith0(UNKNOWN, "moor", sheet, -1, -1, -1);
        }
        for (int lane : NO_LANES) {
            refusedWith0(OUTSIDE, "moor", 0, lane, 0, 23);
            refusedWith0(OUTSIDE, "moor", 3, lane, 0, 0);
            refusedWith0(OUTSIDE, "moor", 0, lane, 0, -1);
            refusedWith0(OUTSIDE, "moor", 0, lane, -1, 0);
            refusedWith0(OUTSIDE, "moor", 1, lane, 0, 6);
        }
    }

    private static void moorsFaults() {
        for (int sheet = 0; sheet < 3; sheet++) {
            for (int lane = 0; lane < 3; lane++) {
                if (lane != sheet) {
                    fault(CAST, "moor", sheet, lane, 0, 1);
                    fault(CAST, "moor", sheet, lane, 0, -1);
                    fault(CAST, "moor", sheet, lane, -1, 0);
                    fault(CAST, "moor", sheet, lane, 24, MIN);
                }
            }
        }
        for (int lane = 0; lane < 3; lane++) {
            fault(NULL, "moor", 3, lane, 0, 0);
            fault(NULL, "moor", 3, lane, 0, -1);
            fault(NULL, "moor", 3, lane, -1, 0);
            fault(NULL, "moor", 3, lane, 0, 1);
        }
        fault(SIZE, "moor", 0, 0, 0, -1);
        fault(SIZE, "moor", 0, 0, 0, MIN);
        fault(SIZE, "moor", 0, 0, -1, -1);
        fault(SIZE, "moor", 0, 0, 24, -1);
        fault(SIZE, "moor", 0, 0, MIN, MIN);
        fault(SIZE, "moor", 0, 0, MAX, MIN);
        fault(SIZE, "moor", 1, 1, 1, -1);
        fault(INDEX, "moor", 0, 0, -1, 0);
        fault(INDEX, "moor", 0, 0, -1, 23);
        fault(INDEX, "moor", 0, 0, -1, 24);
        fault(INDEX, "moor", 0, 0, MIN, 0);
        fault(INDEX, "moor", 0, 0, MIN, MAX);
        fault(INDEX, "moor", 0, 0, 24, 0);
        fault(INDEX, "moor", 0, 0, MAX, 0);
        fault(INDEX, "moor", 0, 0, 23, 1);
        fault(INDEX, "moor", 0, 0, 0, 24);
        fault(INDEX, "moor", 0, 0, 1, 23);
        fault(INDEX, "moor", 0, 0, 0, MAX);
        fault(INDEX, "moor", 0, 0, 1, MAX);
        fault(INDEX, "moor", 0, 0, MAX, MAX);
        fault(INDEX, "moor", 1, 1, 0, 7);
    }

    /** They are none of the FAULTS. */
    private static void moorsFirstFaults() {
        refusedWith0(-100, "moor", 0, 0, 0, 0);
        refusedWith0(-100, "moor", 0, 0, 23, 0);
        refusedWith0(-101, "moor", 0, 0, 0, 1);
        refusedWith0(-122, "moor", 0, 0, 0, 22);
        refusedWith0(-108, "moor", 0, 0, 0, 8);
        refusedWith0(-100, "moor", 0, 0, 1, 22);
        refusedWith0(-100, "moor", 1, 1, 0, 6);
        refusedWith0(-100, "moor", 2, 2, 1, 3);
    }

    private static void ofPerson() {
        for (int p : NO_PEOPLE) {
            refused(UNKNOWN, "ofPerson", p, 0);
            refused(UNKNOWN, "ofPerson", p, 6);
            refused(UNKNOWN, "ofPerson", p, 7);
            refused(UNKNOWN, "ofPerson", p, -1);
        }
        for (int what : new int[] {-1, 7, MIN, MAX}) {
            refused(OUTSIDE, "ofPerson", 0, what);
            refused(OUTSIDE, "ofPerson", 3, what);
        }
    }

    private static void postAndLax() {
        for (int v : NO_PLACES) {
            refused(OUTSIDE, "post", v);
        }
        for (int v : new int[] {-1, 4, MIN, MAX}) {
            refused(OUTSIDE, "lax", v);
        }
    }

    private static void changesOfOne() {
        for (int p : NO_PEOPLE) {
            refused(UNKNOWN, "bathe", p, 0);
            refused(UNKNOWN, "bathe", p, 8);
            refused(UNKNOWN, "bathe", p, -1);
            refused(UNKNOWN, "moves", p, 0);
            refused(UNKNOWN, "moves", p, 10);
            refused(UNKNOWN, "moves", p, -1);
            refused(UNKNOWN, "send", p);
        }
        for (int v : NO_SMELLS) {
            refused(OUTSIDE, "bathe", 0, v);
            refused(OUTSIDE, "bathe", 3, v);
        }
        for (int v : NO_PLACES) {
            refused(OUTSIDE, "moves", 0, v);
            refused(OUTSIDE, "moves", 3, v);
        }
    }

    private static void asksOfAll() {
        for (int what : new int[] {-1, 2, MIN, MAX}) {
            refused(OUTSIDE, "comes", what);
            refused(OUTSIDE, "site", what);
        }
        for (int k : new int[] {-2, 6, MIN, MAX}) {
            refused(OUTSIDE, "order", k);
        }
        for (int what : new int[] {-1, 5, MIN, MAX}) {
            refused(OUTSIDE, "many", what);
        }
    }

    private static void asksOfOne() {
        for (int p : NO_PEOPLE) {
            for (String name : new String[] {"strict", "ahead", "smells", "pasts", "kinds", "tell", "whistle"}) {
                refused(UNKNOWN, name, p);
            }
            refused(LOST, "odds", p, 0);
            refused(LOST, "odds", p, 1);
            refused(LOST, "odds", p, 2);
        }
        for (int which : new int[] {-1, 2, MIN, MAX}) {
            refused(LOST, "odds", 0, which);
            refused(LOST, "odds", 3, which);
        }
    }

    private static void readings() {
        for (int p : NO_PEOPLE) {
            refused(UNKNOWN, "reading", p, 0);
            refused(UNKNOWN, "reading", p, NONE);
            refused(UNKNOWN, "reading", p, -1);
        }
        for (int to : new int[] {-1, -2, -8, -10, 4, 5, 6, MIN, MAX}) {
            refused(UNKNOWN, "reading", 0, to);
            refused(UNKNOWN, "reading", 3, to);
        }
        // There are two.
        for (int k : new int[] {-1, 3, 8, MIN, MAX}) {
            refused(OUTSIDE, "back", k);
        }
    }

    private static void sheet() {
        for (int k : NO_SHEETS) {
            refusedWith0(UNKNOWN, "sheet", k, 0, 1);
            refusedWith0(UNKNOWN, "sheet", k, 3, 1);
            refusedWith0(UNKNOWN, "sheet", k, 0, 61);
            refusedWith0(UNKNOWN, "sheet", k, 0, -1);
            refusedWith0(UNKNOWN, "sheet", k, -1, -1);
        }
        for (int k = 0; k < 4; k++) {
            for (int lane : NO_LANES) {
                refusedWith0(OUTSIDE, "sheet", k, lane, 1);
                refusedWith0(OUTSIDE, "sheet", k, lane, 61);
                refusedWith0(OUTSIDE, "sheet", k, lane, -1);
                refusedWith0(OUTSIDE, "sheet", k, lane, MIN);
            }
            for (int lane = 0; lane < 3; lane++) {
                refusedWith0(OUTSIDE, "sheet", k, lane, 61);
                refusedWith0(OUTSIDE, "sheet", k, lane, MAX);
                fault(SIZE, "sheet", k, lane, -1);
                fault(SIZE, "sheet", k, lane, MIN);
            }
        }
    }

    private static void lose() {
        for (int k : NO_SHEETS) {
            refused(UNKNOWN, "lose", k);
        }
    }

    private static void put() {
        for (int k : NO_SHEETS) {
            refusedWith0(UNKNOWN, "put", k, 0, 1);
            refusedWith0(UNKNOWN, "put", k, -1, 1);
        }
        for (int i : new int[] {0, 1, -1, 60, MIN, MAX}) {
            fault(NULL, "put", 3, i, 1);
        }
        int[] lengths = {23, 6, 4};
        for (int k = 0; k < 3; k++) {
            for (int i : new int[] {-1, lengths[k], lengths[k] + 1, 59, 60, MIN, MAX}) {
                fault(INDEX, "put", k, i, 1);
            }
        }
    }

    private static void cell() {
        for (int k : NO_SHEETS) {
            refusedWith0(LOST, "cell", k, 0, 0);
            refusedWith0(LOST, "cell", k, -1, 0);
            refusedWith0(LOST, "cell", k, 0, 3);
        }
        for (int lane : NO_LANES) {
            refusedWith0(LOST, "cell", 0, 0, lane);
            refusedWith0(LOST, "cell", 0, -1, lane);
            refusedWith0(LOST, "cell", 3, 0, lane);
        }
        int[] lengths = {23, 6, 4};
        for (int k = 0; k < 3; k++) {
            for (int lane = 0; lane < 3; lane++) {
                for (int i : new int[] {-1, lengths[k], lengths[k] + 1, 59, 60, MIN, MAX}) {
                    table.row(LOST, lane == k ? 3 : 2, Table.NOTHING, "cell", k, i, lane);
                }
                if (lane != k) {
                    table.row(LOST, 2, Table.NOTHING, "cell", k, 0, lane);
                }
            }
        }
        for (int lane = 0; lane < 3; lane++) {
            table.row(LOST, 1, Table.NOTHING, "cell", 3, 0, lane);
            table.row(LOST, 1, Table.NOTHING, "cell", 3, -1, lane);
            table.row(LOST, 1, Table.NOTHING, "cell", 3, 60, lane);
        }
    }

    private static void copy() {
        for (int k : NO_SHEETS) {
            refusedWith0(UNKNOWN, "copy", k, 0, 0, 0, 1);
            refusedWith0(UNKNOWN, "copy", 0, 0, k, 0, 1);
            refusedWith0(UNKNOWN, "copy", k, -1, k, -1, -1);
            refusedWith0(UNKNOWN, "copy", 3, 0, k, 0, 1);
            refusedWith0(UNKNOWN, "copy", k, 0, 3, 0, 1);
            refusedWith0(UNKNOWN, "copy", 0, -1, k, 0, 0);
        }
        for (int k = 0; k < 4; k++) {
            fault(NULL, "copy", k, 0, 3, 0, 1);
            fault(NULL, "copy", 3, 0, k, 0, 1);
            fault(NULL, "copy", k, 0, 3, 0, 0);
            fault(NULL, "copy", k, -1, 3, -1, -1);
            fault(NULL, "copy", 3, MAX, k, MIN, MAX);
        }
        for (int k = 0; k < 3; k++) {
            for (int other = 0; other < 3; other++) {
                if (other != k) {
                    fault(CAST, "copy", k, 0, other, 0, 1);
                    fault(CAST, "copy", k, 0, other, 0, 0);
                    fault(CAST, "copy", k, -1, other, 0, 1);
                    fault(CAST, "copy", k, 0, other, 61, 1);
                    fault(CAST, "copy", k, 0, other, 0, -1);
                }
            }
        }
        int[][] beyond = {{-1, 0, 1}, {0, -1, 1}, {0, 0, -1}, {-1, 0, 0}, {0, -1, 0}, {7, 0, 0}, {0, 7, 0},
            {6, 0, 1}, {0, 6, 1}, {0, 0, 7}, {1, 0, 6}, {0, 1, 6}, {MIN, 0, 0}, {0, MIN, 0}, {0, 0, MIN},
            {MAX, 0, 0}, {0, MAX, 0}, {0, 0, MAX}, {1, 1, MAX}, {MAX, MAX, MAX}, {MIN, MIN, MIN},
            {MAX, 0, 1}, {0, MAX, 1}, {6, 6, MAX}, {6, 6, -1}, {-1, -1, 6}};
        for (int[] way : beyond) {
            fault(INDEX, "copy", 1, way[0], 1, way[1], way[2]);
        }
    }

    private static void parts() {
        for (int p : NO_PEOPLE) {
            refusedWith0(UNKNOWN, "as", p, 0);
            refusedWith0(UNKNOWN, "as", p, 2);
            refusedWith0(UNKNOWN, "as", p, 3);
            refusedWith0(UNKNOWN, "as", p, -1);
        }
        for (int kind : new int[] {-1, 3, MIN, MAX}) {
            for (int p = 0; p < 4; p++) {
                refusedWith0(OUTSIDE, "as", p, kind);
            }
        }
        fault(CAST, "as", 0, 1);
        fault(CAST, "as", 0, 2);
        fault(CAST, "as", 1, 2);
        fault(CAST, "as", 3, 1);
    }

    private static void roundsArguments() {
        for (int sheet : NO_SHEETS) {
            refusedWith0(UNKNOWN, "round", sheet, 1, 0, 3, 0);
            refusedWith0(UNKNOWN, "round", sheet, 3, 0, 3, 0);
            refusedWith0(UNKNOWN, "round", sheet, 1, 0, 21, 0);
            refusedWith0(UNKNOWN, "round", sheet, 1, 0, 3, 4);
            refusedWith0(UNKNOWN, "round", sheet, 1, -1, 3, 0);
        }
        for (int lane : NO_LANES) {
            refusedWith0(OUTSIDE, "round", 1, lane, 0, 3, 0);
            refusedWith0(OUTSIDE, "round", 3, lane, 0, 3, 0);
            refusedWith0(OUTSIDE, "round", 1, lane, -1, 3, 0);
        }
        for (int n : new int[] {-1, 21, MIN, MAX, 1 << 30, 1 << 31}) {
            refusedWith0(OUTSIDE, "round", 1, 1, 0, n, 0);
            refusedWith0(OUTSIDE, "round", 1, 0, 0, n, 0);
            refusedWith0(OUTSIDE, "round", 3, 1, 0, n, 0);
            refusedWith0(OUTSIDE, "round", 1, 1, -1, n, 0);
        }
        for (int what : new int[] {-1, 4, 5, 8, 9, 16, 17, MIN, MAX}) {
            refusedWith0(OUTSIDE, "round", 1, 1, 0, 3, what);
            refusedWith0(OUTSIDE, "round", 1, 0, 0, 3, what);
            refusedWith0(OUTSIDE, "round", 3, 1, 0, 3, what);
            refusedWith0(OUTSIDE, "round", 1, 1, 7, 3, what);
            refusedWith0(OUTSIDE, "round", 2, 2, 0, 2, what);
        }
    }

    private static void roundsFaults() {
        for (int sheet = 0; sheet < 3; sheet++) {
            for (int lane = 0; lane < 3; lane++) {
                if (lane != sheet) {
                    fault(CAST, "round", sheet, lane, 0, 1, 0);
                    fault(CAST, "round", sheet, lane, 0, 0, 0);
                    fault(CAST, "round", sheet, lane, -1, 20, 0);
                }
            }
        }
        for (int lane = 0; lane < 3; lane++) {
            fault(NULL, "round", 3, lane, 0, 0, 0);
            fault(NULL, "round", 3, lane, -1, 1, 0);
            fault(NULL, "round", 3, lane, 0, 20, 15);
        }
        int[][] beyond = {{-1, 0}, {-1, 1}, {0, 4}, {1, 3}, {2, 3}, {5, 1}, {6, 1}, {7, 0}, {7, 1}, {0, 20},
            {MIN, 0}, {MIN, 20}, {MAX, 0}, {MAX, 1}, {MAX, 20}};
        for (int[] way : beyond) {
            fault(INDEX, "round", 1, 1, way[0], way[1], 0);
            fault(INDEX, "round", 1, 1, way[0], way[1], 15);
        }
        // The pairs 4 .. 6 are none (8 70000, and 70000 9), but INDEX is ahead of them.
        fault(INDEX, "round", 2, 2, 0, 3, 0);
        refusedWith0(OUTSIDE, "round", 2, 2, 0, 2, 0);
        refusedWith0(OUTSIDE, "round", 2, 2, 1, 1, 0);
        refusedWith0(OUTSIDE, "round", 2, 2, 2, 1, 0);
    }

    private static void withAllReadings() {
        begin("with 8 READINGS", SetUps::moorWithAllReadings);
        refused(FULL, "reading", 0, 0);
        refused(FULL, "reading", 3, 3);
        refused(FULL, "reading", 3, NONE);
        refused(UNKNOWN, "reading", 4, 0);
        refused(UNKNOWN, "reading", -1, NONE);
        refused(UNKNOWN, "reading", 0, 4);
        refused(UNKNOWN, "reading", 3, -1);
        refused(OUTSIDE, "back", 9);
        refused(OUTSIDE, "back", -1);
    }

    private static void withoutAMoor() {
        begin("without a moor", SetUps::sheets);
        for (int v : new int[] {0, 9, -1, 10, MIN, MAX}) {
            refused(STATE, "post", v);
            refused(STATE, "lax", v);
            refused(STATE, "comes", v);
            refused(STATE, "site", v);
            refused(STATE, "order", v);
        }
        refused(STATE, "lax", 3);
        refused(STATE, "comes", 1);
        refused(STATE, "site", 1);
        for (int p : new int[] {0, 1, -1, NONE, 6}) {
            for (String name : new String[] {"send", "strict", "ahead", "smells", "pasts", "kinds", "tell", "whistle"}) {
                refused(UNKNOWN, name, p);
            }
            for (int v : new int[] {0, -1, 99}) {
                refused(UNKNOWN, "ofPerson", p, v);
                refused(UNKNOWN, "bathe", p, v);
                refused(UNKNOWN, "moves", p, v);
                refused(LOST, "odds", p, v);
                refusedWith0(UNKNOWN, "as", p, v);
            }
            refused(UNKNOWN, "reading", p, NONE);
            refused(UNKNOWN, "reading", p, 0);
        }
        refused(OUTSIDE, "back", 1);
        refused(OUTSIDE, "back", -1);
        refused(OUTSIDE, "many", 5);
        refused(OUTSIDE, "many", -1);
        refusedWith0(STATE, "round", 1, 1, 0, 3, 0);
        refusedWith0(STATE, "round", 1, 1, 0, 0, 15);
        refusedWith0(STATE, "round", 1, 0, 0, 3, 0);
        refusedWith0(STATE, "round", 3, 0, 0, 0, 0);
        refusedWith0(STATE, "round", 1, 1, 7, 0, 0);
        refusedWith0(STATE, "round", 2, 2, 0, 2, 0);
        refusedWith0(UNKNOWN, "round", 4, 1, 0, 3, 0);
        refusedWith0(OUTSIDE, "round", 1, 3, 0, 3, 0);
        refusedWith0(OUTSIDE, "round", 1, 1, 0, 21, 0);
        refusedWith0(OUTSIDE, "round", 1, 1, 0, -1, 0);
        refusedWith0(OUTSIDE, "round", 1, 1, 0, 3, 9);
        refusedWith0(-100, "moor", 1, 1, 0, 6);
        refusedWith0(-122, "moor", 0, 0, 0, 22);
    }

    /** A row of no cells is not nothing. */
    private static void onNoCells() {
        begin("on a row of no cells", () -> {
            NosePost x = SetUps.moor();
            x.sheet(1, 0, 0);
            x.sheet(2, 1, 0);
            return x;
        });
        refusedWith0(-100, "moor", 1, 0, 0, 0);
        fault(INDEX, "moor", 1, 0, 0, 1);
        fault(INDEX, "moor", 1, 0, 1, 0);
        fault(INDEX, "moor", 1, 0, -1, 0);
        fault(SIZE, "moor", 1, 0, 0, -1);
        fault(CAST, "moor", 1, 1, 0, 0);
        fault(INDEX, "round", 1, 0, 0, 1, 0);
        fault(INDEX, "round", 1, 0, 1, 0, 0);
        fault(CAST, "round", 1, 1, 0, 0, 0);
        fault(INDEX, "put", 1, 0, 0);
        table.row(LOST, 3, Table.NOTHING, "cell", 1, 0, 0);
        table.row(LOST, 2, Table.NOTHING, "cell", 1, 0, 1);
        fault(INDEX, "copy", 1, 0, 0, 24, 0);
        fault(INDEX, "copy", 1, 0, 0, 0, 1);
        fault(INDEX, "copy", 0, 0, 1, 0, 1);
        fault(CAST, "copy", 1, 0, 2, 0, 0);
    }

    /** Of 20 pairs, all but one or two as told. */
    private static void pairs() {
        for (int k = 0; k < 20; k++) {
            CHECKS.due("the second of pair " + k, OUTSIDE, roundWith(k, 0, 9));
            CHECKS.due("the first of pair " + k, UNKNOWN, roundWith(k, 4, 8));
            CHECKS.due("both of pair " + k, OUTSIDE, roundWith(k, 4, 20));
        }
        for (int k = 0; k + 1 < 20; k++) {
            CHECKS.due("the first of pair " + k + ", the second of the next", UNKNOWN, roundWith(k, 4, 8, 0, 9));
            CHECKS.due("the second of pair " + k + ", the first of the next", OUTSIDE, roundWith(k, 0, 9, 4, 8));
        }
        for (int second : new int[] {-1, 9, 20, MIN, MAX, MIN + 9, MIN + 19, 256, 65544}) {
            CHECKS.due("a second " + second, OUTSIDE, roundWith(19, 0, second));
        }
        for (int first : new int[] {-1, 4, 5, 6, NONE, MIN, MAX, 256, 65536}) {
            CHECKS.due("a first " + first, UNKNOWN, roundWith(19, first, 8));
        }
    }

    private static long roundWith(int k, int... told) {
        NosePost x = SetUps.moor();
        int[] row = new int[40];
        System.arraycopy(told, 0, row, 2 * k, told.length);
        Checks.write(x, 3, 2, row);
        x.as(0, 2);
        State before = State.withReadings(x);
        x.as(0, 2);
        long answer = x.round(3, 2, 0, 20, 0);
        CHECKS.due("fault()", 0, x.fault());
        CHECKS.same("what round changes", "", before.changesTo(State.withReadings(x)));
        return answer;
    }

    /** "Cells of a SHEET from i on": the cells ahead of i and behind the pairs are no matter. */
    private static void pairsFromEachCell() {
        for (int i = 0; i <= 54; i++) {
            CHECKS.due("from " + i + ", all as told", 3, roundFrom(i, 0, 8, 0, 8, 0, 8));
            for (int k = 0; k < 3; k++) {
                int[] first = {0, 8, 0, 8, 0, 8};
                first[2 * k] = 4;
                CHECKS.due("from " + i + ", the first of pair " + k, UNKNOWN, roundFrom(i, first));
                int[] second = {0, 8, 0, 8, 0, 8};
                second[2 * k + 1] = 9;
                CHECKS.due("from " + i + ", the second of pair " + k, OUTSIDE, roundFrom(i, second));
            }
        }
    }

    private static long roundFrom(int i, int... told) {
        NosePost x = SetUps.moor();
        int[] row = new int[60];
        Arrays.fill(row, 99);
        System.arraycopy(told, 0, row, i, told.length);
        Checks.write(x, 3, 1, row);
        return x.round(3, 1, i, told.length / 2, 0);
    }

    /** INDEX by every i and n about the row. */
    private static void byEachWindow() {
        for (int i = -2; i <= 25; i++) {
            for (int n = 0; n <= 25; n++) {
                boolean beyond = i < 0 || i > 23 || i + n > 23;
                NosePost x = SetUps.moor();
                long answer = x.moor(0, 0, i, n);
                CHECKS.holds("moor(0, 0, " + i + ", " + n + ") INDEX", beyond == (answer == INDEX));
                CHECKS.due("moor(0, 0, " + i + ", " + n + ") fault()", beyond ? 3 : 0, x.fault());
            }
        }
        for (int i = -2; i <= 9; i++) {
            for (int n = 0; n <= 5; n++) {
                boolean beyond = i < 0 || i > 6 || i + 2 * n > 6;
                NosePost x = SetUps.moor();
                x.sheet(1, 1, 6);
                CHECKS.due("round(1, 1, " + i + ", " + n + ", 0)", beyond ? INDEX : 0, x.round(1, 1, i, n, 0));
                CHECKS.due("round(1, 1, " + i + ", " + n + ", 0) fault()", beyond ? 3 : 0, x.fault());
            }
        }
        for (int i = -2; i <= 8; i++) {
            for (int j = -2; j <= 6; j++) {
                for (int n = -2; n <= 8; n++) {
                    boolean beyond = i < 0 || j < 0 || n < 0 || i + n > 6 || j + n > 4;
                    NosePost x = new NosePost();
                    x.sheet(0, 1, 6);
                    x.sheet(1, 1, 4);
                    CHECKS.due("copy(0, " + i + ", 1, " + j + ", " + n + ")", beyond ? INDEX : n, x.copy(0, i, 1, j, n));
                    CHECKS.due("fault()", beyond ? 3 : 0, x.fault());
                }
            }
        }
    }
}
