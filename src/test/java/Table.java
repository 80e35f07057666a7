import java.util.function.Supplier;

/**
 * A table of calls, each made on an object of its own, all of them set up alike (SHEET 3 has nothing
 * then): what the call answers, what fault() tells then, and what it changes.
 */
final class Table {
    /** For calls that name no FAULTS: fault() tells what it told ahead of them. */
    static final int STAYS = -1;
    static final String NOTHING = "";

    private static final int NULL = 1, SIZE = 4;

    private final Checks checks;
    private final String part;
    private final Supplier<NosePost> setUp;
    private final State before;
    private final State beforeWithReadings;

    Table(Checks checks, String part, Supplier<NosePost> setUp) {
        this.checks = checks;
        this.part = part;
        this.setUp = setUp;
        before = State.of(setUp.get());
        beforeWithReadings = State.withReadings(setUp.get());
    }

    void row(long answer, int fault, String changes, String name, int... args) {
        for (int earlier : new int[] {NULL, SIZE}) {
            String call = part + ": " + Calls.told(name, args) + " behind FAULT " + earlier;
            NosePost x = setUp.get();
            comeTo(x, earlier);
            checks.due(call, answer, Calls.on(x, name, args));
            checks.due(call + ", fault()", fault == STAYS ? earlier : fault, x.fault());
            checks.same(call + ", changes", changes, changes.equals(NOTHING)
                    ? beforeWithReadings.changesTo(State.withReadings(x))
                    : before.changesTo(State.of(x)));
        }
    }

    private static void comeTo(NosePost x, int fault) {
        if (fault == NULL) {
            x.put(3, 0, 0);
        } else {
            x.sheet(3, 0, -1);
        }
    }
}
