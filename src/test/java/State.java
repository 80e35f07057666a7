import java.util.ArrayList;
import java.util.LinkedHashMap;
import java.util.List;
import java.util.Map;
import java.util.StringJoiner;

/**
 * What an object tells of how it is: names of facts, and what they are. Asking takes some 60 calls,
 * and one for each cell. fault() is left out, as asking for cells changes it.
 */
final class State {
    private static final String[] NUMBERS = {"PEOPLE", "POST", "LAX", "letters", "READINGS"};
    private static final String[] OF_PERSON = {"kind", "SMELL", "WAS", "PLACE"};

    private final Map<String, String> facts = new LinkedHashMap<>();

    static State of(NosePost x) {
        State now = new State();
        now.facts.put("TRACE", "" + x.trace());
        for (int what = 0; what < NUMBERS.length; what++) {
            now.facts.put(NUMBERS[what], "" + x.many(what));
        }
        for (int p = 0; p < x.many(0); p++) {
            for (int what = 0; what < OF_PERSON.length; what++) {
                now.facts.put(OF_PERSON[what] + " of " + p, "" + x.ofPerson(p, what));
            }
        }
        for (int k = 0; k < 4; k++) {
            now.facts.put("SHEET " + k, rowOf(x, k));
        }
        return now;
    }

    /** And what the READINGS tell, which hangs on all else. */
    static State withReadings(NosePost x) {
        State now = of(x);
        for (int p = 0; p < x.many(0); p++) {
            now.facts.put("by READINGS of " + p, x.smells(p) + " " + x.pasts(p) + " " + x.kinds(p));
        }
        return now;
    }

    private static String rowOf(NosePost x, int k) {
        for (int lane = 0; lane < 3; lane++) {
            List<Integer> row = new ArrayList<>();
            long cell = x.cell(k, 0, lane);
            while (cell != NosePost.LOST) {
                row.add((int) cell);
                cell = x.cell(k, row.size(), lane);
            }
            if (x.fault() == 3) {
                return lane + row.toString();
            }
        }
        return "nothing";
    }

    /** Each fact that is another one later: its name, what it was > what it is. */
    String changesTo(State later) {
        Map<String, String> names = new LinkedHashMap<>(facts);
        names.putAll(later.facts);
        StringJoiner changes = new StringJoiner("; ");
        for (String name : names.keySet()) {
            String was = facts.getOrDefault(name, "none");
            String is = later.facts.getOrDefault(name, "none");
            if (!was.equals(is)) {
                changes.add(name + " " + was + ">" + is);
            }
        }
        return changes.toString();
    }
}
