/**
 * Letters that go by dog over a moor, as ../shared/DOC.md promises it.
 *
 * All rows are made in the constructor and used again, so that no call makes an object: whoever
 * runs this may keep all objects of all calls.
 */
public final class NosePost {
    public static final int UNKNOWN = -1, OUTSIDE = -2, STATE = -3, FULL = -4, NONE = -9;
    public static final long LOST = Long.MIN_VALUE;

    private static final int NO_FAULT = 0, NULL = 1, CAST = 2, INDEX = 3, SIZE = 4;
    private static final int PLAIN = 0, RANK = 1, REEKING = 2, KINDS = 3;
    private static final int LEAST_PEOPLE = 2, MOST_PEOPLE = 6;
    private static final int SMELLS = 8, PLACES = 10, LAXITIES = 4;
    private static final int BYTES = 0, SHORTS = 1, LANES = 3;
    private static final int SHEETS = 4, MOST_CELLS = 60;
    private static final int MOST_READINGS = 8;
    private static final int MOST_PAIRS = 20, LETTER = 8, WALK = 10;
    private static final int PASTS_THEN = 10;
    private static final int MOST_ORDERS = 720;

    private final Moor now;
    /** How all might be: taken anew from how it is now ahead of each use. */
    private final Moor draft;
    private final Sheet[] sheets;
    private final Tally tally;
    private final int[] readingFor;
    private final int[] readingTo;
    private final int[] goesAtFirst;
    private final int[] tried;
    private final int[] best;
    private int readings;
    private int letters;
    private int traced;
    private int lastFault;

    public NosePost() {
        now = new Moor();
        draft = new Moor();
        sheets = new Sheet[SHEETS];
        for (int k = 0; k < SHEETS; k++) {
            sheets[k] = new Sheet();
        }
        tally = new Tally();
        readingFor = new int[MOST_READINGS];
        readingTo = new int[MOST_READINGS];
        goesAtFirst = new int[MOST_PEOPLE];
        tried = new int[MOST_PEOPLE];
        best = new int[MOST_PEOPLE];
    }

    // ---- 1 the moor

    public int moor(int sheet, int lane, int i, int n) {
        lastFault = NO_FAULT;
        if (!isSheet(sheet)) {
            return UNKNOWN;
        }
        if (!isBelow(lane, LANES)) {
            return OUTSIDE;
        }
        Sheet text = sheets[sheet];
        int met = text.faultAs(lane);
        if (met == NO_FAULT && n < 0) {
            met = SIZE;
        }
        if (met == NO_FAULT && !text.spans(i, n)) {
            met = INDEX;
        }
        if (met != NO_FAULT) {
            return faulted(met);
        }
        int wrong = Text.firstFault(text.cells, i, n);
        if (wrong != NONE) {
            return -100 - wrong;
        }
        Text.fill(now, text.cells, i, n);
        readings = 0;
        letters = 0;
        return now.people;
    }

    public int ofPerson(int p, int what) {
        if (!isPerson(p)) {
            return UNKNOWN;
        }
        switch (what) {
            case 0: return now.kind[p];
            case 1: return now.smell[p];
            case 2: return now.was[p];
            case 3: return now.place[p];
            case 4: return now.scentOf(p);
            case 5: return now.isSmelt(p) ? 1 : 0;
            case 6: return now.goesTo(p);
            default: return OUTSIDE;
        }
    }

    public int post(int place) {
        if (hasNoMoor()) {
            return STATE;
        }
        if (!isBelow(place, PLACES)) {
            return OUTSIDE;
        }
        int before = now.post;
        now.post = place;
        return before;
    }

    public int lax(int v) {
        if (hasNoMoor()) {
            return STATE;
        }
        if (!isBelow(v, LAXITIES)) {
            return OUTSIDE;
        }
        int before = now.lax;
        now.lax = v;
        return before;
    }

    // ---- 2 letters

    public int bathe(int p, int v) {
        return becomes(now.smell, p, v, SMELLS);
    }

    public int moves(int p, int v) {
        return becomes(now.place, p, v, PLACES);
    }

    public int send(int p) {
        if (!isPerson(p)) {
            return UNKNOWN;
        }
        letters++;
        return now.deliver(p);
    }

    public int comes(int what) {
        if (hasNoMoor()) {
            return STATE;
        }
        switch (what) {
            case 0: return now.whoseCome();
            case 1: return now.whoGetOne();
            default: return OUTSIDE;
        }
    }

    public int round(int sheet, int lane, int i, int n, int what) {
        lastFault = NO_FAULT;
        if (!isSheet(sheet)) {
            return UNKNOWN;
        }
        if (!isBelow(lane, LANES) || !isBelow(n, MOST_PAIRS + 1) || !isOfRound(what)) {
            return OUTSIDE;
        }
        if (hasNoMoor()) {
            return STATE;
        }
        Sheet told = sheets[sheet];
        int met = told.faultAs(lane);
        if (met == NO_FAULT && !told.spans(i, 2 * n)) {
            met = INDEX;
        }
        if (met != NO_FAULT) {
            return faulted(met);
        }
        int refusal = refusalOfPairs(told.cells, i, n);
        if (refusal != 0) {
            return refusal;
        }
        play(told.cells, i, n);
        return ofRound(what);
    }

    // ---- 3 how they would come

    public int strict(int p) {
        if (!isPerson(p)) {
            return UNKNOWN;
        }
        draft.become(now);
        for (int v = 0; v < LAXITIES; v++) {
            draft.lax = v;
            if (draft.goesTo(p) == p) {
                return v;
            }
        }
        return NONE;
    }

    public int site(int what) {
        if (hasNoMoor()) {
            return STATE;
        }
        if (!isBelow(what, 2)) {
            return OUTSIDE;
        }
        draft.become(now);
        int where = 0;
        int most = -1;
        for (int place = 0; place < PLACES; place++) {
            draft.post = place;
            int come = Integer.bitCount(draft.whoseCome());
            if (come > most) {
                most = come;
                where = place;
            }
        }
        return what == 0 ? where : most;
    }

    public int order(int k) {
        if (hasNoMoor()) {
            return STATE;
        }
        if (k < -1 || k >= MOST_PEOPLE) {
            return OUTSIDE;
        }
        if (k >= now.people) {
            return NONE;
        }
        int most = findBestOrder();
        return k < 0 ? most : best[k];
    }

    public int ahead(int p) {
        if (!isPerson(p)) {
            return UNKNOWN;
        }
        if (now.goesTo(p) == p) {
            return 0;
        }
        // Who gets one gets its own from then on (see comingInTriedOrder), so one sent ahead does,
        // and letters to others, that then get their own, can't bring p one that none brings now.
        return contains(now.whoGetOne(), p) ? 1 : NONE;
    }

    // ---- 4 who got what

    public int reading(int p, int to) {
        if (!isPerson(p)) {
            return UNKNOWN;
        }
        if (!isPerson(to) && to != NONE) {
            return UNKNOWN;
        }
        if (readings >= MOST_READINGS) {
            return FULL;
        }
        readingFor[readings] = p;
        readingTo[readings] = to;
        readings++;
        return readings - 1;
    }

    public int back(int k) {
        if (k < 0 || k > readings) {
            return OUTSIDE;
        }
        readings -= k;
        return readings;
    }

    public int smells(int p) {
        return bySuchReadings(draft.smell, p, SMELLS);
    }

    public int pasts(int p) {
        return bySuchReadings(draft.was, p, SMELLS);
    }

    public int kinds(int p) {
        return bySuchReadings(draft.kind, p, KINDS);
    }

    public long odds(int p, int which) {
        if (!isPerson(p) || !isBelow(which, 2)) {
            return LOST;
        }
        int upper = smellsByWhichItComes(p);
        int lower = SMELLS;
        while (lower > 1 && upper % 2 == 0) {
            upper /= 2;
            lower /= 2;
        }
        return which == 0 ? upper : lower;
    }

    // ---- 5 sheets, parts

    public int sheet(int k, int lane, int n) {
        lastFault = NO_FAULT;
        if (!isSheet(k)) {
            return UNKNOWN;
        }
        if (!isBelow(lane, LANES) || n > MOST_CELLS) {
            return OUTSIDE;
        }
        if (n < 0) {
            return faulted(SIZE);
        }
        sheets[k].begin(lane, n);
        return 1;
    }

    public int lose(int k) {
        if (!isSheet(k)) {
            return UNKNOWN;
        }
        boolean had = sheets[k].hasRow;
        sheets[k].hasRow = false;
        return had ? 1 : 0;
    }

    public int put(int k, int i, int v) {
        lastFault = NO_FAULT;
        if (!isSheet(k)) {
            return UNKNOWN;
        }
        Sheet to = sheets[k];
        if (!to.hasRow) {
            return faulted(NULL);
        }
        if (!to.hasCell(i)) {
            return faulted(INDEX);
        }
        to.write(i, v);
        return 1;
    }

    public long cell(int k, int i, int lane) {
        lastFault = NO_FAULT;
        if (!isSheet(k) || !isBelow(lane, LANES)) {
            return LOST;
        }
        Sheet from = sheets[k];
        lastFault = from.faultAs(lane);
        if (lastFault == NO_FAULT && !from.hasCell(i)) {
            lastFault = INDEX;
        }
        return lastFault == NO_FAULT ? from.cells[i] : LOST;
    }

    public int copy(int k, int i, int other, int j, int n) {
        lastFault = NO_FAULT;
        if (!isSheet(k) || !isSheet(other)) {
            return UNKNOWN;
        }
        Sheet from = sheets[k];
        Sheet to = sheets[other];
        if (!from.hasRow || !to.hasRow) {
            return faulted(NULL);
        }
        if (from.lane != to.lane) {
            return faulted(CAST);
        }
        if (!from.spans(i, n) || !to.spans(j, n)) {
            return faulted(INDEX);
        }
        System.arraycopy(from.cells, i, to.cells, j, n);
        return n;
    }

    public int tell(int p) {
        if (!isPerson(p)) {
            return UNKNOWN;
        }
        switch (now.kind[p]) {
            case REEKING: return toldByReeking(p);
            case RANK: return toldByRank(p);
            default: return toldByPlain(p);
        }
    }

    public int whistle(int p) {
        if (!isPerson(p)) {
            return UNKNOWN;
        }
        if (now.kind[p] == REEKING) {
            begins(5);
            return 70;
        }
        begins(4);
        return p;
    }

    public int as(int p, int kind) {
        lastFault = NO_FAULT;
        if (!isPerson(p)) {
            return UNKNOWN;
        }
        if (!isBelow(kind, KINDS)) {
            return OUTSIDE;
        }
        // Each kind is one of all kinds below it, too.
        return kind <= now.kind[p] ? 1 : faulted(CAST);
    }

    public int trace() {
        return traced;
    }

    public int fault() {
        return lastFault;
    }

    public int many(int what) {
        switch (what) {
            case 0: return now.people;
            case 1: return now.post;
            case 2: return now.lax;
            case 3: return letters;
            case 4: return readings;
            default: return OUTSIDE;
        }
    }

    // ---- what several calls need

    private static boolean isBelow(int v, int end) {
        return v >= 0 && v < end;
    }

    private static boolean isSheet(int k) {
        return isBelow(k, SHEETS);
    }

    private static boolean contains(int set, int p) {
        return (set >> p & 1) != 0;
    }

    private static int withOne(int set, int to) {
        return to == NONE ? set : set | 1 << to;
    }

    private boolean isPerson(int p) {
        return isBelow(p, now.people);
    }

    private boolean hasNoMoor() {
        return now.people == 0;
    }

    private int faulted(int which) {
        lastFault = which;
        return -10 - which;
    }

    private int becomes(int[] ofAll, int p, int v, int end) {
        if (!isPerson(p)) {
            return UNKNOWN;
        }
        if (!isBelow(v, end)) {
            return OUTSIDE;
        }
        int before = ofAll[p];
        ofAll[p] = v;
        return before;
    }

    // ---- rounds

    private static boolean isOfRound(int what) {
        return isBelow(what, 4) || isBelow(what - PASTS_THEN, MOST_PEOPLE);
    }

    /** The refusal that the first pair that is not as told asks for; 0: all are as told. */
    private int refusalOfPairs(int[] cells, int i, int n) {
        for (int k = 0; k < n; k++) {
            int act = cells[i + 2 * k + 1];
            if (!isBelow(act, LETTER + 1) && !isBelow(act - WALK, PLACES)) {
                return OUTSIDE;
            }
            if (!isPerson(cells[i + 2 * k])) {
                return UNKNOWN;
            }
        }
        return 0;
    }

    private void play(int[] cells, int i, int n) {
        draft.become(now);
        tally.clear();
        for (int k = 0; k < n; k++) {
            int p = cells[i + 2 * k];
            int act = cells[i + 2 * k + 1];
            if (act < LETTER) {
                draft.smell[p] = act;
            } else if (act == LETTER) {
                tally.add(k, p, draft.deliver(p));
            } else {
                draft.place[p] = act - WALK;
            }
        }
    }

    private int ofRound(int what) {
        switch (what) {
            case 0: return tally.came;
            case 1: return tally.firstWrong;
            case 2: return tally.getters;
            case 3: return tally.home;
            default: return isPerson(what - PASTS_THEN) ? draft.was[what - PASTS_THEN] : NONE;
        }
    }

    // ---- orders and letters ahead

    /** Leaves the ORDER in best, and tells how many letters of it COME. */
    private int findBestOrder() {
        for (int p = 0; p < now.people; p++) {
            tried[p] = p;
            goesAtFirst[p] = now.goesTo(p);
        }
        int most = -1;
        // Orders are tried from the first row on, so a later one must be better to be taken.
        for (int k = 0; k < MOST_ORDERS && most < now.people; k++) {
            int come = comingInTriedOrder();
            if (come > most) {
                most = come;
                System.arraycopy(tried, 0, best, 0, MOST_PEOPLE);
            }
            if (!stepToNextRow(tried, now.people)) {
                break;
            }
        }
        return most;
    }

    /**
     * Who got one gets its own from then on: its WAS is its SMELL, and of those with the same SMELL,
     * the only ones as like, it is the nearest and least, or it would not have got that one.
     */
    private int comingInTriedOrder() {
        int got = 0;
        int come = 0;
        for (int k = 0; k < now.people; k++) {
            int p = tried[k];
            int to = contains(got, p) ? p : goesAtFirst[p];
            if (to == p) {
                come++;
            }
            got = withOne(got, to);
        }
        return come;
    }

    /** Makes the first n of a row the next ones as rows go; false: there are none. */
    private static boolean stepToNextRow(int[] row, int n) {
        int at = n - 2;
        while (at >= 0 && row[at] > row[at + 1]) {
            at--;
        }
        if (at < 0) {
            return false;
        }
        int other = n - 1;
        while (other > at + 1 && row[other] < row[at]) {
            other--;
        }
        swap(row, at, other);
        for (int a = at + 1, z = n - 1; a < z; a++, z--) {
            swap(row, a, z);
        }
        return true;
    }

    private static void swap(int[] row, int a, int z) {
        int kept = row[a];
        row[a] = row[z];
        row[z] = kept;
    }

    // ---- readings

    /** Which values below an end a PERSON's one of the draft's rows may have by all READINGS. */
    private int bySuchReadings(int[] draftRow, int p, int end) {
        if (!isPerson(p)) {
            return UNKNOWN;
        }
        draft.become(now);
        int set = 0;
        for (int v = 0; v < end; v++) {
            draftRow[p] = v;
            if (readingsHoldInDraft()) {
                set |= 1 << v;
            }
        }
        return set;
    }

    private boolean readingsHoldInDraft() {
        for (int k = 0; k < readings; k++) {
            if (draft.goesTo(readingFor[k]) != readingTo[k]) {
                return false;
            }
        }
        return true;
    }

    private int smellsByWhichItComes(int p) {
        draft.become(now);
        int many = 0;
        for (int v = 0; v < SMELLS; v++) {
            draft.smell[p] = v;
            if (draft.goesTo(p) == p) {
                many++;
            }
        }
        return many;
    }

    // ---- bodies that tell

    private void begins(int body) {
        traced = 31 * traced + body;
    }

    private int toldByPlain(int p) {
        begins(1);
        return now.smell[p];
    }

    private int toldByRank(int p) {
        begins(2);
        return toldByPlain(p) + 100;
    }

    private int toldByReeking(int p) {
        begins(3);
        int asRank = toldByRank(p);
        return asRank + toldByPlain(p);
    }

    /** PEOPLE, POST and LAX: how all is, or might be. Without PEOPLE there is no MOOR. */
    private static final class Moor {
        int post;
        int lax;
        int people;
        final int[] kind;
        final int[] smell;
        final int[] was;
        final int[] place;

        Moor() {
            kind = new int[MOST_PEOPLE];
            smell = new int[MOST_PEOPLE];
            was = new int[MOST_PEOPLE];
            place = new int[MOST_PEOPLE];
        }

        void become(Moor other) {
            post = other.post;
            lax = other.lax;
            people = other.people;
            System.arraycopy(other.kind, 0, kind, 0, MOST_PEOPLE);
            System.arraycopy(other.smell, 0, smell, 0, MOST_PEOPLE);
            System.arraycopy(other.was, 0, was, 0, MOST_PEOPLE);
            System.arraycopy(other.place, 0, place, 0, MOST_PEOPLE);
        }

        int scentOf(int p) {
            int traits = Integer.bitCount(smell[p]);
            switch (kind[p]) {
                case REEKING: return 2 * (traits + 1);
                case RANK: return traits + 1;
                default: return traits;
            }
        }

        int distanceOf(int p) {
            return Math.abs(place[p] - post);
        }

        boolean isSmelt(int p) {
            return distanceOf(p) <= scentOf(p);
        }

        int goesTo(int p) {
            int whom = NONE;
            int fewest = 0;
            int nearest = 0;
            for (int q = 0; q < people; q++) {
                int unlike = Integer.bitCount(smell[q] ^ was[p]);
                int far = distanceOf(q);
                if (unlike > lax || far > scentOf(q)) {
                    continue;
                }
                if (whom == NONE || unlike < fewest || unlike == fewest && far < nearest) {
                    whom = q;
                    fewest = unlike;
                    nearest = far;
                }
            }
            return whom;
        }

        int deliver(int p) {
            int to = goesTo(p);
            if (to != NONE) {
                was[to] = smell[to];
            }
            return to;
        }

        int whoseCome() {
            int set = 0;
            for (int p = 0; p < people; p++) {
                if (goesTo(p) == p) {
                    set |= 1 << p;
                }
            }
            return set;
        }

        int whoGetOne() {
            int set = 0;
            for (int p = 0; p < people; p++) {
                set = withOne(set, goesTo(p));
            }
            return set;
        }
    }

    /** What a SHEET has: the row is kept for good, hasRow tells whether there is anything. */
    private static final class Sheet {
        boolean hasRow;
        int lane;
        int length;
        final int[] cells;

        Sheet() {
            cells = new int[MOST_CELLS];
        }

        void begin(int newLane, int n) {
            hasRow = true;
            lane = newLane;
            length = n;
            for (int i = 0; i < MOST_CELLS; i++) {
                cells[i] = 0;
            }
        }

        int faultAs(int asLane) {
            if (!hasRow) {
                return NULL;
            }
            return lane == asLane ? NO_FAULT : CAST;
        }

        boolean hasCell(int i) {
            return i >= 0 && i < length;
        }

        boolean spans(int i, int n) {
            return i >= 0 && i <= length && n >= 0 && n <= length - i;
        }

        void write(int i, int v) {
            if (lane == BYTES) {
                cells[i] = (byte) v;
            } else if (lane == SHORTS) {
                cells[i] = (short) v;
            } else {
                cells[i] = v;
            }
        }
    }

    /** What is counted of the letters of a ROUND. */
    private static final class Tally {
        int came;
        int firstWrong;
        int getters;
        int home;

        void clear() {
            came = 0;
            firstWrong = NONE;
            getters = 0;
            home = 0;
        }

        void add(int pair, int p, int to) {
            if (to == p) {
                came++;
            } else if (firstWrong == NONE) {
                firstWrong = pair;
            }
            if (to == NONE) {
                home++;
            }
            getters = withOne(getters, to);
        }
    }

    /** The TEXT of a MOOR: a head of three codes, and five for each PERSON. */
    private static final class Text {
        private static final int HEAD = 3, EACH = 5;
        private static final int MOST_CODES = HEAD + EACH * MOST_PEOPLE;
        private static final int LEAST_CODES = HEAD + EACH * LEAST_PEOPLE;

        private Text() {
        }

        /** NONE: it is a TEXT. */
        static int firstFault(int[] cells, int i, int n) {
            for (int at = 0; at < n; at++) {
                if (!goesOnWith(at, cells[i + at])) {
                    return at;
                }
            }
            return n >= LEAST_CODES && (n - HEAD) % EACH == 0 ? NONE : n;
        }

        private static boolean goesOnWith(int at, int code) {
            if (at >= MOST_CODES) {
                return false;
            }
            if (at < HEAD) {
                return at == 0 ? code == 'd' : isDigitBelow(code, at == 1 ? PLACES : LAXITIES);
            }
            switch ((at - HEAD) % EACH) {
                case 0: return code == ';';
                case 1: return code == 'p' || code == 'r' || code == 'k';
                case 4: return isDigitBelow(code, PLACES);
                default: return isDigitBelow(code, SMELLS);
            }
        }

        private static boolean isDigitBelow(int code, int end) {
            return isBelow(code - '0', end);
        }

        /** To be called for what is a TEXT only. */
        static void fill(Moor moor, int[] cells, int i, int n) {
            moor.post = cells[i + 1] - '0';
            moor.lax = cells[i + 2] - '0';
            moor.people = (n - HEAD) / EACH;
            for (int p = 0; p < moor.people; p++) {
                int at = i + HEAD + EACH * p;
                moor.kind[p] = kindOf(cells[at + 1]);
                moor.smell[p] = cells[at + 2] - '0';
                moor.was[p] = cells[at + 3] - '0';
                moor.place[p] = cells[at + 4] - '0';
            }
        }

        private static int kindOf(int letter) {
            if (letter == 'k') {
                return REEKING;
            }
            return letter == 'r' ? RANK : PLAIN;
        }
    }
}
