/** Long runs of calls of many kinds, answered by the program and by Oracle alike. */
public final class OracleTest {
    // No object is asked beyond its 512th call: what it answers then is free.
    private static final int RUNS = 700, CALLS = 512, LONGEST_STEP = 64;
    private static final int[] WILD = {Integer.MIN_VALUE, Integer.MAX_VALUE, -1, -9, 60, 61, 1 << 30, -100, 1000};

    private final Checks checks;
    private final NosePost x = new NosePost();
    private final Oracle o = new Oracle();
    private final StringBuilder run = new StringBuilder();
    private long seed;
    private int called;

    private OracleTest(Checks checks, int number) {
        this.checks = checks;
        seed = number * 0x9E3779B97F4A7C15L + 1;
    }

    public static void main(String[] args) {
        Checks checks = new Checks();
        for (int number = 0; number < RUNS && !checks.anyWrong(); number++) {
            OracleTest one = new OracleTest(checks, number);
            while (one.called <= CALLS - LONGEST_STEP && !checks.anyWrong()) {
                one.step();
            }
            if (checks.anyWrong()) {
                System.out.println("run " + number + ":" + one.run);
            }
        }
        checks.end("OracleTest");
    }

    private int below(int end) {
        seed = seed * 6364136223846793005L + 1442695040888963407L;
        return (int) ((seed >>> 33) % end);
    }

    /** A number of least .. most, or one that is just outside or far away, now and then. */
    private int about(int least, int most) {
        int draw = below(60);
        if (draw == 0) {
            return WILD[below(WILD.length)];
        }
        if (draw == 1) {
            return below(2) == 0 ? least - 1 : most + 1;
        }
        return least + below(most - least + 1);
    }

    private int person() {
        return about(0, Math.max(0, o.many(0) - 1));
    }

    private int lane(int k) {
        return below(12) == 0 ? about(0, 2) : k % 3;
    }

    private void is(String call, long want, long got) {
        called++;
        run.append(' ').append(call).append('=').append(got);
        checks.due(call, want, got);
    }

    private void step() {
        if (o.many(0) == 0 && below(3) != 0 || below(60) == 0) {
            told();
            return;
        }
        switch (below(5)) {
            case 0: acts(); break;
            case 1: asksOfAll(); break;
            case 2: asksOfOne(); break;
            case 3: readings(); break;
            default: sheets(); break;
        }
        if (below(4) == 0) {
            is("fault()", o.fault(), x.fault());
        }
    }

    private void told() {
        int k = below(4);
        int from = below(3);
        StringBuilder text = new StringBuilder("...".substring(0, from));
        text.append('d').append(below(10)).append(below(4));
        int people = about(2, 6);
        for (int p = 0; p < Math.min(people, 7); p++) {
            text.append(';').append("prkk".charAt(below(4))).append(below(8)).append(below(8));
            text.append(Math.min(9, Math.max(0, text.charAt(from + 1) - '0' + below(7) - 3)));
        }
        if (below(6) == 0) {
            text.setCharAt(below(text.length()), "d;prk0123456789x".charAt(below(16)));
        }
        int n = text.length() - from;
        String row = text.append("..").toString();
        put(k, row);
        int taken = below(12) == 0 ? about(0, n) : n;
        int lane = lane(k);
        int i = below(40) == 0 ? about(0, 60) : from;
        is("moor(" + k + "," + lane + "," + i + "," + taken + ")", o.moor(k, lane, i, taken), x.moor(k, lane, i, taken));
        for (int what = 0; what < 5; what++) {
            is("many(" + what + ")", o.many(what), x.many(what));
        }
        for (int p = 0; p < o.many(0); p++) {
            int what = below(7);
            is("ofPerson(" + p + "," + what + ")", o.ofPerson(p, what), x.ofPerson(p, what));
        }
    }

    private void put(int k, String row) {
        is("sheet(" + k + "," + k % 3 + "," + row.length() + ")", o.sheet(k, k % 3, row.length()),
                x.sheet(k, k % 3, row.length()));
        for (int c = 0; c < row.length(); c++) {
            int v = row.charAt(c);
            is("put(" + k + "," + c + "," + v + ")", o.put(k, c, v), x.put(k, c, v));
        }
    }

    private void acts() {
        int p = person();
        switch (below(6)) {
            case 0: {
                int v = about(0, 9);
                is("post(" + v + ")", o.post(v), x.post(v));
                break;
            }
            case 1: {
                int v = about(0, 3);
                is("lax(" + v + ")", o.lax(v), x.lax(v));
                break;
            }
            case 2: {
                int v = about(0, 7);
                is("bathe(" + p + "," + v + ")", o.bathe(p, v), x.bathe(p, v));
                break;
            }
            case 3: {
                int v = about(0, 9);
                is("moves(" + p + "," + v + ")", o.moves(p, v), x.moves(p, v));
                break;
            }
            case 4: is("send(" + p + ")", o.send(p), x.send(p)); break;
            default: {
                int what = about(0, 6);
                is("ofPerson(" + p + "," + what + ")", o.ofPerson(p, what), x.ofPerson(p, what));
                break;
            }
        }
    }

    private void asksOfAll() {
        switch (below(4)) {
            case 0: {
                int what = about(0, 1);
                is("comes(" + what + ")", o.comes(what), x.comes(what));
                break;
            }
            case 1: {
                int what = about(0, 1);
                is("site(" + what + ")", o.site(what), x.site(what));
                break;
            }
            case 2: {
                if (below(6) == 0) {
                    int k = about(-1, 5);
                    is("order(" + k + ")", o.order(k), x.order(k));
                }
                break;
            }
            default: {
                int what = about(0, 4);
                is("many(" + what + ")", o.many(what), x.many(what));
                break;
            }
        }
    }

    private void asksOfOne() {
        int p = person();
        switch (below(6)) {
            case 0: is("strict(" + p + ")", o.strict(p), x.strict(p)); break;
            case 1: is("ahead(" + p + ")", o.ahead(p), x.ahead(p)); break;
            case 2: {
                int which = about(0, 1);
                is("odds(" + p + "," + which + ")", o.odds(p, which), x.odds(p, which));
                break;
            }
            case 3: is("tell(" + p + ")", o.tell(p), x.tell(p)); break;
            case 4: {
                is("whistle(" + p + ")", o.whistle(p), x.whistle(p));
                is("trace()", o.trace(), x.trace());
                break;
            }
            default: {
                int kind = about(0, 2);
                is("as(" + p + "," + kind + ")", o.as(p, kind), x.as(p, kind));
                break;
            }
        }
    }

    private void readings() {
        int p = person();
        switch (below(6)) {
            case 0: {
                int to = below(3) == 0 ? -9 : below(2) == 0 ? p : person();
                is("reading(" + p + "," + to + ")", o.reading(p, to), x.reading(p, to));
                break;
            }
            case 1: {
                // What is so by now, that sets be not empty for good.
                int to = o.ofPerson(p, 6);
                is("reading(" + p + "," + to + ")", o.reading(p, to), x.reading(p, to));
                break;
            }
            case 2: {
                int k = about(0, o.many(4));
                is("back(" + k + ")", o.back(k), x.back(k));
                break;
            }
            case 3: is("smells(" + p + ")", o.smells(p), x.smells(p)); break;
            case 4: is("pasts(" + p + ")", o.pasts(p), x.pasts(p)); break;
            default: is("kinds(" + p + ")", o.kinds(p), x.kinds(p)); break;
        }
    }

    private void sheets() {
        int k = about(0, 3);
        switch (below(7)) {
            case 0: {
                int lane = lane(k);
                int n = about(0, 60);
                is("sheet(" + k + "," + lane + "," + n + ")", o.sheet(k, lane, n), x.sheet(k, lane, n));
                break;
            }
            case 1: {
                if (below(4) == 0) {
                    is("lose(" + k + ")", o.lose(k), x.lose(k));
                }
                break;
            }
            case 2: {
                int i = about(0, 59);
                int v = below(4) == 0 ? below(200000) - 100000 : about(-128, 255);
                is("put(" + k + "," + i + "," + v + ")", o.put(k, i, v), x.put(k, i, v));
                break;
            }
            case 3: case 4: copies(k); break;
            case 5: rounds(below(4)); break;
            default: {
                int i = about(0, 59);
                int lane = lane(k);
                is("cell(" + k + "," + i + "," + lane + ")", o.cell(k, i, lane), x.cell(k, i, lane));
                break;
            }
        }
    }

    private void copies(int k) {
        int other = below(2) == 0 ? k : about(0, 3);
        int i = about(0, 20);
        int j = about(0, 20);
        int n = about(0, 10);
        String call = "copy(" + k + "," + i + "," + other + "," + j + "," + n + ")";
        is(call, o.copy(k, i, other, j, n), x.copy(k, i, other, j, n));
        for (int c = 0; c < 3; c++) {
            int at = j + below(10);
            is("cell(" + other + "," + at + "," + other % 3 + ")", o.cell(other, at, other % 3),
                    x.cell(other, at, other % 3));
        }
    }

    private void rounds(int k) {
        int pairs = below(9);
        StringBuilder row = new StringBuilder();
        for (int c = 0; c < pairs; c++) {
            int p = person();
            int act = below(2) == 0 ? 8 : below(30) == 0 ? about(0, 19) : (below(19) + 10) % 20;
            row.append((char) Math.max(0, Math.min(p, 100)));
            row.append((char) (act == 9 && below(4) != 0 ? 8 : Math.max(0, Math.min(act, 100))));
        }
        put(k, row.toString());
        for (int c = 0; c < 4; c++) {
            int what = below(2) == 0 ? about(0, 3) : about(10, 15);
            int lane = lane(k);
            int i = below(20) == 0 ? about(0, 6) : 0;
            int n = below(6) == 0 ? about(0, 20) : pairs;
            String call = "round(" + k + "," + lane + "," + i + "," + n + "," + what + ")";
            is(call, o.round(k, lane, i, n, what), x.round(k, lane, i, n, what));
        }
    }
}
