/** What each promise of ../shared/DOC.md asks for, worked out by hand. */
public final class PromiseTest {
    private static final long LOST = Long.MIN_VALUE;
    private static final int MIN = Integer.MIN_VALUE, MAX = Integer.MAX_VALUE;
    private static final int[] NO_PLACES = {-1, 10, MIN, MAX};

    private static final Checks CHECKS = new Checks();
    private static String part = "";

    public static void main(String[] args) {
        newObject();
        moorTaken();
        moorFromEachCell();
        moorFirstFault();
        moorRefused();
        moorMakesAnew();
        ofPerson();
        goesTo();
        post();
        lax();
        bathe();
        moves();
        send();
        comes();
        round();
        roundRefused();
        strict();
        site();
        order();
        ahead();
        reading();
        back();
        smells();
        pasts();
        kinds();
        odds();
        sheet();
        lose();
        put();
        cell();
        copy();
        tell();
        whistle();
        as();
        trace();
        fault();
        many();
        CHECKS.end("PromiseTest");
    }

    private static void due(String call, long want, long got) {
        CHECKS.due(part + ": " + call, want, got);
    }

    /** 1 */
    private static void newObject() {
        part = "a new object";
        NosePost x = new NosePost();
        for (int what = 0; what < 5; what++) {
            due("many(" + what + ")", 0, x.many(what));
        }
        due("ofPerson(0, 0)", -1, x.ofPerson(0, 0));
        due("fault()", 0, x.fault());
        due("trace()", 0, x.trace());
        for (int k = 0; k < 4; k++) {
            due("lose(" + k + ")", 0, x.lose(k));
        }
        due("post(0)", -3, x.post(0));
        due("post(10): STATE is ahead", -3, x.post(10));
        due("lax(4): STATE is ahead", -3, x.lax(4));
        due("comes(2): STATE is ahead", -3, x.comes(2));
        due("site(2): STATE is ahead", -3, x.site(2));
        due("order(9): STATE is ahead", -3, x.order(9));
        due("bathe(0, 0)", -1, x.bathe(0, 0));
        due("moves(0, 0)", -1, x.moves(0, 0));
        due("send(0)", -1, x.send(0));
        due("strict(0)", -1, x.strict(0));
        due("ahead(0)", -1, x.ahead(0));
        due("reading(0, -9)", -1, x.reading(0, -9));
        due("back(0)", 0, x.back(0));
        due("back(1)", -2, x.back(1));
        due("smells(0)", -1, x.smells(0));
        due("pasts(0)", -1, x.pasts(0));
        due("kinds(0)", -1, x.kinds(0));
        due("odds(0, 0)", LOST, x.odds(0, 0));
        due("tell(0)", -1, x.tell(0));
        due("whistle(0)", -1, x.whistle(0));
        due("as(0, 0)", -1, x.as(0, 0));
        due("UNKNOWN", -1, NosePost.UNKNOWN);
        due("OUTSIDE", -2, NosePost.OUTSIDE);
        due("STATE", -3, NosePost.STATE);
        due("FULL", -4, NosePost.FULL);
        due("NONE", -9, NosePost.NONE);
        due("LOST", LOST, NosePost.LOST);
    }

    /** 2 */
    private static void moorTaken() {
        part = "moor, taken";
        String[] texts = {"d51;p304;r117", "d00;k770;p009;r555", "d93;p000;p000;p000;p000",
            "d51;p304;r117;k438;p566;k777", "d51;p304;r117;k438;p566;k777;r000"};
        for (String text : texts) {
            for (int lane = 0; lane < 3; lane++) {
                NosePost x = new NosePost();
                Checks.write(x, lane, lane, ";;" + text + ";");
                due(text, (text.length() - 3) / 5, x.moor(lane, lane, 2, text.length()));
                due(text + " fault()", 0, x.fault());
                due(text + " POST", text.charAt(1) - '0', x.many(1));
                due(text + " LAX", text.charAt(2) - '0', x.many(2));
                for (int p = 0; 3 + 5 * p < text.length(); p++) {
                    due(text + " kind " + p, "prk".indexOf(text.charAt(4 + 5 * p)), x.ofPerson(p, 0));
                    for (int what = 1; what < 4; what++) {
                        due(text + " " + p + ", " + what, text.charAt(4 + 5 * p + what) - '0',
                                x.ofPerson(p, what));
                    }
                }
            }
        }
    }

    /** 2: the cells ahead of i and behind the text are no matter. */
    private static void moorFromEachCell() {
        part = "moor, from each cell";
        String text = "d51;p304;r117;k438;p566;k777;r025";
        for (int i = 0; i + text.length() <= 60; i++) {
            NosePost x = new NosePost();
            x.sheet(0, 0, 60);
            x.put(0, i - 1, ';');
            x.put(0, i + text.length(), ';');
            for (int c = 0; c < text.length(); c++) {
                x.put(0, i + c, text.charAt(c));
            }
            due("from " + i, 6, x.moor(0, 0, i, text.length()));
            due("from " + i + ", one more", i < 27 ? -133 : -13, x.moor(0, 0, i, text.length() + 1));
            due("from " + i + ", POST", 5, x.many(1));
            due("from " + i + ", LAX", 1, x.many(2));
            for (int p = 0; p < 6; p++) {
                due("from " + i + ", kind of " + p, "prk".indexOf(text.charAt(5 * p + 4)), x.ofPerson(p, 0));
                for (int what = 1; what < 4; what++) {
                    due("from " + i + ", ofPerson(" + p + ", " + what + ")", text.charAt(5 * p + 4 + what) - '0',
                            x.ofPerson(p, what));
                }
            }
        }
    }

    /** 2 */
    private static void moorFirstFault() {
        part = "moor, FIRST FAULT";
        String six = "d51;p304;r117;k438;p566;k777;r000";
        for (int n = 0; n < six.length(); n++) {
            boolean taken = n >= 13 && (n - 3) % 5 == 0;
            due("the first " + n, taken ? (n - 3) / 5 : -100 - n,
                    Checks.told(new NosePost(), six.substring(0, n)));
        }
        due("a seventh", -133, Checks.told(new NosePost(), six + ";p000"));
        due("a seventh's ;", -133, Checks.told(new NosePost(), six + ";"));
        due("more than six", -133, Checks.told(new NosePost(), six + "p"));
        for (int at = 0; at < six.length(); at++) {
            for (int code = -130; code < 300; code++) {
                if (!fits(at, code)) {
                    due("code " + code + " at " + at, -100 - at, withCode(six, at, code));
                } else {
                    due("code " + code + " at " + at, 6, withCode(six, at, code));
                }
            }
            due("code MIN at " + at, -100 - at, withCode(six, at, MIN));
            due("code MAX at " + at, -100 - at, withCode(six, at, MAX));
        }
    }

    private static boolean fits(int at, int code) {
        String fitting = at == 0 ? "d" : at == 1 ? "0123456789" : at == 2 ? "0123"
                : new String[] {";", "prk", "01234567", "01234567", "0123456789"}[(at - 3) % 5];
        return code >= 0 && fitting.indexOf(code) >= 0;
    }

    private static int withCode(String text, int at, int code) {
        NosePost x = new NosePost();
        Checks.write(x, 0, 2, text);
        x.put(0, at, code);
        return x.moor(0, 2, 0, text.length());
    }

    /** 2 */
    private static void moorRefused() {
        part = "moor, refused";
        NosePost x = new NosePost();
        due("sheet -1", -1, x.moor(-1, 3, 0, -1));
        due("sheet 4", -1, x.moor(4, 3, 0, -1));
        due("lane -1", -2, x.moor(0, -1, 0, -1));
        due("lane 3", -2, x.moor(0, 3, 0, -1));
        due("nothing is no CAST", -11, x.moor(0, 2, -1, -1));
        due("fault()", 1, x.fault());
        x.sheet(0, 1, 13);
        due("CAST is ahead of SIZE", -12, x.moor(0, 2, -1, -1));
        due("fault()", 2, x.fault());
        due("SIZE is ahead of INDEX", -14, x.moor(0, 1, -1, -1));
        due("n least", -14, x.moor(0, 1, 0, MIN));
        due("fault()", 4, x.fault());
        due("i below 0", -13, x.moor(0, 1, -1, 0));
        due("i beyond, none taken", -13, x.moor(0, 1, 14, 0));
        due("i at the end, none taken", -100, x.moor(0, 1, 13, 0));
        due("fault() of a FIRST FAULT", 0, x.fault());
        due("i at the end, one taken", -13, x.moor(0, 1, 13, 1));
        due("beyond", -13, x.moor(0, 1, 1, 13));
        due("most", -13, x.moor(0, 1, MAX, MAX));
        due("n most", -13, x.moor(0, 1, 13, MAX));
        due("fault()", 3, x.fault());
        due("refused", -1, x.moor(9, 0, 0, 0));
        due("fault() of a refusal", 0, x.fault());
        due("PEOPLE", 0, x.many(0));
    }

    /** 2 */
    private static void moorMakesAnew() {
        part = "moor, anew";
        NosePost x = Checks.moorOf("d53;k104;r205;p706");
        x.send(0);
        x.send(1);
        x.reading(0, 1);
        x.tell(0);
        int trace = x.trace();
        x.bathe(2, 5);
        due("a text with a fault", -108, Checks.told(x, "d70;p000"));
        due("PEOPLE", 3, x.many(0));
        due("POST", 5, x.many(1));
        due("LAX", 3, x.many(2));
        due("letters", 2, x.many(3));
        due("READINGS", 1, x.many(4));
        due("SMELL", 5, x.ofPerson(2, 1));
        Checks.write(x, 0, 2, 70000);
        due("another text", 2, Checks.told(x, "d70;p123;k321"));
        due("PEOPLE", 2, x.many(0));
        due("POST", 7, x.many(1));
        due("LAX", 0, x.many(2));
        due("letters", 0, x.many(3));
        due("READINGS", 0, x.many(4));
        due("trace()", trace, x.trace());
        due("SHEETS", 70000, x.cell(0, 0, 2));
        due("SMELL", 1, x.ofPerson(0, 1));
        due("WAS", 2, x.ofPerson(0, 2));
        due("PLACE", 3, x.ofPerson(0, 3));
        due("kind", 2, x.ofPerson(1, 0));
        due("a third", -1, x.ofPerson(2, 1));
    }

    /** 3 */
    private static void ofPerson() {
        part = "ofPerson";
        NosePost x = Checks.moorOf("d40;p307;r307;k308;p004;r005;k709");
        int[] scents = {2, 3, 6, 0, 1, 8};
        int[] smelt = {0, 1, 1, 1, 1, 1};
        for (int p = 0; p < 6; p++) {
            due("SCENT of " + p, scents[p], x.ofPerson(p, 4));
            due("SMELT " + p, smelt[p], x.ofPerson(p, 5));
            due("what -1", -2, x.ofPerson(p, -1));
            due("what 7", -2, x.ofPerson(p, 7));
        }
        due("PERSON 6", -1, x.ofPerson(6, 0));
        due("PERSON -1, what 7", -1, x.ofPerson(-1, 7));
        due("PERSON -9", -1, x.ofPerson(-9, 0));
        due("PERSON least", -1, x.ofPerson(MIN, 0));
        due("PERSON most", -1, x.ofPerson(MAX, 0));
        x.post(3);
        due("farther by one", 0, x.ofPerson(1, 5));
        x.post(9);
        due("ahead of the POST, as near", 1, x.ofPerson(0, 5));
        due("ahead of the POST, too far", 0, x.ofPerson(4, 5));
        for (int v = 0; v < 8; v++) {
            x.bathe(0, v);
            x.bathe(1, v);
            x.bathe(2, v);
            int traits = (v & 1) + (v >> 1 & 1) + (v >> 2);
            due("PLAIN of SMELL " + v, traits, x.ofPerson(0, 4));
            due("RANK of SMELL " + v, traits + 1, x.ofPerson(1, 4));
            due("REEKING of SMELL " + v, 2 * traits + 2, x.ofPerson(2, 4));
        }
    }

    /** 3, and the Terms */
    private static void goesTo() {
        part = "GOES";
        goes("fewest traits", "d53;k305;k105", 1, 1);
        goes("fewest traits, though farther", "d53;k305;k109", 1, 1);
        goes("nearest of several", "d53;k107;k206", 1, 1);
        goes("nearest, ahead of the POST", "d53;k207;k104", 1, 1);
        goes("nearest though a later one is at the POST, but unlike", "d53;k107;k305;k406", 2, 2, 2);
        goes("least of as near ones", "d53;k106;k204", 0, 0);
        goes("none within LAX 0", "d50;k105;k205", -9, -9);
        goes("one in just LAX traits", "d51;k305;k105", 1, 1);
        goes("one in more than LAX traits", "d51;k305;k705", -9, -9);
        goes("one in just 2 traits", "d52;k705;k305", 1, 1);
        goes("all three traits", "d53;k705;p009", 0, 0);
        goes("only a SMELT one", "d50;p006;k119", -9, 1);
        goes("each by its own WAS", "d50;k125;k215", 1, 0);
        goes("no SMELL, at the POST", "d50;p005;p119", 0, -9);
    }

    private static void goes(String why, String text, int... to) {
        NosePost x = Checks.moorOf(text);
        for (int p = 0; p < to.length; p++) {
            due(why + ", " + text + ", " + p, to[p], x.ofPerson(p, 6));
        }
    }

    /** 4 */
    private static void post() {
        part = "post";
        NosePost x = Checks.moorOf("d53;k105;k205");
        due("post(0)", 5, x.post(0));
        due("post(9)", 0, x.post(9));
        due("POST", 9, x.many(1));
        for (int v : NO_PLACES) {
            due("post(" + v + ")", -2, x.post(v));
        }
        due("post(9)", 9, x.post(9));
    }

    /** 5 */
    private static void lax() {
        part = "lax";
        NosePost x = Checks.moorOf("d52;k105;k205");
        due("lax(0)", 2, x.lax(0));
        due("to 0", -9, x.ofPerson(0, 6));
        due("lax(3)", 0, x.lax(3));
        due("to 0", 0, x.ofPerson(0, 6));
        for (int v : new int[] {-1, 4, MIN, MAX}) {
            due("lax(" + v + ")", -2, x.lax(v));
        }
        due("LAX", 3, x.many(2));
    }

    /** 6 */
    private static void bathe() {
        part = "bathe";
        NosePost x = Checks.moorOf("d50;p315;k205");
        due("bathe(0, 1)", 3, x.bathe(0, 1));
        due("SMELL", 1, x.ofPerson(0, 1));
        due("WAS", 1, x.ofPerson(0, 2));
        due("SCENT", 1, x.ofPerson(0, 4));
        due("to 0", 0, x.ofPerson(0, 6));
        due("the other's SMELL", 2, x.ofPerson(1, 1));
        for (int v : new int[] {-1, 8, MIN, MAX}) {
            due("bathe(0, " + v + ")", -2, x.bathe(0, v));
        }
        due("bathe(2, 8): UNKNOWN is ahead", -1, x.bathe(2, 8));
        due("bathe(-1, 0)", -1, x.bathe(-1, 0));
        due("bathe(0, 7)", 1, x.bathe(0, 7));
        due("bathe(0, 0)", 7, x.bathe(0, 0));
    }

    /** 7 */
    private static void moves() {
        part = "moves";
        NosePost x = Checks.moorOf("d50;p315;k205");
        due("moves(0, 9)", 5, x.moves(0, 9));
        due("PLACE", 9, x.ofPerson(0, 3));
        due("SMELT", 0, x.ofPerson(0, 5));
        due("moves(0, 0)", 9, x.moves(0, 0));
        for (int v : NO_PLACES) {
            due("moves(0, " + v + ")", -2, x.moves(0, v));
        }
        due("moves(2, 10): UNKNOWN is ahead", -1, x.moves(2, 10));
        due("moves(-1, 0)", -1, x.moves(-1, 0));
        due("the other's PLACE", 5, x.ofPerson(1, 3));
    }

    /** 8 */
    private static void send() {
        part = "send";
        NosePost x = Checks.moorOf("d53;k345;k305;p119");
        due("send(1)", 0, x.send(1));
        due("WAS of whom it went to", 3, x.ofPerson(0, 2));
        due("WAS of whom it was for", 0, x.ofPerson(1, 2));
        due("WAS of another", 1, x.ofPerson(2, 2));
        x.lax(0);
        due("send(1)", -9, x.send(1));
        due("WAS of whom it was for", 0, x.ofPerson(1, 2));
        due("send(0)", 0, x.send(0));
        due("letters, HOME too", 3, x.many(3));
        due("send(3)", -1, x.send(3));
        due("send(-1)", -1, x.send(-1));
        due("send(-9)", -1, x.send(-9));
        due("letters", 3, x.many(3));
    }

    /** 9 */
    private static void comes() {
        part = "comes";
        NosePost x = Checks.moorOf("d50;k125;k215;k335;k445;k705;p009");
        due("comes(0)", 4 + 8, x.comes(0));
        due("comes(1)", 1 + 2 + 4 + 8, x.comes(1));
        due("WAS, each alone", 2, x.ofPerson(0, 2));
        due("letters", 0, x.many(3));
        due("comes(-1)", -2, x.comes(-1));
        due("comes(2)", -2, x.comes(2));
        x.moves(5, 5);
        due("comes(0)", 4 + 8 + 32, x.comes(0));
        due("comes(1)", 1 + 2 + 4 + 8 + 32, x.comes(1));
        x = Checks.moorOf("d50;p006;k215;k335");
        due("not SMELT, HOME, comes", 4, x.comes(0));
        due("not SMELT, HOME, comes", 4, x.comes(1));
        x.bathe(2, 2);
        due("none", 0, x.comes(0));
        due("none", 0, x.comes(1));
    }

    /** 10 */
    private static void round() {
        part = "round";
        told("comes", new int[] {0, 8}, 1, -9, 1, 0, 3, 6, 2);
        told("HOME", new int[] {1, 8}, 0, 0, 0, 1, 3, 6, 2);
        told("to another", new int[] {2, 8}, 0, 0, 1, 0, 3, 6, 2);
        told("none", new int[] {}, 0, -9, 0, 0, 3, 6, 2);
        told("no letter", new int[] {0, 7, 1, 10, 2, 19}, 0, -9, 0, 0, 3, 6, 2);
        told("bathed and moved", new int[] {1, 6, 1, 8, 2, 8, 2, 13, 0, 8}, 2, 2, 3, 0, 3, 6, 2);
        told("WAS goes on", new int[] {0, 0, 0, 8, 2, 8, 1, 8}, 1, 1, 4, 1, 3, 6, 1);
        told("moved far", new int[] {0, 19, 0, 8, 0, 17, 0, 8}, 1, 1, 5, 0, 3, 6, 1);
        int[] most = new int[40];
        for (int k = 0; k < 20; k++) {
            most[2 * k + 1] = 8;
        }
        told("20 pairs", most, 20, -9, 1, 0, 3, 6, 2);
    }

    private static void told(String why, int[] pairs, int... due) {
        for (int lane = 0; lane < 3; lane++) {
            NosePost x = Checks.moorOf("d51;p335;k065;r127");
            int[] row = new int[pairs.length + 3];
            System.arraycopy(pairs, 0, row, 3, pairs.length);
            Checks.write(x, lane, lane, row);
            for (int k = 0; k < due.length; k++) {
                int what = k < 4 ? k : 6 + k;
                due(why + ", what " + what, due[k], x.round(lane, lane, 3, pairs.length / 2, what));
                due(why + ", fault()", 0, x.fault());
            }
            for (int what = 6 + due.length; what < 16; what++) {
                due(why + ", what " + what, -9, x.round(lane, lane, 3, pairs.length / 2, what));
            }
            due("SMELL is as ever", 0, x.ofPerson(1, 1));
            due("WAS is as ever", 2, x.ofPerson(2, 2));
            due("PLACE is as ever", 7, x.ofPerson(2, 3));
            due("letters", 0, x.many(3));
        }
    }

    /** 10 */
    private static void roundRefused() {
        part = "round, refused";
        NosePost x = new NosePost();
        due("SHEET is ahead", -1, x.round(4, 3, 0, 0, 0));
        due("SHEET", -1, x.round(-1, 0, 0, 0, 0));
        due("lane is ahead of STATE", -2, x.round(0, 3, 0, 0, 0));
        due("n is ahead of STATE", -2, x.round(0, 0, 0, 21, 0));
        due("what is ahead of STATE", -2, x.round(0, 0, 0, 0, 4));
        due("STATE is ahead of NULL", -3, x.round(0, 0, -1, 1, 0));
        due("fault()", 0, x.fault());
        Checks.told(x, "d51;p335;k065;r127");
        for (int what : new int[] {-1, 4, 9, 16, -9, MIN, MAX}) {
            due("what " + what, -2, x.round(0, 0, 0, 0, what));
        }
        for (int n : new int[] {-1, 21, MIN, MAX, 1 << 30}) {
            due("n " + n, -2, x.round(0, 0, 0, n, 0));
        }
        due("lane -1", -2, x.round(0, -1, 0, 0, 0));
        due("nothing is no CAST", -11, x.round(0, 0, -1, 1, 0));
        due("fault()", 1, x.fault());
        Checks.write(x, 0, 1, 0, 8, 0, 9, 9, 8);
        due("CAST is ahead of INDEX", -12, x.round(0, 0, -1, 1, 0));
        due("fault()", 2, x.fault());
        due("i below 0", -13, x.round(0, 1, -1, 0, 0));
        due("i beyond, none taken", -13, x.round(0, 1, 7, 0, 0));
        due("i at the end, none taken", 0, x.round(0, 1, 6, 0, 0));
        due("one cell too few", -13, x.round(0, 1, 5, 1, 0));
        due("INDEX is ahead of the pairs", -13, x.round(0, 1, 2, 3, 0));
        due("i most", -13, x.round(0, 1, MAX, 20, 0));
        due("fault()", 3, x.fault());
        due("a second 9", -2, x.round(0, 1, 0, 3, 0));
        due("fault()", 0, x.fault());
        due("a first 9", -1, x.round(0, 1, 4, 1, 0));
        due("both", -2, pair(x, 3, 20));
        due("a first 3", -1, pair(x, 3, 8));
        due("a first -1", -1, pair(x, -1, 8));
        due("a first least", -1, pair(x, MIN, 8));
        for (int second : new int[] {-1, 9, 20, MIN, MAX, MIN + 9}) {
            due("a second " + second, -2, pair(x, 0, second));
        }
        for (int second = 0; second < 20; second++) {
            due("a second " + second, second == 8 ? 1 : second == 9 ? -2 : 0, pair(x, 0, second));
        }
        Checks.write(x, 0, 2, 3, 8, 0, 9);
        due("the first pair is ahead", -1, x.round(0, 2, 0, 2, 0));
    }

    private static int pair(NosePost x, int first, int second) {
        Checks.write(x, 1, 2, first, second);
        return x.round(1, 2, 0, 1, 0);
    }

    /** 11 */
    private static void strict() {
        part = "strict";
        NosePost x = Checks.moorOf("d50;k005;k307;p319;k777");
        due("at once", 0, x.strict(0));
        due("a nearer one by any", -9, x.strict(1));
        due("not SMELT", -9, x.strict(2));
        due("at once", 0, x.strict(3));
        int[] pasts = {0, 1, 3, 7};
        for (int v = 0; v < 4; v++) {
            NosePost y = Checks.moorOf("d50;k0" + pasts[v] + "5;p009");
            due("unlike in " + v, v, y.strict(0));
            due("LAX is as ever", 0, y.many(2));
        }
        due("strict(4)", -1, x.strict(4));
        due("strict(-1)", -1, x.strict(-1));
    }

    /** 12 */
    private static void site() {
        part = "site";
        NosePost x = Checks.moorOf("d00;p004;p338");
        due("site(0)", 4, x.site(0));
        due("site(1)", 1, x.site(1));
        x.moves(1, 6);
        due("site(0)", 4, x.site(0));
        due("site(1)", 2, x.site(1));
        x.moves(0, 7);
        due("site(0), later", 7, x.site(0));
        due("POST is as ever", 0, x.many(1));
        due("site(2)", -2, x.site(2));
        due("site(-1)", -2, x.site(-1));
        x = Checks.moorOf("d50;p014;p015");
        due("by none any comes", 0, x.site(0));
        due("by none any comes", 0, x.site(1));
        x = Checks.moorOf("d00;p009;p119");
        due("the last", 9, x.site(0));
        due("the last", 2, x.site(1));
        x.lax(3);
        due("by LAX as it is", 2, x.site(1));
    }

    /** 13 */
    private static void order() {
        part = "order";
        NosePost x = Checks.moorOf("d50;k145;k215");
        row(x, "who would get another's first", 1, 1, 0);
        x.bathe(1, 4);
        row(x, "each helps the other: the first row", 1, 0, 1);
        x = Checks.moorOf("d50;k125;k245;k415");
        row(x, "a ring", 1, 0, 1, 2);
        x = Checks.moorOf("d50;k165;k215;k425;k745;k555;k374");
        // 2 ahead of 1, 5 ahead of 3: those and 4 get theirs, so 0 and 2 can not.
        row(x, "a chain", 3, 0, 2, 1, 4, 5, 3);
        x = Checks.moorOf("d50;k705;k715;k725");
        row(x, "none", 0, 0, 1, 2);
        due("WAS is as ever", 2, x.ofPerson(2, 2));
        due("letters", 0, x.many(3));
        due("order(-2)", -2, x.order(-2));
        due("order(6)", -2, x.order(6));
        due("order(most)", -2, x.order(MAX));
    }

    private static void row(NosePost x, String why, int come, int... people) {
        due(why + ", how many", come, x.order(-1));
        for (int k = 0; k < 6; k++) {
            due(why + ", order(" + k + ")", k < people.length ? people[k] : -9, x.order(k));
        }
    }

    /** 14 */
    private static void ahead() {
        part = "ahead";
        NosePost x = Checks.moorOf("d50;k145;k215;k335;p006");
        due("one, to another", 1, x.ahead(0));
        due("nobody's goes to it", -9, x.ahead(1));
        due("none", 0, x.ahead(2));
        due("not SMELT", -9, x.ahead(3));
        due("WAS is as ever", 4, x.ofPerson(0, 2));
        due("letters", 0, x.many(3));
        due("ahead(4)", -1, x.ahead(4));
        due("ahead(-1)", -1, x.ahead(-1));
        x.send(1);
        due("none any more", 0, x.ahead(0));
    }

    /** 15 */
    private static void reading() {
        part = "reading";
        NosePost x = Checks.moorOf("d50;k145;k215");
        due("UNKNOWN: p", -1, x.reading(2, 0));
        due("UNKNOWN: p", -1, x.reading(-9, 0));
        due("UNKNOWN: to", -1, x.reading(0, 2));
        due("UNKNOWN: to", -1, x.reading(0, -1));
        due("UNKNOWN: to", -1, x.reading(0, -8));
        for (int k = 0; k < 8; k++) {
            due("reading " + k, k, x.reading(k % 2, k % 3 == 0 ? -9 : k % 2));
            due("READINGS", k + 1, x.many(4));
        }
        due("FULL", -4, x.reading(0, 0));
        due("UNKNOWN is ahead of FULL", -1, x.reading(0, 2));
        due("UNKNOWN is ahead of FULL", -1, x.reading(2, 0));
        due("READINGS", 8, x.many(4));
    }

    /** 16 */
    private static void back() {
        part = "back";
        NosePost x = Checks.moorOf("d50;k145;k215");
        x.reading(0, -9);
        x.reading(0, 0);
        due("both", 0, x.smells(0));
        due("back(0)", 2, x.back(0));
        due("back(3)", -2, x.back(3));
        due("back(-1)", -2, x.back(-1));
        due("back(least)", -2, x.back(MIN));
        due("back(1)", 1, x.back(1));
        due("the first is left", 239, x.smells(0));
        due("back(1)", 0, x.back(1));
        due("none", 255, x.smells(0));
        due("anew", 0, x.reading(0, 0));
        due("anew", 16, x.smells(0));
    }

    /** 17 */
    private static void smells() {
        part = "smells";
        NosePost x = Checks.moorOf("d50;k145;k215");
        due("no READINGS", 255, x.smells(0));
        x.reading(0, -9);
        due("HOME", 239, x.smells(0));
        due("HOME", 239, x.smells(1));
        x.reading(1, 0);
        due("and another's", 2, x.smells(0));
        due("and another's, the least of those alike", 239, x.smells(1));
        due("SMELL is as ever", 1, x.ofPerson(0, 1));
        due("smells(2)", -1, x.smells(2));
        due("smells(-1)", -1, x.smells(-1));
        x = Checks.moorOf("d50;p147;k215");
        x.reading(1, 0);
        due("by no SCENT", 0, x.smells(0));
        x.moves(0, 6);
        due("from how all is when it is asked", 2, x.smells(0));
        x.lax(1);
        due("by a lax dog, of enough SCENT", 2 + 8 + 32, x.smells(0));
    }

    /** 18 */
    private static void pasts() {
        part = "pasts";
        NosePost x = Checks.moorOf("d50;k145;k215");
        due("no READINGS", 255, x.pasts(0));
        x.reading(0, -9);
        due("HOME", 249, x.pasts(0));
        due("of another", 255, x.pasts(1));
        x.reading(1, 0);
        due("another's", 2, x.pasts(1));
        due("HOME", 249, x.pasts(0));
        x.bathe(0, 6);
        due("when it is asked", 64, x.pasts(1));
        due("by none", 0, x.pasts(0));
        due("WAS is as ever", 4, x.ofPerson(0, 2));
        due("pasts(2)", -1, x.pasts(2));
        due("pasts(-1)", -1, x.pasts(-1));
    }

    /** 19 */
    private static void kinds() {
        part = "kinds";
        NosePost x = Checks.moorOf("d50;p147;k215");
        due("no READINGS", 7, x.kinds(0));
        x.reading(1, 0);
        due("of enough SCENT", 6, x.kinds(0));
        due("the other", 0, x.kinds(1));
        x.moves(0, 8);
        due("of enough SCENT", 4, x.kinds(0));
        x.moves(0, 6);
        due("of enough SCENT", 7, x.kinds(0));
        due("kind is as ever", 0, x.ofPerson(0, 0));
        x.reading(1, -9);
        due("by none", 0, x.kinds(0));
        due("kinds(2)", -1, x.kinds(2));
        due("kinds(-1)", -1, x.kinds(-1));
    }

    /** 20 */
    private static void odds() {
        part = "odds";
        NosePost x = Checks.moorOf("d50;k145;k215");
        share(x, 0, 1, 8);
        x.lax(1);
        share(x, 0, 1, 2);
        x.lax(3);
        share(x, 0, 7, 8);
        share(x, 1, 0, 1);
        due("SMELL is as ever", 1, x.ofPerson(0, 1));
        x = Checks.moorOf("d53;k005;p009");
        share(x, 0, 1, 1);
        share(x, 1, 0, 1);
        x = Checks.moorOf("d50;k145;k215");
        due("which 2", LOST, x.odds(0, 2));
        due("which -1", LOST, x.odds(0, -1));
        due("PERSON 2", LOST, x.odds(2, 0));
        due("PERSON -1", LOST, x.odds(-1, 1));
        // By LAX 2 the near one gets it unless it is of SMELL 7, all alike to WAS 0.
        x = Checks.moorOf("d52;k005;p009");
        share(x, 0, 7, 8);
        x = Checks.moorOf("d51;p005;p009");
        share(x, 0, 1, 2);
        x.moves(0, 6);
        share(x, 0, 3, 8);
        x.lax(3);
        x.moves(0, 7);
        share(x, 0, 1, 2);
        x.moves(0, 8);
        share(x, 0, 1, 8);
    }

    private static void share(NosePost x, int p, int upper, int lower) {
        due("upper of " + p, upper, x.odds(p, 0));
        due("lower of " + p, lower, x.odds(p, 1));
    }

    /** 21 */
    private static void sheet() {
        part = "sheet";
        NosePost x = new NosePost();
        due("sheet(4, 3, 61)", -1, x.sheet(4, 3, 61));
        due("sheet(-1, 0, 0)", -1, x.sheet(-1, 0, 0));
        due("sheet(0, 3, -1)", -2, x.sheet(0, 3, -1));
        due("sheet(0, -1, 0)", -2, x.sheet(0, -1, 0));
        due("sheet(0, 0, 61)", -2, x.sheet(0, 0, 61));
        due("sheet(0, 0, most)", -2, x.sheet(0, 0, MAX));
        due("fault()", 0, x.fault());
        due("sheet(0, 0, -1)", -14, x.sheet(0, 0, -1));
        due("sheet(0, 0, least)", -14, x.sheet(0, 0, MIN));
        due("fault()", 4, x.fault());
        due("nothing", 0, x.lose(0));
        due("sheet(0, 0, 60)", 1, x.sheet(0, 0, 60));
        due("fault()", 0, x.fault());
        due("put(0, 59, 1)", 1, x.put(0, 59, 1));
        due("put(0, 60, 1)", -13, x.put(0, 60, 1));
        due("as a refusal leaves it", -14, x.sheet(0, 1, -1));
        due("as a refusal leaves it", 1, x.cell(0, 59, 0));
        due("a row of no cells", 1, x.sheet(0, 1, 0));
        due("put(0, 0, 1)", -13, x.put(0, 0, 1));
        due("a row that is there", 1, x.lose(0));
        x.sheet(0, 0, 60);
        for (int i = 0; i < 60; i++) {
            x.put(0, i, 7);
        }
        due("a new row", 1, x.sheet(0, 2, 60));
        for (int i = 0; i < 60; i++) {
            due("0 at first", 0, x.cell(0, i, 2));
        }
    }

    /** 22 */
    private static void lose() {
        part = "lose";
        NosePost x = new NosePost();
        for (int k = 0; k < 4; k++) {
            due("lose(" + k + ")", 0, x.lose(k));
            x.sheet(k, 0, 1);
            x.put(k, 0, 5);
        }
        due("lose(3)", 1, x.lose(3));
        due("lose(3)", 0, x.lose(3));
        due("put(3, 0, 1)", -11, x.put(3, 0, 1));
        due("another", 5, x.cell(2, 0, 0));
        due("lose(4)", -1, x.lose(4));
        due("lose(-1)", -1, x.lose(-1));
    }

    /** 23 */
    private static void put() {
        part = "put";
        NosePost x = new NosePost();
        due("nothing", -11, x.put(0, -1, 0));
        due("fault()", 1, x.fault());
        for (int lane = 0; lane < 3; lane++) {
            x.sheet(lane, lane, 3);
        }
        int[][] cut = {{200, -56, 200, 200}, {-129, 127, -129, -129}, {40000, 64, -25536, 40000},
            {-32769, -1, 32767, -32769}, {70001, 113, 4465, 70001}, {MAX, -1, -1, MAX}, {MIN, 0, 0, MIN}};
        for (int[] row : cut) {
            for (int lane = 0; lane < 3; lane++) {
                due("put " + row[0], 1, x.put(lane, 1, row[0]));
                due("cut to lane " + lane, row[1 + lane], x.cell(lane, 1, lane));
            }
        }
        due("the cell ahead", 0, x.cell(2, 0, 2));
        due("the cell behind", 0, x.cell(2, 2, 2));
        for (int i : new int[] {-1, 3, MIN, MAX}) {
            due("put(0, " + i + ", 0)", -13, x.put(0, i, 0));
        }
        due("fault()", 3, x.fault());
        due("put(4, 0, 0)", -1, x.put(4, 0, 0));
        due("fault()", 0, x.fault());
        due("put(-1, 0, 0)", -1, x.put(-1, 0, 0));
    }

    /** 24 */
    private static void cell() {
        part = "cell";
        NosePost x = new NosePost();
        lost(x, 4, 0, 3, 0);
        lost(x, -1, 0, 0, 0);
        lost(x, 0, -1, 3, 0);
        lost(x, 0, -1, -1, 0);
        lost(x, 0, -1, 1, 1);
        x.sheet(0, 1, 2);
        x.put(0, 1, -7);
        lost(x, 0, -1, 2, 2);
        lost(x, 0, -1, 0, 2);
        lost(x, 0, -1, 1, 3);
        lost(x, 0, 2, 1, 3);
        lost(x, 4, 0, 1, 0);
        lost(x, 0, MAX, 1, 3);
        lost(x, 0, 0, 3, 0);
        lost(x, 0, MIN, 1, 3);
        due("cell(0, 1, 1)", -7, x.cell(0, 1, 1));
        due("fault()", 0, x.fault());
    }

    private static void lost(NosePost x, int k, int i, int lane, int fault) {
        String call = "cell(" + k + ", " + i + ", " + lane + ")";
        due(call, LOST, x.cell(k, i, lane));
        due(call + " fault()", fault, x.fault());
    }

    /** 25 */
    private static void copy() {
        part = "copy";
        NosePost x = new NosePost();
        due("UNKNOWN: k", -1, x.copy(4, 0, 0, 0, -1));
        due("UNKNOWN: other", -1, x.copy(0, 0, 4, 0, -1));
        due("UNKNOWN: other", -1, x.copy(0, 0, -1, 0, -1));
        due("UNKNOWN: k", -1, x.copy(-1, 0, 0, 0, 0));
        due("fault()", 0, x.fault());
        Checks.write(x, 0, 0, 1, 2, 3, 4, 5);
        due("NULL: the other", -11, x.copy(0, 0, 1, 0, -1));
        due("NULL: the first", -11, x.copy(1, 0, 0, 0, -1));
        due("fault()", 1, x.fault());
        x.sheet(1, 1, 9);
        due("CAST is ahead of INDEX", -12, x.copy(0, -1, 1, 0, 1));
        due("fault()", 2, x.fault());
        x.sheet(2, 0, 3);
        int[][] beyond = {{-1, 0, 0}, {0, -1, 0}, {0, 0, -1}, {6, 0, 0}, {0, 4, 0}, {3, 0, 3}, {0, 1, 3},
            {0, 0, 4}, {0, 0, MAX}, {5, 3, 1}, {MAX, 0, 1}, {0, MAX, MAX}, {1, 1, MIN}};
        for (int[] way : beyond) {
            due("copy " + way[0] + ", " + way[1] + ", " + way[2], -13, x.copy(0, way[0], 2, way[1], way[2]));
            due("fault()", 3, x.fault());
        }
        due("none, at both ends", 0, x.copy(0, 5, 2, 3, 0));
        due("two", 2, x.copy(0, 3, 2, 1, 2));
        due("fault()", 0, x.fault());
        numbers(x, 2, 0, 4, 5);
        due("as they were, on", 4, x.copy(0, 0, 0, 1, 4));
        numbers(x, 0, 1, 1, 2, 3, 4);
        due("as they were, back", 4, x.copy(0, 1, 0, 0, 4));
        numbers(x, 0, 1, 2, 3, 4, 4);
        due("all", 3, x.copy(2, 0, 0, 2, 3));
        numbers(x, 0, 1, 2, 0, 4, 5);
    }

    private static void numbers(NosePost x, int k, int... due) {
        for (int i = 0; i < due.length; i++) {
            due("cell " + i + " of " + k, due[i], x.cell(k, i, 0));
        }
    }

    /** 26 */
    private static void tell() {
        part = "tell";
        for (int v = 0; v < 8; v++) {
            NosePost x = Checks.moorOf("d50;p" + v + "45;r" + v + "15;k" + v + "25");
            due("PLAIN", v, x.tell(0));
            due("PLAIN's body", 1, x.trace());
            due("RANK", v + 100, x.tell(1));
            due("RANK's bodies", (1 * 31 + 2) * 31 + 1, x.trace());
            due("REEKING", 2 * v + 100, x.tell(2));
            due("REEKING's bodies", ((((1024 * 31) + 3) * 31 + 2) * 31 + 1) * 31 + 1, x.trace());
            due("tell(3)", -1, x.tell(3));
            due("tell(-1)", -1, x.tell(-1));
            due("as ever", ((((1024 * 31) + 3) * 31 + 2) * 31 + 1) * 31 + 1, x.trace());
        }
    }

    /** 27 */
    private static void whistle() {
        part = "whistle";
        NosePost x = Checks.moorOf("d50;p045;k115;r125");
        due("PLAIN", 0, x.whistle(0));
        due("lent", 4, x.trace());
        due("RANK", 2, x.whistle(2));
        due("lent", 4 * 31 + 4, x.trace());
        due("REEKING", 70, x.whistle(1));
        due("its own", 128 * 31 + 5, x.trace());
        due("whistle(3)", -1, x.whistle(3));
        due("whistle(-1)", -1, x.whistle(-1));
        due("as ever", 128 * 31 + 5, x.trace());
    }

    /** 28 */
    private static void as() {
        part = "as";
        NosePost x = Checks.moorOf("d50;p045;r115;k125");
        for (int p = 0; p < 3; p++) {
            for (int kind = 0; kind < 3; kind++) {
                due("as(" + p + ", " + kind + ")", kind <= p ? 1 : -12, x.as(p, kind));
                due("fault()", kind <= p ? 0 : 2, x.fault());
            }
            x.as(0, 2);
            due("kind 3", -2, x.as(p, 3));
            due("fault()", 0, x.fault());
            due("kind -1", -2, x.as(p, -1));
        }
        x.as(0, 2);
        due("as(3, 3)", -1, x.as(3, 3));
        due("fault()", 0, x.fault());
        due("as(-1, 0)", -1, x.as(-1, 0));
    }

    /** 29 */
    private static void trace() {
        part = "trace";
        NosePost x = Checks.moorOf("d50;p045;k115");
        int want = 0;
        for (int k = 0; k < 40; k++) {
            x.whistle(k % 2);
            want = 31 * want + 4 + k % 2;
            due("it wraps", want, x.trace());
        }
        due("asked again", want, x.trace());
    }

    /** 30 */
    private static void fault() {
        part = "fault";
        NosePost x = Checks.moorOf("d50;p045;k115");
        x.put(0, 0, 0);
        x.send(0);
        x.bathe(9, 9);
        x.post(99);
        x.lose(0);
        x.lose(9);
        x.tell(0);
        x.tell(9);
        x.whistle(0);
        x.reading(9, 9);
        x.order(-1);
        x.odds(9, 9);
        x.many(9);
        due("calls that name none", 1, x.fault());
        x.fault();
        due("asked again", 1, x.fault());
        x.as(0, 0);
        due("one that comes to none", 0, x.fault());
    }

    /** 31 */
    private static void many() {
        part = "many";
        NosePost x = Checks.moorOf("d72;p045;k115;r227;k337");
        x.send(0);
        x.reading(1, 1);
        x.reading(1, -9);
        x.send(2);
        x.send(3);
        int[] due = {4, 7, 2, 3, 2};
        for (int what = 0; what < due.length; what++) {
            due("many(" + what + ")", due[what], x.many(what));
        }
        due("many(5)", -2, x.many(5));
        due("many(-1)", -2, x.many(-1));
    }
}
