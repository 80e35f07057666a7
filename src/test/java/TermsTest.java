/** The sentences of the document's Terms, each at its edges, worked out from its words. */
public final class TermsTest {
    private static final long LOST = Long.MIN_VALUE;
    private static final int MIN = Integer.MIN_VALUE, MAX = Integer.MAX_VALUE;
    private static final int NONE = -9;
    /** How many bits each of 0 .. 7 has. */
    private static final int[] BITS = {0, 1, 1, 2, 1, 2, 2, 3};

    private static final Checks CHECKS = new Checks();
    private static String sentence = "";

    public static void main(String[] args) {
        texts();
        cutTexts();
        smelt();
        unlikeTraits();
        whoseItIs();
        sent();
        roundsOfAll();
        roundsOneBehindAnother();
        firstWrong();
        cutRounds();
        strict();
        site();
        order();
        ahead();
        readings();
        readingsWhenAsked();
        kinds();
        odds();
        lanes();
        telling();
        asAllIsNow();
        CHECKS.end("TermsTest");
    }

    private static void due(String call, long want, long got) {
        CHECKS.due(sentence + ": " + call, want, got);
    }

    private static NosePost moorOf(String text) {
        return Checks.moorOf(text);
    }

    private static int told(String text) {
        return Checks.told(new NosePost(), text);
    }

    private static void texts() {
        sentence = "a TEXT: d, a digit 0 .. 9, a digit 0 .. 3, then 2 to 6 PEOPLE";
        String two = "d00;p000;p000";
        String six = two + ";r779;k009;r770;k777";
        due("the least", 2, told(two));
        due("the most", 6, told("d93" + six.substring(3)));
        due("nothing", -100, told(""));
        due("no PERSON", -103, told("d00"));
        due("one PERSON", -108, told("d00;p000"));
        due("a half one", -106, told("d00;p0"));
        due("a third one's ;", -114, told(two + ";"));
        due("a seventh's ;", -133, told(six + ";"));
        due("a seventh one", -133, told(six + ";p000"));
        due("LAX 4", -102, told("d04;p000;p000"));
        due("POST :", -101, told("d:0;p000;p000"));
        due("POST /", -101, told("d/0;p000;p000"));
        due("SMELL 8", -105, told("d00;p800;p000"));
        due("WAS 8", -106, told("d00;p080;p000"));
        due("PLACE :", -107, told("d00;p00:;p000"));
        due("a letter D", -100, told("D00;p000;p000"));
        due("a letter P", -104, told("d00;P000;p000"));
        due("a letter q", -109, told("d00;p000;q000"));
        due("the first of two", -102, told("d09;q000;p000"));
        due("a fault ahead of the end", -107, told("d00;p00x"));
        due("a fault ahead of the seventh", -132, told(six.substring(0, 32) + "x;p000"));
        // From 0 on is from the text's first code on.
        NosePost x = new NosePost();
        Checks.write(x, 0, 0, "dd00;p000;p00x");
        due("from the second cell on", -112, x.moor(0, 0, 1, 13));
        due("from the third cell on", -100, x.moor(0, 0, 2, 12));
        due("without its last code", -112, x.moor(0, 0, 1, 12));
    }

    /** What is read is what the cell was cut to. */
    private static void cutTexts() {
        sentence = "what comes to a cell of it is cut to its LANE";
        String text = "d12;k304;r115";
        int[] more = {256, 65536};
        for (int lane = 0; lane < 3; lane++) {
            for (int m : more) {
                NosePost x = new NosePost();
                Checks.write(x, 0, lane, text);
                for (int i = 0; i < text.length(); i++) {
                    x.put(0, i, text.charAt(i) + m);
                }
                boolean cut = lane == 0 || lane == 1 && m == 65536;
                due("a text of codes and " + m + ", LANE " + lane, cut ? 2 : -100, x.moor(0, lane, 0, text.length()));
                due("POST", cut ? 1 : 0, x.many(1));
            }
        }
    }

    private static void smelt() {
        sentence = "SMELT is one whose PLACE is no farther from the POST than its SCENT";
        String[] kinds = {"p", "r", "k"};
        for (int v = 0; v < 8; v++) {
            int[] scents = {BITS[v], BITS[v] + 1, 2 * (BITS[v] + 1)};
            for (int kind = 0; kind < 3; kind++) {
                NosePost x = moorOf("d00;p000;" + kinds[kind] + v + "00");
                due("SCENT", scents[kind], x.ofPerson(1, 4));
                for (int post = 0; post < 10; post++) {
                    x.post(post);
                    for (int place = 0; place < 10; place++) {
                        x.moves(1, place);
                        int far = post < place ? place - post : post - place;
                        due("SCENT " + scents[kind] + ", as far as " + far, far <= scents[kind] ? 1 : 0, x.ofPerson(1, 5));
                    }
                }
            }
        }
    }

    private static void unlikeTraits() {
        sentence = "unlike in no more than LAX traits";
        for (int was = 0; was < 8; was++) {
            // The first one is too far to be SMELT.
            NosePost x = moorOf("d00;p0" + was + "9;k000");
            for (int smell = 0; smell < 8; smell++) {
                x.bathe(1, smell);
                for (int lax = 0; lax < 4; lax++) {
                    x.lax(lax);
                    due("WAS " + was + ", SMELL " + smell + ", LAX " + lax,
                            BITS[was ^ smell] <= lax ? 1 : NONE, x.ofPerson(0, 6));
                }
            }
        }
    }

    private static void whoseItIs() {
        sentence = "GOES to the one for whom these are the fewest; the nearest to the POST; the least; HOME";
        goes("fewest is ahead of nearest", "d53;p019;k305;k118", 2);
        goes("fewest is ahead of least", "d53;p019;k305;k115", 2);
        goes("nearest is ahead of least", "d53;p019;k117;k116", 2);
        goes("nearest to the POST, not to whom it is for", "d00;p019;k114;k113", 2);
        goes("nearest on this side", "d50;p019;k117;k114", 2);
        goes("nearest on that side", "d50;p019;k113;k116", 2);
        goes("as near on both sides: the least", "d50;p019;k117;k113", 1);
        goes("as near on both sides: the least", "d50;p019;k113;k117", 1);
        goes("as near in unlike traits", "d51;p019;k035;k335;k535", 1);
        goes("at the POST, but one trait more", "d52;p019;k705;k508;k602", 2);
        goes("SCENT is no more than to be SMELT", "d50;p019;k116;r115", 2);
        goes("nobody is SMELT", "d03;p019;p129;r115", NONE);
        goes("nobody is alike", "d50;k015;k325;k765", NONE);
        goes("another one, though it is SMELT too", "d50;k215;k135", 1);
        goes("itself", "d50;k115;k115", 0);
        goes("itself, as near as a later one", "d50;k117;k113", 0);
        NosePost x = moorOf("d50;k115;k115;k225");
        due("the least gets what is for one alike", 0, x.ofPerson(1, 6));
        x = moorOf("d50;k125;k245");
        due("to 1 alone", 2, x.comes(1));
        due("0's HOME, 1's to 0", 1, moorOf("d50;k145;k215").comes(1));
        due("all HOME", 0, moorOf("d50;k145;k245").comes(1));
        sentence = "It COMES, if it GOES to whom it is for";
        x = moorOf("d50;k115;k115;k225");
        due("not for the second of two alike", 1 + 4, x.comes(0));
        due("not to the second of two alike", 1 + 4, x.comes(1));
        due("by no LAX", NONE, x.strict(1));
    }

    private static void goes(String why, String text, int to) {
        NosePost x = moorOf(text);
        due(why + ", " + text, to, x.ofPerson(0, 6));
        due(why + ", " + text + ", comes(0)", to == 0 ? 1 : 0, x.comes(0) & 1);
        due(why + ", " + text + ", SENT", to, x.send(0));
    }

    private static void sent() {
        sentence = "A letter is SENT: if it GOES to somebody, WAS of that one becomes its SMELL";
        NosePost x = moorOf("d50;k145;k215;k765");
        due("HOME", NONE, x.send(0));
        pasts(x, 4, 1, 6);
        due("to another", 0, x.send(1));
        pasts(x, 1, 1, 6);
        due("again", 0, x.send(1));
        pasts(x, 1, 1, 6);
        due("to itself now", 0, x.send(0));
        pasts(x, 1, 1, 6);
        x.bathe(1, 1);
        x.moves(0, 6);
        due("to itself, the nearer one", 1, x.send(1));
        pasts(x, 1, 1, 6);
        due("to the nearer one", 1, x.send(0));
        x.lax(1);
        due("to itself, unlike in one trait", 2, x.send(2));
        pasts(x, 1, 1, 7);
        due("all that were SENT", 7, x.many(3));
        due("SMELL is as ever", 1, x.ofPerson(0, 1));
        due("SMELL is as ever", 7, x.ofPerson(2, 1));
    }

    private static void pasts(NosePost x, int... due) {
        for (int p = 0; p < due.length; p++) {
            due("WAS of " + p, due[p], x.ofPerson(p, 2));
        }
    }

    private static int round(NosePost x, int what, int... pairs) {
        Checks.write(x, 0, 1, pairs);
        return x.round(0, 1, 0, pairs.length / 2, what);
    }

    private static void roundsOfAll() {
        sentence = "0 .. 7: its SMELL becomes that; and 10 .. 19: its PLACE becomes 10 less";
        for (int v = 0; v < 8; v++) {
            for (int was = 0; was < 8; was++) {
                NosePost x = moorOf("d50;k005;k0" + was + "5");
                x.moves(0, 9);
                x.bathe(0, was ^ 1);
                // Of 0's SMELL unlike 1's WAS in one trait at least, and farther.
                due("SMELL " + v + ", WAS " + was, v == was ? 1 : 0, round(x, 0, 1, v, 1, 8));
                due("nothing is changed", 0, x.ofPerson(1, 1));
            }
        }
        for (int post = 0; post < 10; post++) {
            NosePost x = moorOf("d" + post + "0;p000;p115");
            for (int act = 10; act < 20; act++) {
                due("POST " + post + ", " + act, act - 10 == post ? 1 : 0, round(x, 0, 0, act, 0, 8));
                due("nothing is changed", 0, x.ofPerson(0, 3));
            }
        }
    }

    private static void roundsOneBehindAnother() {
        sentence = "A ROUND: a row of pairs, one behind another, from how all is now";
        NosePost x = moorOf("d50;k145;k215");
        due("a letter, then another SMELL", 0, round(x, 0, 0, 8, 0, 4));
        due("another SMELL, then a letter", 1, round(x, 0, 0, 4, 0, 8));
        due("WAS becomes SMELL as it is then", 1, round(x, 10, 0, 7, 0, 1, 1, 8, 0, 7));
        due("one brings it to its next", 1, round(x, 0, 1, 8, 0, 8));
        due("who gets one", 1, round(x, 2, 1, 8, 0, 8));
        due("who gets one, both", 3, round(x, 2, 1, 8, 1, 1, 0, 19, 1, 8));
        due("who gets one, none: no round knows of another", 0, round(x, 2, 0, 8));
        due("HOME", 2, round(x, 3, 0, 8, 1, 8, 0, 0, 0, 8));
        due("WAS of one that gets none", 1, round(x, 11, 1, 8, 0, 8));
        due("not anything is changed", 4, x.ofPerson(0, 2));
        due("not anything is SENT", 0, x.many(3));
        due("again, as ever", 1, round(x, 0, 1, 8, 0, 8));
        x.send(1);
        due("from how all is now", 2, round(x, 0, 0, 8, 0, 8, 1, 8));
    }

    /** "the first letter that does not COME": to another one, or HOME; pairs are counted, not letters. */
    private static void firstWrong() {
        sentence = "FIRST WRONG: the first letter that does not COME";
        NosePost x = moorOf("d50;k145;k215;k335");
        due("none told", NONE, round(x, 1));
        due("no letter", NONE, round(x, 1, 0, 7, 1, 0));
        due("all come", NONE, round(x, 1, 2, 8, 2, 8));
        due("HOME, at first", 0, round(x, 1, 0, 8, 1, 8));
        due("to another one, at first", 0, round(x, 1, 1, 8, 0, 8));
        due("HOME, ahead of another one's", 1, round(x, 1, 2, 8, 0, 8, 1, 8));
        due("another one's, ahead of HOME", 1, round(x, 1, 2, 8, 1, 8, 1, 0, 0, 8));
        due("behind pairs that are no letters", 3, round(x, 1, 0, 1, 1, 15, 2, 8, 1, 8));
        int[] most = new int[40];
        for (int k = 0; k < 20; k++) {
            most[2 * k] = 2;
            most[2 * k + 1] = 8;
        }
        due("20 that come", NONE, round(x, 1, most));
        due("20 that come", 20, round(x, 0, most));
        most[38] = 0;
        due("the last one", 19, round(x, 1, most));
        due("19 that come", 19, round(x, 0, most));
        due("one HOME", 1, round(x, 3, most));
    }

    private static void cutRounds() {
        sentence = "taken as a row of a LANE";
        for (int lane = 0; lane < 3; lane++) {
            NosePost x = moorOf("d50;k115;k225");
            x.sheet(0, lane, 2);
            x.put(0, 0, 65536 + 1);
            x.put(0, 1, 65536 + 8);
            due("cut by LANE " + lane, lane < 2 ? 1 : -2, x.round(0, lane, 0, 1, 0));
            x.put(0, 0, 256 + 1);
            x.put(0, 1, 256 + 8);
            due("cut by LANE " + lane, lane < 1 ? 1 : -2, x.round(0, lane, 0, 1, 0));
        }
    }

    private static void strict() {
        sentence = "STRICT for a PERSON: the least LAX 0 .. 3 by which a letter to it COMES; NONE: by none";
        for (int was = 0; was < 8; was++) {
            for (int lax = 0; lax < 4; lax++) {
                NosePost x = moorOf("d5" + lax + ";k0" + was + "5;p119");
                due("WAS " + was + ", LAX " + lax, BITS[was], x.strict(0));
                due("not SMELT", NONE, x.strict(1));
                due("LAX is as ever", lax, x.many(2));
            }
        }
        due("a nearer one, as alike", NONE, moorOf("d50;k106;k105").strict(0));
        due("a lesser one, as alike", NONE, moorOf("d50;k105;k105").strict(1));
        due("one more alike", NONE, moorOf("d50;k105;k015").strict(0));
        due("it is the most alike", 1, moorOf("d50;k106;k305").strict(0));
    }

    private static void site() {
        sentence = "SITE: the PLACE 0 .. 9 of the POST by which letters to the most PEOPLE COME: the least";
        site("by the POST 10 one would", "d00;p019;r017;r009", 0, 0);
        site("by the POST -1 one would", "d00;p010;r012;r000", 0, 0);
        site("by 3 .. 5 all", "d00;p114;p224;p334;p444;p554;p664", 3, 6);
        site("by 0 alone", "d90;p000;p119", 0, 1);
        site("by 9 alone", "d00;p009;p035", 9, 1);
        site("by 8 and 9 both", "d00;p119;p229", 8, 2);
        site("by 0 and 1 both", "d90;p110;p220", 0, 2);
        site("one here, one there", "d50;p119;p222", 1, 1);
        // Each alone: 1's goes to 0, whatever is SENT.
        site("each alone", "d90;k145;k215", 0, 0);
        site("by LAX 1", "d91;p105;p019", 4, 1);
        site("by LAX 0", "d90;p105;p019", 0, 0);
    }

    private static void site(String why, String text, int where, int many) {
        NosePost x = moorOf(text);
        due(why + ", site(0)", where, x.site(0));
        due(why + ", site(1)", many, x.site(1));
        due(why + ", POST is as ever", text.charAt(1) - '0', x.many(1));
    }

    private static void order() {
        sentence = "ORDER: a letter each, so that the most COME: of several orders the first as a row";
        order("all come", "d40;p114;p224;p334;p444;p554;p664", 6, 0, 1, 2, 3, 4, 5);
        order("none can come", "d00;p119;p229;p339", 0, 0, 1, 2);
        order("one to another, a ring", "d50;k125;k235;k345;k455;k565;k615", 3, 0, 1, 2, 3, 4, 5);
        order("a ring the other way", "d50;k165;k215;k325;k435;k545;k655", 3, 0, 2, 1, 4, 3, 5);
        order("a chain that ends HOME", "d50;k175;k215;k425", 1, 0, 2, 1);
        order("all to one", "d53;k105;k205;k405", 1, 0, 1, 2);
        order("all to the last", "d50;k145;k245;k445", 1, 0, 1, 2);
        order("the last brings the first's", "d50;k165;k225;k335;k415", 3, 1, 2, 3, 0);
        // 3 ahead of 2, 4 ahead of 1, 5 ahead of 0, whose would else go to one another.
        order("as late a row as any first one", "d50;k125;k215;k315;k435;k525;k615", 3, 3, 2, 4, 1, 5, 0);
        order("two PEOPLE, the second ahead", "d50;k165;k215", 1, 1, 0);
        order("two PEOPLE, as like", "d50;k115;k115", 1, 0, 1);
    }

    private static void order(String why, String text, int come, int... row) {
        NosePost x = moorOf(text);
        due(why + ", order(-1)", come, x.order(-1));
        for (int k = 0; k < 6; k++) {
            due(why + ", order(" + k + ")", k < row.length ? row[k] : NONE, x.order(k));
        }
        due(why + ", SENT", 0, x.many(3));
        int came = 0;
        for (int p : row) {
            came += x.send(p) == p ? 1 : 0;
        }
        due(why + ", SENT so", come, came);
    }

    private static void ahead() {
        sentence = "AHEAD of a PERSON: how many letters must be SENT ahead at least";
        NosePost x = moorOf("d50;k165;k215;k425;k745;p339;k555");
        // 1's goes to 0, 2's to 1, 3's to 2.
        int[] due = {1, 1, 1, NONE, NONE, 0};
        for (int p = 0; p < 6; p++) {
            due("ahead(" + p + ")", due[p], x.ahead(p));
        }
        x.send(3);
        due("it got one", 0, x.ahead(2));
        due("whose would bring it has got one", NONE, x.ahead(1));
        due("as ever", 1, x.ahead(0));
        x = moorOf("d52;k105;k205;k405");
        due("it comes", 0, x.ahead(0));
        due("all go to another", NONE, x.ahead(1));
    }

    private static void readings() {
        sentence = "SMELLS, PASTS, KINDS: in place of what it is alone, by which all READINGS are so";
        NosePost x = moorOf("d50;k145;k215;p009");
        sets(x, "no READINGS", 0, 255, 255, 7);
        due("a letter to 1 GOES to 0", 0, x.reading(1, 0));
        sets(x, "by whom it goes to", 0, 2, 255, 7);
        sets(x, "by whom it is for", 1, 255, 2, 7);
        sets(x, "by another", 2, 255, 255, 7);
        due("a letter to 1 GOES HOME", 1, x.reading(1, NONE));
        sets(x, "both at once: by none", 0, 0, 0, 0);
        sets(x, "both at once: by none", 1, 0, 0, 0);
        x.back(2);
        due("a letter to 1 GOES to itself", 0, x.reading(1, 1));
        // 1's SMELL is not its WAS, and 0, as near and less, gets what is for one of its SMELL.
        sets(x, "by none of 0's", 0, 0, 0, 0);
        sets(x, "to itself, by no SMELL but another WAS", 1, 0, 4, 0);
        x.back(1);
        due("a letter to 0 GOES HOME", 0, x.reading(0, NONE));
        sets(x, "by all but its WAS", 0, 255 - 16, 255 - 2 - 4, 7);
        sets(x, "by all but 0's WAS", 1, 255 - 16, 255, 7);
        due("again", 1, x.reading(0, NONE));
        sets(x, "the same twice", 0, 255 - 16, 255 - 2 - 4, 7);
        due("a letter to 2 GOES to itself", 2, x.reading(2, 2));
        sets(x, "not SMELT at PLACE 9", 2, 0, 0, 0);
        x.post(9);
        // POST 9: 0 and 1 as far as 4, SCENT 4: SMELT.
        sets(x, "SMELT at PLACE 9", 2, 1, 1, 7);
    }

    private static void sets(NosePost x, String why, int p, int smells, int pasts, int kinds) {
        due(why + ", smells(" + p + ")", smells, x.smells(p));
        due(why + ", pasts(" + p + ")", pasts, x.pasts(p));
        due(why + ", kinds(" + p + ")", kinds, x.kinds(p));
    }

    private static void readingsWhenAsked() {
        sentence = "from how all is when it is asked, not when it was told";
        NosePost x = moorOf("d50;k145;k215;k325");
        x.reading(1, 0);
        due("when it is told", 2, x.smells(0));
        x.send(2);
        due("another WAS", 4, x.smells(0));
        x.moves(0, 6);
        due("another PLACE, farther than 1's", 0, x.smells(0));
        x.bathe(1, 4);
        due("another SMELL, of another one", 4, x.smells(0));
        x.lax(1);
        // WAS of 1 is 2, and 2 (SMELL 3, unlike in one trait) is nearer.
        due("another LAX", 4, x.smells(0));
        x.moves(0, 5);
        due("as near as 2 and less", 1 + 4 + 8 + 64, x.smells(0));
        x.post(8);
        due("another POST, as far as 3", 4 + 8 + 64, x.smells(0));
        x.bathe(0, 7);
        due("its own SMELL is no matter", 4 + 8 + 64, x.smells(0));
        Checks.told(x, "d50;k145;k215;k325");
        due("another moor", 255, x.smells(0));
    }

    private static void kinds() {
        sentence = "KINDS of a PERSON: 0 .. 2";
        // Of SMELL 1 the kinds have SCENT 1, 2, 4.
        int[] places = {5, 6, 7, 8, 9, 0};
        int[] itself = {7, 7, 6, 4, 4, 0};
        for (int c = 0; c < places.length; c++) {
            for (char kind : new char[] {'p', 'r', 'k'}) {
                NosePost x = moorOf("d50;" + kind + "11" + places[c] + ";k225");
                x.reading(0, 0);
                due("itself, PLACE " + places[c], itself[c], x.kinds(0));
                x.back(1);
                x.reading(0, NONE);
                due("HOME, PLACE " + places[c], 7 - itself[c], x.kinds(0));
                due("kind is as ever", "prk".indexOf(kind), x.ofPerson(0, 0));
            }
        }
    }

    private static void odds() {
        sentence = "ODDS: if its SMELL is any of 0 .. 7, all alike, the share, in least terms";
        share("d00;k000;p009", 1, 8);
        share("d00;p012;p009", 0, 1);
        share("d01;p012;p009", 1, 4);
        share("d01;p001;p009", 3, 8);
        share("d01;k000;p009", 1, 2);
        share("d02;p001;p009", 3, 4);
        share("d02;k000;p009", 7, 8);
        share("d03;k000;p009", 1, 1);
        share("d03;p004;p009", 0, 1);
        // By the four SMELLS within LAX 1 of its WAS, as far as no other one gets it.
        NosePost x = moorOf("d51;k305;k005");
        odds(x, "0 is not within LAX", 1, 2);
        x.bathe(0, 1);
        odds(x, "0 is within LAX, as near and less: by its WAS alone", 1, 8);
        x.moves(0, 6);
        odds(x, "0 is within LAX, but farther", 1, 2);
        x.bathe(0, 0);
        odds(x, "0 is alike, but farther: by its WAS alone", 1, 8);
        x.moves(0, 5);
        odds(x, "0 is alike, as near and less", 0, 1);
    }

    private static void odds(NosePost x, String why, int upper, int lower) {
        due(why + ", upper", upper, x.odds(1, 0));
        due(why + ", lower", lower, x.odds(1, 1));
    }

    private static void share(String text, int upper, int lower) {
        for (int smell = 0; smell < 8; smell++) {
            NosePost x = moorOf(text);
            x.bathe(0, smell);
            due(text + ", upper, SMELL " + smell, upper, x.odds(0, 0));
            due(text + ", lower, SMELL " + smell, lower, x.odds(0, 1));
            due(text + ", SMELL is as ever", smell, x.ofPerson(0, 1));
        }
    }

    private static void lanes() {
        sentence = "a LANE: 0 bytes, 1 shorts, 2 ints; cut to its LANE (with its sign)";
        int[][] cut = {{0, 0, 0}, {1, 1, 1}, {-1, -1, -1}, {127, 127, 127}, {128, -128, 128}, {-128, -128, -128},
            {-129, 127, -129}, {255, -1, 255}, {256, 0, 256}, {-256, 0, -256}, {32767, -1, 32767},
            {32768, 0, -32768}, {-32768, 0, -32768}, {-32769, -1, 32767}, {65535, -1, -1}, {65536, 0, 0},
            {-65536, 0, 0}, {MAX, -1, -1}, {MIN, 0, 0}, {MAX - 128, 127, -129}, {MIN + 128, -128, 128}};
        for (int[] row : cut) {
            NosePost x = new NosePost();
            for (int lane = 0; lane < 3; lane++) {
                x.sheet(lane, lane, 2);
                due("put " + row[0], 1, x.put(lane, 1, row[0]));
                due(row[0] + " of LANE " + lane, lane < 2 ? row[1 + lane] : row[0], x.cell(lane, 1, lane));
                due("fault()", 0, x.fault());
                x.sheet(3, lane, 1);
                due("copied", 1, x.copy(lane, 1, 3, 0, 1));
                due(row[0] + " copied", lane < 2 ? row[1 + lane] : row[0], x.cell(3, 0, lane));
            }
        }
        sentence = "numbers (0 at first)";
        NosePost x = new NosePost();
        x.sheet(0, 2, 3);
        x.put(0, 1, 5);
        x.lose(0);
        due("lost", LOST, x.cell(0, 1, 2));
        x.sheet(0, 2, 3);
        due("a new row", 0, x.cell(0, 1, 2));
        x.put(0, 1, 5);
        x.sheet(0, 2, 3);
        due("a new row in place of one", 0, x.cell(0, 1, 2));
    }

    private static void telling() {
        sentence = "TELLING by bodies that leave their number in TRACE (an int that wraps, 0 at first)";
        NosePost x = moorOf("d50;p005;r005;k005;k775");
        int[] traces = {4, 128, 3972, 123136, 3817220, 118333824, -626618748};
        for (int trace : traces) {
            due("whistle(0)", 0, x.whistle(0));
            due("trace()", trace, x.trace());
        }
        x = moorOf("d50;p005;r005;k005;k775;r775;p775");
        due("PLAIN of SMELL 0", 0, x.tell(0));
        due("1", 1, x.trace());
        due("RANK of SMELL 0", 100, x.tell(1));
        due("1 2 1", 1024, x.trace());
        due("REEKING of SMELL 0", 100, x.tell(2));
        // 1024 * 31 + 3 = 31747; * 31 + 2 = 984159; * 31 + 1 = 30508930; * 31 + 1 = 945776831.
        due("1 2 1 3 2 1 1", 945776831, x.trace());
        due("REEKING of SMELL 7", 114, x.tell(3));
        due("RANK of SMELL 7", 107, x.tell(4));
        due("PLAIN of SMELL 7", 7, x.tell(5));
        x.bathe(5, 1);
        due("SMELL as it is now", 1, x.tell(5));
        sentence = "WHISTLED by a lent body: the PERSON's number; REEKING ones have their own: 70";
        due("RANK", 4, x.whistle(4));
        due("PLAIN", 5, x.whistle(5));
        due("REEKING", 70, x.whistle(2));
        int trace = x.trace();
        Checks.told(x, "d50;p005;k005");
        due("TRACE of another moor", trace, x.trace());
        due("REEKING", 70, x.whistle(1));
        due("5 behind it", trace * 31 + 5, x.trace());
    }

    private static void asAllIsNow() {
        sentence = "As all is now";
        NosePost x = moorOf("d50;k145;k215");
        due("order(0)", 1, x.order(0));
        due("site(1)", 0, x.site(1));
        due("strict(0)", 2, moorOf("d50;k145;k725").strict(0));
        x.bathe(0, 4);
        x.bathe(1, 1);
        due("order(0)", 0, x.order(0));
        due("order(-1)", 2, x.order(-1));
        due("site(1)", 2, x.site(1));
        due("site(0)", 1, x.site(0));
        due("strict(0)", 0, x.strict(0));
        due("ahead(1)", 0, x.ahead(1));
        x.moves(1, 9);
        due("site(0)", 5, x.site(0));
        x.moves(0, 0);
        due("site(1)", 1, x.site(1));
        due("site(0)", 0, x.site(0));
        Checks.told(x, "d50;p115;p225;p335");
        due("of three", 2, x.order(2));
        Checks.told(x, "d50;p115;p225");
        due("of two", NONE, x.order(2));
        due("of two", 2, x.order(-1));
    }
}
