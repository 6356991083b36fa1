import java.util.Collections;

/**
 * The boundary cases of TEXTS, sentence by sentence: the TAPE, FAULT, what is taken as a COAST or a LAW, and how a
 * LAW is worked out (promises 1 to 5 and 10, Terms 1). The answers due are worked out by hand.
 */
public final class BoundaryTextsTest {
    private static final Check CHECK = new Check("BoundaryTextsTest");
    private static final int[] FAR = {Integer.MIN_VALUE, -1000000, 1000000, Integer.MAX_VALUE};

    /** A clause's letter, an ITEM's letter, least and most: in the document's order. */
    private static final String[] ITEMS = {"sw26", "sh25", "so099", "sk099", "sv03", "px05", "py04", "pn19",
        "ca05", "ck19", "cx05", "cy04"};
    private static final String OF_RULES = "whokv";
    private static final String OF_PERSON = "xyn";
    private static final String OF_SECRET = "akxy";

    private BoundaryTextsTest() {
    }

    private static void due(String what, long want, long got) {
        CHECK.due(what, want, got);
    }

    private static void due(String what, boolean want, boolean got) {
        CHECK.due(what, want, got);
    }

    private static void coast(String text, int want) {
        due("fault(0) of '" + text + "'", want, Tell.fault(new SmokedSecrets(), 0, text));
    }

    private static void law(String text, int want) {
        due("fault(1) of '" + text + "'", want, Tell.fault(new SmokedSecrets(), 1, text));
    }

    /** The FAULT is the length. */
    private static void coastTooEarly(String text) {
        coast(text, text.length());
    }

    private static void lawTooEarly(String text) {
        law(text, text.length());
    }

    private static String many(int n, String clause) {
        return String.join(";", Collections.nCopies(n, clause));
    }

    public static void main(String[] args) {
        newObjects();
        tapes();
        coastNumbers();
        coastClauses();
        coastWholes();
        lawFaults();
        texts();
        lawsThatHold();
        worths();
        CHECK.end();
    }

    // ---- promise 1

    private static void newObjects() {
        CHECK.sentence("1 A new object", "No COAST.", BoundaryTextsTest::newObjectCounts);
        CHECK.sentence("1 A new object", "No COAST.", BoundaryTextsTest::newObjectAnswers);
        CHECK.sentence("1 A new object", "No COAST.", BoundaryTextsTest::newObjectActs);
        CHECK.sentence("What it is", "An object is used for at most 512 calls after it has been made",
            BoundaryTextsTest::fiveHundredAndTwelveCalls);
    }

    private static void newObjectCounts() {
        int[] want = {0, 0, 0, 0, 0, -1, 0, 5, 0, 0, 0};
        for (int i = 0; i < want.length; i++) {
            due("count " + i, want[i], new SmokedSecrets().count(i));
        }
        for (int i = 0; i < 5; i++) {
            due("status " + i, 0, new SmokedSecrets().status(i));
        }
    }

    private static void newObjectAnswers() {
        SmokedSecrets x = new SmokedSecrets();
        for (int i = 0; i < 4; i++) {
            due("rule " + i, -1, x.rule(i));
        }
        for (int i = 0; i < 3; i++) {
            due("person " + i, -77, Tell.person(x, 0, i));
        }
        for (int i = 0; i < 7; i++) {
            due("secret " + i, -1, x.secret(0, i));
        }
        for (int i = 0; i < 12; i++) {
            due("most " + i, -1, x.most(i));
        }
        for (int i = 0; i < 2; i++) {
            due("kept " + i, -1, x.kept(0, 0, i));
            due("worthwhile " + i, -1, x.worthwhile(i));
            due("out " + i, -1, x.out(0, i));
            due("game " + i, -1000000, x.game(0, 1, 4, 4, i));
        }
        due("breath", -1, x.breath(0, 0));
        due("strength", -1, x.strength(0, 0));
        due("smells", -1, x.smells(0));
        due("air", -1, x.air(0));
        due("soon", -1, x.soon(0, 0));
        due("ready", -1, x.ready(0));
        due("noted", -1, x.noted(0, 0, true));
        due("heavies", -1, x.heavies(0, -1));
        due("ask", -1, x.ask(0));
        due("rests", -1, x.rests(0, 1, -1));
        due("odds", -1, x.odds(0, 0, 0, 0));
        due("shares", -1, x.shares(0, 0));
        due("log", -1, x.log(0, 0));
        due("undo", -1, x.undo());
        due("image", -1, x.image());
        due("back", -1, x.back());
        due("years", -1, x.years(1, 1));
        due("no STATUS of these", 0, x.status(0));
    }

    private static void newObjectActs() {
        SmokedSecrets x = new SmokedSecrets();
        due("nights", -1, x.nights(1));
        due("hang", -1, x.hang(0));
        due("veers", -1, x.veers(0));
        due("moves", -1, x.moves(0, 1));
        due("oak", -1, x.oak(1));
        due("give", -1, x.give(1));
        due("status 0", 6, x.status(0));
        due("no ACT", 0, x.count(10));
    }

    private static void fiveHundredAndTwelveCalls() {
        SmokedSecrets x = new SmokedSecrets();
        x.feed(0x703b703b, 0x63000000, 0, 0, 0);
        x.text(0);
        for (int call = 3; call < 511; call += 2) {
            due("nights, call " + call, 1, x.nights(1));
            due("undo, call " + (call + 1), 0, x.undo());
        }
        due("call 511", 1, x.nights(1));
        due("call 512", 1, x.count(10));
    }

    // ---- promises 2 and 3

    private static void tapes() {
        CHECK.sentence("2 feed", "of each number the highest first", BoundaryTextsTest::highestFirst);
        CHECK.sentence("2 feed", "bytes of 0 are left out", BoundaryTextsTest::zerosLeftOut);
        CHECK.sentence("2 feed", "how many it has", BoundaryTextsTest::howManyBytes);
        CHECK.sentence("2 feed", "NONE: more than 240.", BoundaryTextsTest::upToTwoHundredAndForty);
        CHECK.sentence("2 feed", "NONE: more than 240.", BoundaryTextsTest::oneTooMany);
        CHECK.sentence("2 feed", "NONE: more than 240.", BoundaryTextsTest::twoWhereOneHasRoom);
        CHECK.sentence("2 feed", "NONE: more than 240.", BoundaryTextsTest::refusedBytesStayOut);
        CHECK.sentence("3 end", "The TAPE has its first n bytes alone.", BoundaryTextsTest::endCuts);
        CHECK.sentence("3 end", "False: n.", BoundaryTextsTest::endOutOfBounds);
    }

    private static void highestFirst() {
        SmokedSecrets x = new SmokedSecrets();
        due("feed of p;p;c", 5, x.feed(0x703b703b, 0x63000000, 0, 0, 0));
        due("fault of p;p;c", -1, x.fault(0));
        x.end(0);
        due("feed of a p, b ;, c p, d ;, e c", 5, x.feed('p', ';', 'p', ';', 'c'));
        due("fault of it", -1, x.fault(0));
        x.end(0);
        due("feed of twenty", 20, x.feed(0x73773568, 0x346f3130, 0x6b313076, 0x323b703b, 0x703b6361));
        due("fault of s..;p;p;ca: the length", 20, x.fault(0));
        x.end(0);
        due("bytes above 127, a number below 0", 4, x.feed(0xf0e0d0c0, 0, 0, 0, 0));
        due("they are no signs", 0, x.fault(0));
    }

    private static void zerosLeftOut() {
        SmokedSecrets x = new SmokedSecrets();
        due("nothing", 0, x.feed(0, 0, 0, 0, 0));
        due("between bytes", 3, x.feed(0x70003b00, 0, 0x70, 0, 0));
        due("ahead of them", 5, x.feed(0, 0, 0, 0x3b63, 0));
        due("fault of p;p;c", -1, x.fault(0));
        due("alone", 6, x.feed(0, 0, 0x00200000, 0, 0));
        due("nothing more", 6, x.feed(0, 0, 0, 0, 0));
    }

    private static void howManyBytes() {
        int[][] of = {{1, 1}, {0x100, 1}, {0x10000, 1}, {0x1000000, 1}, {0x101, 2}, {0x1000001, 2}, {0x10101, 3},
            {-1, 4}, {Integer.MIN_VALUE, 1}, {0x7f00ff00, 2}};
        for (int[] one : of) {
            due("a of " + one[0], one[1], new SmokedSecrets().feed(one[0], 0, 0, 0, 0));
            due("b of " + one[0], one[1], new SmokedSecrets().feed(0, one[0], 0, 0, 0));
            due("c of " + one[0], one[1], new SmokedSecrets().feed(0, 0, one[0], 0, 0));
            due("d of " + one[0], one[1], new SmokedSecrets().feed(0, 0, 0, one[0], 0));
            due("e of " + one[0], one[1], new SmokedSecrets().feed(0, 0, 0, 0, one[0]));
        }
    }

    private static void upToTwoHundredAndForty() {
        SmokedSecrets x = new SmokedSecrets();
        String text = "p;p;c" + " ".repeat(235);
        due("240 fed", 240, Tell.feed(x, text));
        due("count", 240, x.count(4));
        due("nothing more is not too much", 240, x.feed(0, 0, 0, 0, 0));
        due("the last byte counts", -1, x.fault(0));
        x.end(239);
        x.feed('z', 0, 0, 0, 0);
        due("a wrong byte at the last place", 239, x.fault(0));
        x.end(239);
        x.feed(' ', 0, 0, 0, 0);
        due("a COAST of 240 bytes", 20, x.text(0));
        due("the TAPE is empty", 0, x.count(4));
        due("there is room again", 20, x.feed(-1, -1, -1, -1, -1));
        String law = "y:" + "1+".repeat(118) + "k ";
        due("a LAW's bytes", 240, law.length());
        due("a LAW of 240 bytes", 0, Tell.text(x, 1, law));
    }

    private static void oneTooMany() {
        SmokedSecrets x = new SmokedSecrets();
        Tell.feed(x, " ".repeat(240));
        for (int shift = 0; shift < 32; shift += 8) {
            due("one more", -1, x.feed(0, 0, 0, 0, 1 << shift));
            due("one more", -1, x.feed(1 << shift, 0, 0, 0, 0));
        }
        due("twenty more", -1, x.feed(-1, -1, -1, -1, -1));
        due("count", 240, x.count(4));
        x = new SmokedSecrets();
        Tell.feed(x, " ".repeat(221));
        due("twenty behind 221", -1, x.feed(-1, -1, -1, -1, -1));
        due("nineteen behind 221", 240, x.feed(-1, -1, -1, -1, 0xffffff));
    }

    private static void twoWhereOneHasRoom() {
        SmokedSecrets x = new SmokedSecrets();
        Tell.feed(x, " ".repeat(239));
        due("both in a", -1, x.feed(0x0101, 0, 0, 0, 0));
        due("in a and b", -1, x.feed(1, 1, 0, 0, 0));
        due("in b and c", -1, x.feed(0, 1, 1, 0, 0));
        due("in c and d", -1, x.feed(0, 0, 1, 1, 0));
        due("in d and e", -1, x.feed(0, 0, 0, 1, 1));
        due("in a and e", -1, x.feed(1, 0, 0, 0, 1));
        due("count", 239, x.count(4));
        due("one", 240, x.feed(0, 0, 1, 0, 0));
    }

    private static void refusedBytesStayOut() {
        SmokedSecrets x = new SmokedSecrets();
        Tell.feed(x, "p;p;c" + " ".repeat(233));
        due("three where two have room", -1, x.feed('z', 'z', 'z', 0, 0));
        due("count", 238, x.count(4));
        due("no z has come", -1, x.fault(0));
        due("two blanks", 240, x.feed(0x2020, 0, 0, 0, 0));
        due("no z has come in between", -1, x.fault(0));
    }

    private static void endCuts() {
        SmokedSecrets x = new SmokedSecrets();
        due("none of none", true, x.end(0));
        Tell.feed(x, "p;p;cz");
        due("all", true, x.end(6));
        due("all stay", 6, x.count(4));
        due("z at 5", 5, x.fault(0));
        due("one less", true, x.end(5));
        due("without z", -1, x.fault(0));
        due("one", true, x.end(1));
        due("it has one", 1, x.count(4));
        due("fed behind it", 5, x.feed(';', 'p', ';', 'c', 0));
        due("p;p;c", -1, x.fault(0));
        due("none", true, x.end(0));
        due("it has none", 0, x.count(4));
        due("what was cut does not come again", 1, x.feed('p', 0, 0, 0, 0));
        due("p alone", 1, x.fault(0));
    }

    private static void endOutOfBounds() {
        SmokedSecrets x = new SmokedSecrets();
        due("1 of none", false, x.end(1));
        due("-1 of none", false, x.end(-1));
        Tell.feed(x, "p;p;c");
        for (int n : new int[] {-1, -5, 6, 7, 240, 241, Integer.MIN_VALUE, Integer.MAX_VALUE}) {
            due("end " + n, false, x.end(n));
            due("it has five", 5, x.count(4));
        }
        due("it is as it was", -1, x.fault(0));
        Tell.feed(x, " ".repeat(235));
        due("240 of 240", true, x.end(240));
        due("241 of 240", false, x.end(241));
    }

    // ---- promise 4: numbers of a COAST

    private static void coastNumbers() {
        CHECK.sentence("4 fault", "-2: no such sort.", BoundaryTextsTest::noSuchSort);
        CHECK.sentence("Terms 1", "w how WIDE (2 .. 6; 5 without), h how many ROWS (2 .. 5; 4), o OAK (0 .. 99; 30), "
            + "k COINS (0 .. 99; 20), v WIND (0 up: to a lower ROW, 1 to the right, 2 down, 3 to the left; 1)",
            () -> numbersOf('s'));
        CHECK.sentence("Terms 1", "of p: x, y where (0 .. 5, 0 .. 4; 0 each), n NOSE (1 .. 9; 3)",
            () -> numbersOf('p'));
        CHECK.sentence("Terms 1", "of c: a whose (0 .. 5; 0), k how HEAVY (1 .. 9; 3), x, y its SHED (0 .. 5, 0 .. 4; "
            + "0 each)", () -> numbersOf('c'));
        CHECK.sentence("Terms 1", "a number (one or two digits)", BoundaryTextsTest::noDigit);
        CHECK.sentence("Terms 1", "a third digit (a fifth one in a LAW) itself, whatever stands ahead of it",
            BoundaryTextsTest::thirdDigit);
        CHECK.sentence("Terms 1", "a number out of bounds is wrong at its last digit",
            BoundaryTextsTest::outOfBoundsAtItsLastDigit);
        CHECK.sentence("Terms 1", "Blanks (32) may stand between all signs of both, not within numbers.",
            BoundaryTextsTest::blanksInCoasts);
    }

    private static void noSuchSort() {
        for (int sort : new int[] {-1, -2, 2, 3, Integer.MIN_VALUE, Integer.MAX_VALUE}) {
            due("of an empty TAPE " + sort, -2, new SmokedSecrets().fault(sort));
            due("of a COAST " + sort, -2, Tell.fault(new SmokedSecrets(), sort, "p;p;c"));
            due("of a LAW " + sort, -2, Tell.fault(new SmokedSecrets(), sort, "y:k"));
        }
        due("sort 0 of an empty TAPE", 0, new SmokedSecrets().fault(0));
        due("sort 1 of an empty TAPE", 0, new SmokedSecrets().fault(1));
    }

    /** What makes a COAST of a last CLAUSE of that kind, whatever number its one ITEM has. */
    private static String ahead(char kind) {
        return kind == 's' ? "p;p;c;" : kind == 'p' ? "sw6h5;p;c;" : "sw6h5;p;p;p;p;p;p;";
    }

    private static void numbersOf(char kind) {
        for (String item : ITEMS) {
            if (item.charAt(0) == kind) {
                int least = item.charAt(2) - '0';
                int most = Integer.parseInt(item.substring(3));
                String text = ahead(kind) + item.substring(0, 2);
                for (int value = 0; value <= 99; value++) {
                    boolean good = value >= least && value <= most;
                    if (value < 10) {
                        coast(text + value, good ? -1 : text.length());
                        coast(text + value + ";", good ? text.length() + 2 : text.length());
                    }
                    coast(text + value / 10 + value % 10, good ? -1 : text.length() + 1);
                }
            }
        }
    }

    private static void noDigit() {
        for (String item : ITEMS) {
            String text = ahead(item.charAt(0)) + item.substring(0, 2);
            coastTooEarly(text);
            coastTooEarly(text + " ");
            coast(text + ";", text.length());
            coast(text + " ;", text.length() + 1);
            coast(text + "-1", text.length());
            coast(text + "+1", text.length());
            coast(text + item.charAt(1), text.length());
        }
    }

    private static void thirdDigit() {
        for (String item : ITEMS) {
            String text = ahead(item.charAt(0)) + item.substring(0, 2);
            for (String digits : new String[] {"000", "001", "003", "100", "123", "999", "0000", "9999"}) {
                coast(text + digits, text.length() + 2);
            }
        }
        law("y:12345", 6);
        law("y:00000", 6);
        law("y:00001", 6);
        law("y:99999", 6);
        law("y:123456", 6);
        law("y:k+12345?", 8);
    }

    private static void outOfBoundsAtItsLastDigit() {
        coast("sw1", 2);
        coast("sw01", 3);
        coast("sw7", 2);
        coast("sw07", 3);
        coast("sw12", 3);
        coast("sw1;p", 2);
        coast("sw1h9", 2);
        coast("sv4z", 2);
        coast("pn0", 2);
        coast("pn00", 3);
        coast("pn10", 3);
        coast("pn0 0", 2);
        coast("ck0 ", 2);
        coast("cx6y9", 2);
        coast("c x 9 9", 4);
    }

    private static void blanksInCoasts() {
        coast(" s w 6 h 5 o 99 k 0 v 3 ; p x 5 y 4 n 9 ; p ; c a 1 k 9 x 5 y 4 ", -1);
        coast("  s  w06  ;  p  ;  p  ;  c  ", -1);
        coast("so1 0;p;p;c", 4);
        coast("so1 ;p;p;c", -1);
        coast("sw3 3", 4);
        coast("px1 0", 4);
        coastTooEarly(" ");
        coastTooEarly("p; p; ");
        coast(" z", 1);
        coast("p;  z", 4);
        for (char other : new char[] {1, 9, 10, 11, 12, 13, 28, 31, 133, 160, 255}) {
            coast("p;" + other + "p;c", 2);
            law("y" + other + ":k", 1);
        }
    }

    // ---- promise 4: CLAUSES of a COAST

    private static void coastClauses() {
        CHECK.sentence("Terms 1", "s (its RULES; one at most)", BoundaryTextsTest::oneOfRulesAtMost);
        CHECK.sentence("Terms 1", "p (a PERSON; 2 .. 6)", BoundaryTextsTest::twoToSixPersons);
        CHECK.sentence("Terms 1", "c (a SECRET; 1 .. 6)", BoundaryTextsTest::oneToSixSecrets);
        CHECK.sentence("Terms 1", "in any order", BoundaryTextsTest::inAnyOrder);
        CHECK.sentence("Terms 1", "then ITEMS, none or more", BoundaryTextsTest::noneOrMoreItems);
        CHECK.sentence("Terms 1", "a letter, each once at most in a CLAUSE", BoundaryTextsTest::eachLetterOnce);
        CHECK.sentence("Terms 1", "CLAUSES with ; between", BoundaryTextsTest::betweenClauses);
        CHECK.sentence("Terms 1", "the first byte at which no such TEXT can go on",
            BoundaryTextsTest::eachByteThatCannotBe);
    }

    private static void oneOfRulesAtMost() {
        coast("p;p;c", -1);
        coast("p;p;c;s", -1);
        coast("s;s", 2);
        coast("s;s;p;p;c", 2);
        coast("s;p;s;p;c", 4);
        coast("p;p;c;s;s", 8);
        coast("sw3;  sw3", 6);
        coast("s;p;p;c;sz", 8);
    }

    private static void twoToSixPersons() {
        coastTooEarly("c");
        coastTooEarly("p;c");
        coastTooEarly("c;p");
        coastTooEarly("p;c;s");
        for (int n = 2; n <= 6; n++) {
            coast("c;" + many(n, "p"), -1);
            coast(many(n, "px1y2n3") + ";c", -1);
        }
        coast(many(7, "p"), 12);
        coast(many(7, "p") + ";c", 12);
        coast(many(6, "p") + ";  px9", 14);
        coast("c;" + many(6, "px1") + ";p", 26);
        coast(many(6, "p") + ";c;p", 14);
    }

    private static void oneToSixSecrets() {
        coastTooEarly("p;p");
        coastTooEarly("s;p;p");
        for (int n = 1; n <= 6; n++) {
            coast("p;p;" + many(n, "c"), -1);
            coast(many(n, "ca1k9x4y3") + ";p;p", -1);
        }
        coast(many(7, "c"), 12);
        coast(many(7, "c") + ";p;p", 12);
        coast(many(6, "c") + ";  ck0", 14);
        coast("p;p;" + many(7, "c"), 16);
        coast(many(6, "c") + ";p;c", 14);
    }

    private static void inAnyOrder() {
        for (String text : new String[] {"s;p;p;c", "s;p;c;p", "s;c;p;p", "p;s;p;c", "p;s;c;p", "c;s;p;p", "p;p;s;c",
            "p;c;s;p", "c;p;s;p", "p;p;c;s", "p;c;p;s", "c;p;p;s"}) {
            coast(text, -1);
        }
        String full = many(6, "p") + ";" + many(6, "c") + ";s";
        coast(full, -1);
        due("the first p told is the first PERSON", 2, Tell.person(Tell.coast("c;pn2;s;pn4"), 0, 1));
        due("the second p told is the second one", 4, Tell.person(Tell.coast("c;pn2;s;pn4"), 1, 1));
        due("the first c told is the first SECRET", 2, Tell.coast("ck2;p;s;ck4;p").secret(0, 1));
        due("the second c told is the second one", 4, Tell.coast("ck2;p;s;ck4;p").secret(1, 1));
        due("v ahead of w", 30, Tell.text(new SmokedSecrets(), 0, "sv3k1o2h5w6;pn1y4x5;p;cy4x5k1a1"));
    }

    private static void noneOrMoreItems() {
        coast("s;p;p;c", -1);
        coast("sw2;px1;p;cy1", -1);
        coast("sw2h2o0k0v0;px1y1n1;px1y1n1;ca1k1x1y1", -1);
        coast("sw6h5o99k99v3;px5y4n9;px5y4n9;ca1k9x5y4", -1);
    }

    private static void eachLetterOnce() {
        for (String item : ITEMS) {
            String once = item.substring(1, 2) + item.charAt(2);
            String text = ahead(item.charAt(0)) + item.charAt(0) + once;
            coast(text, -1);
            coast(text + once, text.length());
            coast(text + " " + once, text.length() + 1);
            coast(text + item.charAt(1), text.length());
        }
        coast("pn1x0n1", 5);
        coast("sw2h2w", 5);
        coast("ca0k1x0y0k", 9);
        coast("px1n1;px1n1;cx1k1;cx1k1", -1);
        coast("sk1;p;p;ck1", -1);
    }

    private static void betweenClauses() {
        coast(";", 0);
        coast(";p;p;c", 0);
        coast("p;;p;c", 2);
        coast("pp", 1);
        coast("p p", 2);
        coast("p;p,c", 3);
        coastTooEarly("p;p;c;");
        coastTooEarly("p;p;c; ");
        coast("p;p;c;;", 6);
        coast("p;p;c;z", 6);
        String full = many(6, "p") + ";" + many(6, "c") + ";s";
        coast(full + "z", full.length());
        coast(full + ";p", full.length() + 1);
        coast(full + ";c", full.length() + 1);
        coast(full + ";s", full.length() + 1);
    }

    private static void eachByteThatCannotBe() {
        for (char one = 1; one <= 255; one++) {
            boolean blank = one == ' ';
            coast("" + one, blank || "spc".indexOf(one) >= 0 ? 1 : 0);
            coast("s" + one, blank || one == ';' || OF_RULES.indexOf(one) >= 0 ? 2 : 1);
            coast("p" + one, blank || one == ';' || OF_PERSON.indexOf(one) >= 0 ? 2 : 1);
            coast("c" + one, blank || one == ';' || OF_SECRET.indexOf(one) >= 0 ? 2 : 1);
            boolean digit = one >= '0' && one <= '9';
            coast("so" + one, blank || digit ? 3 : 2);
            coast("so1" + one, blank || digit || one == ';' || "whkv".indexOf(one) >= 0 ? 4 : 3);
            coast("so12" + one, blank || one == ';' || "whkv".indexOf(one) >= 0 ? 5 : 4);
            coast("p;p;c;" + one, blank || one == 'p' || one == 'c' || one == 's' ? one == ' ' ? 7 : -1 : 6);
        }
    }

    // ---- promise 4: a COAST as a whole

    private static void coastWholes() {
        CHECK.sentence("Terms 1", "with fewer than two PERSONS", BoundaryTextsTest::fewerThanTwoPersons);
        CHECK.sentence("Terms 1", "without a SECRET", BoundaryTextsTest::withoutASecret);
        CHECK.sentence("Terms 1", "with a PERSON or a SHED out of the COAST", BoundaryTextsTest::personOut);
        CHECK.sentence("Terms 1", "with a PERSON or a SHED out of the COAST", BoundaryTextsTest::shedOut);
        CHECK.sentence("Terms 1", "with a SECRET of one that is not told", BoundaryTextsTest::ofOneNotTold);
        CHECK.sentence("Terms 1", "the length, if it ends too early", BoundaryTextsTest::endsTooEarly);
    }

    private static void fewerThanTwoPersons() {
        coastTooEarly("c");
        coastTooEarly("p;c");
        coastTooEarly("p;c  ");
        coast("p;p;c", -1);
    }

    private static void withoutASecret() {
        coastTooEarly("s");
        coastTooEarly("p;p");
        coastTooEarly("p;p  ");
        coast("p;p;c", -1);
    }

    private static void inOrOut(String rules, String other, boolean in) {
        String ahead = rules + ";" + other + ";p;c";
        String behind = other + ";p;c;" + rules + " ";
        coast(ahead + ";p", in ? -1 : ahead.length() + 2);
        coast(behind, in ? -1 : behind.length());
    }

    private static void personOut() {
        for (int wide = 2; wide <= 6; wide++) {
            for (int x = 0; x <= 5; x++) {
                inOrOut("sw" + wide, "px" + x, x < wide);
                inOrOut("sw" + wide, "p;p;px" + x, x < wide);
            }
        }
        for (int rows = 2; rows <= 5; rows++) {
            for (int y = 0; y <= 4; y++) {
                inOrOut("sh" + rows, "py" + y, y < rows);
            }
        }
        inOrOut("s", "px4y3", true);
        inOrOut("s", "px5", false);
        inOrOut("s", "py4", false);
        inOrOut("sw6h5", "p;p;p;px5y4", true);
    }

    private static void shedOut() {
        for (int wide = 2; wide <= 6; wide++) {
            for (int x = 0; x <= 5; x++) {
                inOrOut("sw" + wide, "cx" + x + ";p", x < wide);
                inOrOut("sw" + wide, "c;c;cx" + x + ";p", x < wide);
            }
        }
        for (int rows = 2; rows <= 5; rows++) {
            for (int y = 0; y <= 4; y++) {
                inOrOut("sh" + rows, "cy" + y + ";p", y < rows);
            }
        }
        inOrOut("s", "cx4y3;p", true);
        inOrOut("s", "cx5;p", false);
        inOrOut("s", "cy4;p", false);
        inOrOut("sw6h5", "c;c;c;c;cx5y4;p", true);
    }

    private static void ofOneNotTold() {
        for (int persons = 2; persons <= 6; persons++) {
            for (int a = 0; a <= 5; a++) {
                String behind = "ca" + a + ";" + many(persons, "p");
                coast(behind, a < persons ? -1 : behind.length());
                String ahead = many(persons, "p") + ";c;ca" + a;
                coast(ahead, a < persons ? -1 : ahead.length());
            }
        }
        coast("ca5;p;p;c;p;p;p;p", -1);
    }

    private static void endsTooEarly() {
        coastTooEarly("");
        coastTooEarly("     ");
        coastTooEarly("sw2;px5;p;c");
        coastTooEarly("p;p;ca5   ");
        coast("sw2;px5;p;c;z", 12);
        coast("p;p;ca5;cx1x", 11);
        coastTooEarly("s;p;p;ca");
        String full = "sw2;p;p;c" + " ".repeat(231);
        coast(full, -1);
        coastTooEarly("sw2;p;p;cx5" + " ".repeat(229));
    }

    // ---- promise 4: LAWS

    private static void lawFaults() {
        CHECK.sentence("Terms 1", "TEXTS: CLAUSES with ; between, one at least: y, : , perhaps CONDITION ?, then SUM.",
            BoundaryTextsTest::oneClauseAtLeast);
        CHECK.sentence("Terms 1", "perhaps CONDITION ?, then SUM", BoundaryTextsTest::perhapsACondition);
        CHECK.sentence("Terms 1", "UNIT: ! UNIT, ( CONDITION ), or SUM, one of = < >, SUM", BoundaryTextsTest::units);
        CHECK.sentence("Terms 1", "ATOM: a number (1 to 4 digits), a letter (k f n v t o), [ SUM ]",
            BoundaryTextsTest::atoms);
        CHECK.sentence("Terms 1", "A CLAUSE that goes on with ! or ( behind its : has a CONDITION.",
            BoundaryTextsTest::goesOnWithACondition);
        CHECK.sentence("Terms 1", "At most six of ( [ ! within one another.", BoundaryTextsTest::sixAtMost);
        CHECK.sentence("Terms 1", "a seventh of ( [ ! at it", BoundaryTextsTest::seventhAtIt);
        CHECK.sentence("Terms 1", "within one another", BoundaryTextsTest::sideBySideDoesNotCount);
        CHECK.sentence("Terms 1", "the first byte at which no such TEXT can go on",
            BoundaryTextsTest::eachByteThatNoLawHas);
        CHECK.sentence("Terms 1", "Blanks (32) may stand between all signs of both, not within numbers.",
            BoundaryTextsTest::blanksInLaws);
    }

    private static void oneClauseAtLeast() {
        lawTooEarly("");
        lawTooEarly("   ");
        lawTooEarly("y");
        lawTooEarly("y:");
        law(";", 0);
        law(":", 0);
        law("k", 0);
        law("yk", 1);
        law("y;", 1);
        law("yy", 1);
        law("y::", 2);
        law("y:;", 2);
        law("y:0", -1);
        law("y:k;y:f", -1);
        law("y:kf", 3);
        law("y:k y:f", 4);
        lawTooEarly("y:k;");
        lawTooEarly("y:k; ");
        lawTooEarly("y:k;y");
        lawTooEarly("y:k;y:");
        law("y:k;;", 4);
        law("y:k;k", 4);
        law(many(60, "y:k"), -1);
        lawTooEarly(many(60, "y:k") + ";");
    }

    private static void perhapsACondition() {
        law("y:k=1?2", -1);
        lawTooEarly("y:k=");
        lawTooEarly("y:k=1");
        lawTooEarly("y:k=1&");
        lawTooEarly("y:k=1|");
        lawTooEarly("y:k=1?");
        law("y:k=1;", 5);
        law("y:k=1?;", 6);
        law("y:k=1??", 6);
        law("y:k=1?!", 6);
        law("y:k=1?(", 6);
        law("y:k=1?2=", 7);
        law("y:k=1?2?", 7);
        law("y:k=1?2&", 7);
        law("y:k?", 3);
        law("y:k&", 3);
        law("y:k|", 3);
        law("y:k!", 3);
        law("y:?", 2);
        law("y:=", 2);
    }

    private static void units() {
        law("y:k=1?1", -1);
        law("y:k<1?1", -1);
        law("y:k>1?1", -1);
        law("y:k==1", 4);
        law("y:k<=1", 4);
        law("y:k<>1", 4);
        law("y:k=1=1", 5);
        law("y:k<1>1", 5);
        law("y:k=1&n?", 7);
        law("y:k=1|n?", 7);
        law("y:k=1&&", 6);
        law("y:k=1|&", 6);
        law("y:k=!", 4);
        law("y:k=(", 4);
        law("y:()", 3);
        lawTooEarly("y:!");
        lawTooEarly("y:(");
        lawTooEarly("y:(k=1");
        law("y:(k=1]", 6);
        law("y:(k=1?", 6);
        law("y:(k=1)&(n=1)|!v=1?2", -1);
    }

    private static void atoms() {
        for (String number : new String[] {"0", "9", "00", "99", "000", "999", "0000", "9999"}) {
            law("y:" + number, -1);
            law("y:k+" + number + "*[" + number + "]", -1);
        }
        for (char letter : "kfnvto".toCharArray()) {
            law("y:" + letter, -1);
            law("y:" + letter + letter, 3);
            law("y:1" + letter, 3);
            law("y:" + letter + "1", 3);
        }
        law("y:[]", 3);
        law("y:[k)", 4);
        law("y:[k=1]", 4);
        law("y:[!", 3);
        law("y:[(", 3);
        lawTooEarly("y:[");
        lawTooEarly("y:[k");
        law("y:k]", 3);
        law("y:k)", 3);
        law("y:[k]]", 5);
        law("y:-1", 2);
        law("y:+1", 2);
        law("y:1--1", 4);
        law("y:1*/1", 4);
        for (char sign : "+-*/".toCharArray()) {
            law("y:k" + sign + "1", -1);
            lawTooEarly("y:k" + sign);
            law("y:k" + sign + ";", 4);
        }
    }

    private static void goesOnWithACondition() {
        lawTooEarly("y:(k=1)");
        law("y:(k=1);", 7);
        law("y:(k=1)+1", 7);
        law("y:(k=1)=1", 7);
        law("y:(k)", 4);
        law("y:(k);", 4);
        lawTooEarly("y:!k=1");
        law("y:!k=1;", 6);
        law("y:!k;", 4);
        law("y:!k?", 4);
        law("y:(k=1)?1", -1);
        law("y:!k=1?1", -1);
        law("y: (k=1)?1", -1);
        law("y: !k=1?1", -1);
    }

    private static void sixAtMost() {
        law("y:((((((k=1))))))?1", -1);
        law("y:!!!!!!k=1?1", -1);
        law("y:[[[[[[k]]]]]]", -1);
        law("y:k=[[[[[[k]]]]]]?1", -1);
        law("y:k=1?[[[[[[k]]]]]]", -1);
        law("y:!(!(![k]=1))?1", -1);
        law("y:((([[[k]]]=1)))?1", -1);
        law("y:!!!!!![k=1", 8);
        law("y:!!!!![k]=1?1", -1);
        law("y:!!!!!(k=1)?1", -1);
    }

    private static void seventhAtIt() {
        law("y:(((((((", 8);
        law("y:!!!!!!!", 8);
        law("y:[[[[[[[", 8);
        law("y:!!!!!!!k=1?1", 8);
        law("y:(((((((k=1)))))))?1", 8);
        law("y:[[[[[[[k]]]]]]]", 8);
        law("y:((((((!", 8);
        law("y:(((((([", 8);
        law("y:!!!!!!(", 8);
        law("y:!!!!!![", 8);
        law("y:!!!!!!k=[", 10);
        law("y:((((((k=1&!", 12);
        law("y:((((((k=1&(", 12);
        law("y:((((((k=1&n=1)&((", 18);
        law("y:(((((k=1&!k=1|!(", 17);
        law("y:k=1?[[[[[[[", 12);
        law("y:k=[[[[[[  [", 12);
        law("y:k+[[[[[[k+[", 12);
        law("y:!(![!", 6);
        law("y:!(!([([", 7);
        law("y:!(!(![[", 8);
    }

    private static void sideBySideDoesNotCount() {
        law("y:" + String.join("+", Collections.nCopies(20, "[k]")), -1);
        law("y:" + String.join("&", Collections.nCopies(20, "(k=1)")) + "?1", -1);
        law("y:" + String.join("|", Collections.nCopies(20, "!k=1")) + "?1", -1);
        law("y:[[[[[[k]]]]]]*[[[[[[k]]]]]]+[[[[[[k]]]]]]", -1);
        law("y:!!!!!!k=1&!!!!!!k=1|!!!!!!k=1?1", -1);
        law("y:!!!!!!k=1&[k]=1?1", -1);
        law("y:((((((k=1))))))&((((((k=1))))))?1", -1);
        law("y:(((((k=1&!n=1|!v=1)))))?1", -1);
        law("y:((((((k=1)&(n=1))))))?1", -1);
        law("y:((((((k=1))))))?[[[[[[k]]]]]];y:!!!!!!k=1?1", -1);
    }

    private static void eachByteThatNoLawHas() {
        for (char one = 1; one <= 255; one++) {
            boolean blank = one == ' ';
            boolean digit = one >= '0' && one <= '9';
            boolean atom = blank || digit || one == '[' || "kfnvto".indexOf(one) >= 0;
            law("" + one, blank || one == 'y' ? 1 : 0);
            law("y" + one, blank || one == ':' ? 2 : 1);
            boolean good = digit || "kfnvto".indexOf(one) >= 0;
            law("y:" + one, good ? -1 : atom || one == '!' || one == '(' ? 3 : 2);
            law("y:k=" + one, atom ? 5 : 4);
            law("y:k=1?" + one, good ? -1 : atom ? 7 : 6);
            law("y:k" + one, blank ? -1 : "=<>+-*/;".indexOf(one) >= 0 ? 4 : 3);
            law("y:k=1" + one, blank || digit || "+-*/&|?".indexOf(one) >= 0 ? 6 : 5);
            law("y:[1" + one, blank || digit || "+-*/]".indexOf(one) >= 0 ? one == ']' ? -1 : 5 : 4);
            law("y:1234" + one, blank ? -1 : "=<>+-*/;".indexOf(one) >= 0 ? 7 : 6);
        }
    }

    private static void blanksInLaws() {
        law(" y : ! ( k = 1 | n < 22 & v > 3 ) ? [ 4 + 5 ] * 6 - 7 / 8 ; y : 9999 ", -1);
        law("y:1 2", 4);
        law("y:12 3?", 5);
        law("y:99 99", 5);
        lawTooEarly(" y");
        lawTooEarly("y: ");
        law("y:k ", -1);
        law("y:k  z", 5);
    }

    // ---- promise 5

    private static void texts() {
        CHECK.sentence("5 text", "how many CELLS", BoundaryTextsTest::howManyCells);
        CHECK.sentence("Terms 1", "5 without", BoundaryTextsTest::withoutItems);
        CHECK.sentence("5 text", "The TAPE (empty then)", BoundaryTextsTest::tapeEmptyThen);
        CHECK.sentence("5 text", "NONE: a FAULT, no such sort, there are four LAWS.",
            BoundaryTextsTest::textWithAFault);
        CHECK.sentence("5 text", "NONE: a FAULT, no such sort, there are four LAWS.",
            BoundaryTextsTest::textOfNoSuchSort);
        CHECK.sentence("Terms 1", "LAWS (4 at most)", BoundaryTextsTest::fourLaws);
        CHECK.sentence("5 text", "all that was of another one, NOTED, too, is gone", BoundaryTextsTest::anotherCoast);
        CHECK.sentence("5 text", "but LAWS, which holds, GUSTS, STATUS", BoundaryTextsTest::whatStays);
    }

    private static void howManyCells() {
        for (int wide = 2; wide <= 6; wide++) {
            for (int rows = 2; rows <= 5; rows++) {
                SmokedSecrets x = new SmokedSecrets();
                due(wide + " by " + rows, wide * rows, Tell.text(x, 0, "sw" + wide + "h" + rows + ";p;p;c"));
                due("count", wide * rows, x.count(0));
                due("the last CELL", 0, x.air(wide * rows - 1));
                due("none behind it", -1, x.air(wide * rows));
            }
        }
    }

    private static void withoutItems() {
        SmokedSecrets x = Tell.coast("p;p;c");
        int[] rules = {5, 4, 30, 20};
        for (int i = 0; i < 4; i++) {
            due("rule " + i, rules[i], x.rule(i));
        }
        due("WIND", 1, x.most(11));
        due("where", 0, Tell.person(x, 1, 0));
        due("NOSE", 3, Tell.person(x, 1, 1));
        int[] secret = {0, 3, 0, 0, 0, 0, 1};
        for (int i = 0; i < 7; i++) {
            due("secret " + i, secret[i], x.secret(0, i));
        }
        x = Tell.coast("sw6h5o99k99v3;p;px5y4n9;ca1k9x5y4");
        int[] most = {6, 5, 99, 99};
        for (int i = 0; i < 4; i++) {
            due("most rule " + i, most[i], x.rule(i));
        }
        due("most WIND", 3, x.most(11));
        due("most where", 29, Tell.person(x, 1, 0));
        due("most NOSE", 9, Tell.person(x, 1, 1));
        int[] mostSecret = {1, 9, 29, 0, 0, 0, 2};
        for (int i = 0; i < 7; i++) {
            due("most secret " + i, mostSecret[i], x.secret(0, i));
        }
        x = Tell.coast("sw2h2o0k0v0;pn1;p;ck1");
        int[] least = {2, 2, 0, 0};
        for (int i = 0; i < 4; i++) {
            due("least rule " + i, least[i], x.rule(i));
        }
        due("least WIND", 0, x.most(11));
        due("least NOSE", 1, Tell.person(x, 0, 1));
        due("least HEAVY", 1, x.secret(0, 1));
    }

    private static void tapeEmptyThen() {
        SmokedSecrets x = new SmokedSecrets();
        Tell.feed(x, "p;p;c");
        x.text(0);
        due("behind a COAST", 0, x.count(4));
        due("fault of nothing", 0, x.fault(0));
        due("text of nothing", -1, x.text(0));
        due("a LAW of nothing", -1, x.text(1));
        Tell.feed(x, "y:k");
        x.text(1);
        due("behind a LAW", 0, x.count(4));
        due("one LAW", 1, x.count(3));
    }

    private static void textWithAFault() {
        SmokedSecrets x = Tell.coast("sw3h3;p;p;c");
        x.nights(2);
        for (String text : new String[] {"", " ", "p;p", "p;c", "p;p;c;", "p;p;cx5", "p;px5;c", "p;p;ca2", "sw7;p;p;c"}) {
            due("text(0) of '" + text + "'", -1, Tell.text(x, 0, text));
            due("the TAPE stays", text.length(), x.count(4));
        }
        for (String text : new String[] {"", " ", "y", "y:", "y:k;", "y:k=1", "y:12345", "p;p;c"}) {
            due("text(1) of '" + text + "'", -1, Tell.text(x, 1, text));
            due("the TAPE stays", text.length(), x.count(4));
        }
        due("the COAST stays", 9, x.count(0));
        due("the NIGHT stays", 2, x.count(6));
        due("no LAW", 0, x.count(3));
    }

    private static void textOfNoSuchSort() {
        SmokedSecrets x = new SmokedSecrets();
        Tell.feed(x, "p;p;c");
        for (int sort : new int[] {-1, 2, 3, Integer.MIN_VALUE, Integer.MAX_VALUE}) {
            due("text " + sort, -1, x.text(sort));
            due("the TAPE stays", 5, x.count(4));
        }
        due("no COAST", 0, x.count(0));
        due("text 0", 20, x.text(0));
    }

    private static void fourLaws() {
        SmokedSecrets x = Tell.coast("p;p;c");
        for (int i = 0; i < 4; i++) {
            due("LAW " + i, i, Tell.text(x, 1, "y:" + (i + 1)));
            due("LAWS", i + 1, x.count(3));
        }
        due("a fifth", -1, Tell.text(x, 1, "y:9"));
        due("still four", 4, x.count(3));
        due("the TAPE stays", 3, x.count(4));
        due("it has no FAULT", -1, x.fault(1));
        due("no fifth to hold", false, x.law(4));
        for (int i = 0; i < 4; i++) {
            due("LAW " + i + " holds", true, x.law(i));
            due("as it was told", i + 1, x.strength(0, 0));
        }
    }

    private static void anotherCoast() {
        SmokedSecrets x = Tell.coast("sw4h3o9k9v1;p;px1n1;px3n9;ca0k2;ca1k9y1");
        x.hang(0);
        x.hang(1);
        x.moves(0, 2);
        x.veers(2);
        x.veers(1);
        x.nights(3);
        x.noted(0, 0, true);
        x.image();
        due("another one", 12, Tell.text(x, 0, "sw4h3o9k9v1;p;px1n1;px3n9;ca0k2;ca1k9y1"));
        int[] want = {12, 3, 2, 0, 0, -1, 0, 5, 0, 0, 0};
        for (int i = 0; i < want.length; i++) {
            due("count " + i, want[i], x.count(i));
        }
        due("OAK", 9, x.rule(2));
        due("COINS", 9, x.rule(3));
        due("nothing HANGS", 0, x.most(5));
        due("nothing is CURED", 0, x.most(6));
        due("nothing SMOKED", 0, x.secret(0, 4) + x.secret(1, 4));
        due("no BREATH", 0, x.breath(0, 0) + x.breath(1, 0) + x.breath(2, 0) + x.breath(0, 1));
        due("who KNOWS", 1, x.secret(0, 6));
        due("where", 0, Tell.person(x, 0, 0));
        due("WIND", 1, x.most(11));
        due("LOG", -1, x.log(0, 0));
        due("no IMAGE", -1, x.back());
        due("no ACT", -1, x.undo());
        due("all HEAVY fit", 9, x.heavies(0, -1));
        Tell.text(x, 0, "p;p;c");
        due("a PERSON less", -77, Tell.person(x, 2, 0));
        due("a SECRET less", -1, x.secret(1, 0));
    }

    private static void whatStays() {
        SmokedSecrets x = new SmokedSecrets();
        x.hang(0);
        Tell.text(x, 1, "y:4");
        Tell.text(x, 1, "y:7");
        x.law(1);
        x.gusts(9);
        Tell.text(x, 0, "p;p;c");
        due("it holds", 7, x.strength(0, 0));
        x.nights(0);
        x.veers(1);
        x.give(50);
        for (int i = 0; i < 30; i++) {
            x.oak(30);
        }
        int poor = x.status(3);
        due("some were too few", true, poor > 0);
        Tell.text(x, 0, "p;p;c");
        due("LAWS", 2, x.count(3));
        due("which holds", 1, x.count(5));
        due("it holds still", 7, x.strength(0, 0));
        due("GUSTS", 9, x.count(7));
        int[] status = {1, 1, 1, poor, 0};
        for (int i = 0; i < 5; i++) {
            due("status " + i, status[i], x.status(i));
        }
    }

    // ---- promise 10

    private static void lawsThatHold() {
        CHECK.sentence("10 law", "The LAW that holds (NONE: none).", BoundaryTextsTest::noLawHolds);
        CHECK.sentence("10 law", "False: no such one.", BoundaryTextsTest::noSuchLaw);
        CHECK.sentence("Terms 2", "by the LAW that holds, held within 0 .. 9 (none at first: how HEAVY less f)",
            BoundaryTextsTest::noneAtFirst);
    }

    private static void noLawHolds() {
        SmokedSecrets x = new SmokedSecrets();
        due("none of none", true, x.law(-1));
        due("none", -1, x.count(5));
        Tell.text(x, 1, "y:7");
        due("told, it does not hold yet", -1, x.count(5));
        due("law 0", true, x.law(0));
        due("0", 0, x.count(5));
        due("law 0 again", true, x.law(0));
        due("none again", true, x.law(-1));
        due("none", -1, x.count(5));
    }

    private static void noSuchLaw() {
        SmokedSecrets x = new SmokedSecrets();
        due("0 of none", false, x.law(0));
        Tell.text(x, 1, "y:7");
        Tell.text(x, 1, "y:8");
        x.law(1);
        for (int law : new int[] {-2, -3, 2, 3, 4, 5}) {
            due("law " + law, false, x.law(law));
            due("1 holds still", 1, x.count(5));
        }
        for (int law : FAR) {
            due("law " + law, false, x.law(law));
        }
        Tell.text(x, 0, "p;p;c");
        due("1 holds still", 8, x.strength(0, 0));
        due("the first", true, x.law(0));
        due("0 holds", 7, x.strength(0, 0));
        due("no STATUS", 0, x.status(0) + x.status(1));
    }

    private static void noneAtFirst() {
        SmokedSecrets x = Tell.coast("sw6h2;p;p;ck3");
        int[] want = {3, 2, 1, 0, 0, 0, 0};
        for (int i = 0; i < want.length; i++) {
            due("3 less " + i, want[i], x.strength(0, i));
        }
        Tell.text(x, 1, "y:9");
        due("a LAW told does not hold", 3, x.strength(0, 0));
        x.law(0);
        due("it holds", 9, x.strength(0, 3));
        x.law(-1);
        due("none holds", 0, x.strength(0, 3));
    }

    // ---- WORTH

    /** WORTH by hand: HEAVY 3, two CELLS off, OAK 9, WIND 1, NIGHT 0, SMOKED 0. */
    private static void worth(String law, int want) {
        SmokedSecrets x = Tell.coast("sw4h3o9k9v1;p;p;ca0k3");
        Tell.obey(x, law);
        due(law, want, x.strength(0, 2));
    }

    private static void holds(String condition, boolean want) {
        worth("y:" + condition + "?7;y:4", want ? 7 : 4);
    }

    private static void worths() {
        CHECK.sentence("Terms 1", "Behind each sign numbers are within -1,000,000 .. 1,000,000",
            BoundaryTextsTest::withinAMillion);
        CHECK.sentence("Terms 1", "Behind each sign numbers are within -1,000,000 .. 1,000,000",
            BoundaryTextsTest::withinAMillionBelow);
        CHECK.sentence("Terms 1", "Behind each sign numbers are within -1,000,000 .. 1,000,000",
            BoundaryTextsTest::noWrapAround);
        CHECK.sentence("Terms 1", "/ cuts towards 0", BoundaryTextsTest::cutsTowardsZero);
        CHECK.sentence("Terms 1", "by 0 gives 0", BoundaryTextsTest::byZeroGivesZero);
        CHECK.sentence("Terms 1", "the SUM of the first CLAUSE whose CONDITION holds (or has none)",
            BoundaryTextsTest::firstThatHolds);
        CHECK.sentence("Terms 1", "0 without", BoundaryTextsTest::withoutOneThatHolds);
        CHECK.sentence("Terms 2", "held within 0 .. 9", BoundaryTextsTest::heldWithin);
        CHECK.sentence("Terms 1", "UNIT: ! UNIT, ( CONDITION ), or SUM, one of = < >, SUM",
            BoundaryTextsTest::comparesAtTheEdge);
        CHECK.sentence("Terms 1", "CONDITION: TRUTHS with | between; TRUTH: UNITS with & between",
            BoundaryTextsTest::truths);
        CHECK.sentence("Terms 1", "SUM: TERMS with + or - between; TERM: ATOMS with * or / between",
            BoundaryTextsTest::sums);
        CHECK.sentence("Terms 2", "letters: k HEAVY, f as told, n how many NIGHTS it SMOKED already, v the WIND",
            BoundaryTextsTest::letters);
        CHECK.sentence("Terms 2", "t the NIGHT modulo 100", BoundaryTextsTest::nightModuloHundred);
        CHECK.sentence("Terms 2", "o OAK (throughout a NIGHT: what there was as it began)",
            BoundaryTextsTest::oakThroughout);
        CHECK.sentence("Terms 2", "n how many NIGHTS it SMOKED already", BoundaryTextsTest::smokedAlready);
    }

    private static void withinAMillion() {
        holds("1000*1000=9999*9999", true);
        holds("999*1001+1=1000*1000", true);
        holds("999*1001<1000*1000", true);
        holds("1001*1000=1000*1000", true);
        holds("1000*1000+1=1000*1000", true);
        holds("1000*1000+1-1<1000*1000", true);
        holds("1000*1000-1<1000*1000", true);
        holds("1000*1000+1000*1000=1000*1000", true);
        holds("[1000*1000+5]-1000*1000=0", true);
        holds("1000*1000*2/2=1000*1000", false);
        worth("y:9999*9999/9999", 9);
        worth("y:9999*9999/9999/20", 5);
        worth("y:[9999*9999-1000*999]/200", 5);
    }

    private static void withinAMillionBelow() {
        holds("0-1000*1000=0-9999*9999", true);
        holds("[0-9999]*9999=0-1000*1000", true);
        holds("0-1000*1000-1=0-1000*1000", true);
        holds("0-999*1001-1=0-1000*1000", true);
        holds("0-999*1001>0-1000*1000", true);
        holds("0-1000*1000-1+1>0-1000*1000", true);
        holds("0-1000*1000-1000*1000+1000*1000=0", true);
        holds("0-1000*1000+1>0-1000*1000", true);
        worth("y:[0-1000*1000]*9/[0-1000*1000]", 1);
    }

    private static void noWrapAround() {
        holds("1000*1000*[1000*1000]=1000*1000", true);
        holds("[0-1000*1000]*[1000*1000]=0-1000*1000", true);
        holds("[0-1000*1000]*[0-1000*1000]=1000*1000", true);
        holds("9999*9999*9999*9999*9999=1000*1000", true);
        holds("2147*1000*1000+2*1000*1000>0", true);
        holds("[0-1000*1000]/[0-1]=1000*1000", true);
    }

    private static void cutsTowardsZero() {
        worth("y:7/2", 3);
        worth("y:[0-7]/2+9", 6);
        worth("y:7/[0-2]+9", 6);
        worth("y:[0-7]/[0-2]", 3);
        worth("y:[0-1]/2+5", 5);
        worth("y:1/2+5", 5);
        worth("y:1/[0-2]+5", 5);
        worth("y:8/2", 4);
        worth("y:[0-8]/2+9", 5);
        worth("y:9/2*2", 8);
        worth("y:0/5+1", 1);
    }

    private static void byZeroGivesZero() {
        worth("y:5/0+1", 1);
        worth("y:0/0+1", 1);
        worth("y:[0-5]/0+1", 1);
        worth("y:5/[k-3]+2", 2);
        worth("y:5/n+3", 3);
        worth("y:4/0*0+4/1", 4);
        worth("y:9999*9999/0+1", 1);
        SmokedSecrets x = Tell.coast("sw4h2;p;p;ck3");
        Tell.obey(x, "y:k/f+1");
        int[] want = {1, 4, 2, 2};
        for (int i = 0; i < 4; i++) {
            due("3 by " + i, want[i], x.strength(0, i));
        }
        holds("5/0=0", true);
    }

    private static void firstThatHolds() {
        worth("y:5;y:6", 5);
        worth("y:k=3?5;y:k=3?6", 5);
        worth("y:k=2?5;y:6;y:7", 6);
        worth("y:k=2?5;y:k=3?6;y:7", 6);
        worth("y:k=2?5;y:k=1?6;y:k=3?8", 8);
        worth("y:k=2?9;y:k=1?9;y:7", 7);
        worth("y:k=3?0;y:7", 0);
        worth("y:0;y:7", 0);
    }

    private static void withoutOneThatHolds() {
        worth("y:k=2?9", 0);
        worth("y:k=2?9;y:k=4?9;y:f=0?9", 0);
        worth("y:!k=3?9", 0);
    }

    private static void heldWithin() {
        worth("y:0-1", 0);
        worth("y:0-9999*9999", 0);
        worth("y:0", 0);
        worth("y:1", 1);
        worth("y:8", 8);
        worth("y:9", 9);
        worth("y:10", 9);
        worth("y:9999*9999", 9);
        SmokedSecrets x = Tell.coast("sw2h2o9;p;pn9;ca0k9");
        Tell.obey(x, "y:0-5");
        x.hang(0);
        due("no AIR below 0", 0, x.air(0));
        due("no smell below 0", 0, x.smells(0));
        x = Tell.coast("sw2h2o9;p;px1n9;ca0k9");
        Tell.obey(x, "y:99");
        x.hang(0);
        x.nights(1);
        due("BREATH of 9 at most a NIGHT", 9, x.breath(1, 0));
        due("AIR of 9 at most", 9, x.air(0));
    }

    private static void comparesAtTheEdge() {
        holds("k=3", true);
        holds("k=2", false);
        holds("k=4", false);
        holds("k<3", false);
        holds("k<4", true);
        holds("k<2", false);
        holds("k>3", false);
        holds("k>2", true);
        holds("k>4", false);
        holds("0-k<0", true);
        holds("!k=3", false);
        holds("!k=2", true);
        holds("!!k=3", true);
        holds("!!!!!!k=3", true);
        holds("!!!!!k=3", false);
        holds("((((((k=3))))))", true);
        holds("!(k=3)", false);
    }

    private static void truths() {
        holds("k=3&f=2", true);
        holds("k=3&f=1", false);
        holds("k=2&f=2", false);
        holds("k=2&f=1", false);
        holds("k=3|f=1", true);
        holds("k=2|f=2", true);
        holds("k=2|f=1", false);
        holds("k=3|k=2&f=1", true);
        holds("f=1&k=2|k=3", true);
        holds("(k=3|k=2)&f=1", false);
        holds("!k=2&f=2", true);
        holds("!k=3&f=1", false);
        holds("!k=3|f=2", true);
        holds("!(k=3|f=2)", false);
        holds("k=3&f=2&v=1&o=9", true);
        holds("k=3&f=2&v=1&o=8", false);
        holds("k=0|f=0|v=0|o=9", true);
        holds("k<4&f=2", true);
        holds("f=2&k<4", true);
        holds("k>2&f=2", true);
        holds("k<4&k>2", true);
        holds("k<4&k>2&!k<3&(k<9|f=0)", true);
        holds("!k<4|f=1", false);
        holds("!k>2|f=1", false);
    }

    private static void sums() {
        worth("y:9-3-2", 4);
        worth("y:2+3*2", 8);
        worth("y:[2+2]*2", 8);
        worth("y:8/4/2", 1);
        worth("y:8/[4/2]", 4);
        worth("y:9-[3-2]", 8);
        worth("y:2*3-1", 5);
        worth("y:1+8/4*3", 7);
        worth("y:0009", 9);
        worth("y:9999-9998", 1);
        worth("y:[[[[[[7]]]]]]", 7);
    }

    private static void letters() {
        worth("y:k", 3);
        worth("y:f", 2);
        worth("y:n", 0);
        worth("y:v", 1);
        worth("y:t", 0);
        worth("y:o", 9);
        SmokedSecrets x = Tell.coast("sw6h5o99v0;p;p;ck9x5y4");
        Tell.obey(x, "y:v*2+f");
        due("up, four off", 4, x.strength(0, 5));
        x.veers(3);
        due("to the left, five off", 9, x.strength(0, 24));
        due("to the left, in its SHED", 6, x.strength(0, 29));
        x.veers(2);
        due("down, in its SHED", 4, x.strength(0, 29));
        Tell.obey(x, "y:o/11");
        due("OAK 99", 9, x.strength(0, 29));
        Tell.obey(x, "y:k");
        due("HEAVY 9", 9, x.strength(0, 29));
    }

    private static void nightModuloHundred() {
        SmokedSecrets x = Tell.coast("sw2h2o0;p;p;c");
        Tell.obey(x, "y:t>97?t-91;y:t");
        x.nights(60);
        x.nights(37);
        due("NIGHT 97", 9, x.strength(0, 0));
        x.nights(1);
        due("NIGHT 98", 7, x.strength(0, 0));
        x.nights(1);
        due("NIGHT 99", 8, x.strength(0, 0));
        x.nights(1);
        due("NIGHT 100", 0, x.strength(0, 0));
        x.nights(1);
        due("NIGHT 101", 1, x.strength(0, 0));
        for (int i = 0; i < 14; i++) {
            x.nights(60);
        }
        x.nights(58);
        due("NIGHT 999", 999, x.count(6));
        due("t 99", 8, x.strength(0, 0));
        x.undo();
        due("NIGHT 998", 7, x.strength(0, 0));
    }

    private static void oakThroughout() {
        SmokedSecrets x = Tell.coast("sw2h2o3;p;px1n9;ca0k9;ca0k9;ca0k9;ca0k9");
        Tell.obey(x, "y:o");
        for (int i = 0; i < 4; i++) {
            x.hang(i);
        }
        x.nights(1);
        due("the first", 3, x.breath(1, 0));
        due("the second", 3, x.breath(1, 1));
        due("the third, with the last OAK", 3, x.breath(1, 2));
        due("the fourth, without OAK", 0, x.breath(1, 3));
        due("OAK then", 0, x.rule(2));
        due("it shows then", 0, x.strength(0, 1));
    }

    private static void smokedAlready() {
        SmokedSecrets x = Tell.coast("sw2h2o9;p;px1n9;ca0k3");
        Tell.obey(x, "y:n+1");
        x.hang(0);
        due("at first", 1, x.strength(0, 1));
        x.nights(1);
        due("BREATH of the first NIGHT", 1, x.breath(1, 0));
        x.nights(1);
        due("BREATH of the second NIGHT", 3, x.breath(1, 0));
        x.hang(0);
        x.nights(2);
        due("it does not SMOKE", 3, x.strength(0, 1));
        x.hang(0);
        x.nights(1);
        due("BREATH of the third NIGHT it SMOKES", 6, x.breath(1, 0));
        due("it is CURED", 1, x.secret(0, 5));
    }
}
