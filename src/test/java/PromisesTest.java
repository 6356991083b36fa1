/** Each promise by hand: ordinary inputs, the edges that the document names, wrong inputs. */
public final class PromisesTest {
    private static final Check CHECK = new Check("PromisesTest");

    /** Four wide, three ROWS, the WIND to the right; SECRET 0 smokes over the first ROW, where 0 and 1 live. */
    private static final String SMALL = "sw4h3o9k9v1;p;px2n2;px3y1n4;ca0k3;ca1k2x1;ca2k1x3y2";

    private PromisesTest() {
    }

    private static void due(String what, long want, long got) {
        CHECK.due(what, want, got);
    }

    private static void due(String what, boolean want, boolean got) {
        CHECK.due(what, want, got);
    }

    private static SmokedSecrets small() {
        return Tell.coast(SMALL);
    }

    public static void main(String[] args) {
        newObject();
        tape();
        faults();
        texts();
        told();
        lawsHold();
        nightsGo();
        tables();
        breathEnds();
        hanging();
        veering();
        moving();
        buying();
        giving();
        years();
        undoing();
        longUndoing();
        smelling();
        foreseeing();
        keeping();
        noting();
        worthwhile();
        goingOut();
        games();
        odds();
        shares();
        most();
        images();
        counting();
        CHECK.end();
    }

    /** Promise 1. */
    private static void newObject() {
        SmokedSecrets x = new SmokedSecrets();
        int[] want = {0, 0, 0, 0, 0, -1, 0, 5, 0, 0, 0};
        for (int i = 0; i < want.length; i++) {
            due("new count " + i, want[i], x.count(i));
        }
        due("new rule", -1, x.rule(0));
        due("new person", -77, Tell.person(x, 0, 0));
        due("new secret", -1, x.secret(0, 0));
        due("new breath", -1, x.breath(0, 0));
        due("new strength", -1, x.strength(0, 0));
        due("new smells", -1, x.smells(0));
        due("new air", -1, x.air(0));
        due("new soon", -1, x.soon(0, 0));
        due("new ready", -1, x.ready(0));
        due("new kept", -1, x.kept(0, 0, 1));
        due("new noted", -1, x.noted(0, 0, true));
        due("new heavies", -1, x.heavies(0, -1));
        due("new ask", -1, x.ask(0));
        due("new worthwhile", -1, x.worthwhile(1));
        due("new out", -1, x.out(0, 0));
        due("new game", -1000000, x.game(0, 1, 0, 0, 0));
        due("new rests", -1, x.rests(0, 1, -1));
        due("new odds", -1, x.odds(0, 0, 0, 0));
        due("new shares", -1, x.shares(0, 0));
        due("new most", -1, x.most(11));
        due("new image", -1, x.image());
        due("new back", -1, x.back());
        due("new undo", -1, x.undo());
        due("new log", -1, x.log(0, 0));
        due("new years", -1, x.years(1, 1));
        due("new nights", -1, x.nights(1));
        due("new hang", -1, x.hang(0));
        due("new veers", -1, x.veers(0));
        due("new moves", -1, x.moves(0, 0));
        due("new oak", -1, x.oak(1));
        due("new give", -1, x.give(1));
        due("new status 0", 6, x.status(0));
        due("new status 1", 0, x.status(1));
    }

    /** Promises 2 and 3. */
    private static void tape() {
        SmokedSecrets x = new SmokedSecrets();
        due("feed nothing", 0, x.feed(0, 0, 0, 0, 0));
        due("feed with gaps", 3, x.feed(0x70003b00, 0, 0x70, 0, 0));
        due("fault of p;p", 3, x.fault(0));
        due("feed on", 5, x.feed(0, 0, 0, 0x3b63, 0));
        due("fault of p;p;c", -1, x.fault(0));
        due("end below", false, x.end(-1));
        due("end beyond", false, x.end(6));
        due("end at the end", true, x.end(5));
        due("bytes", 5, x.count(4));
        due("end at four", true, x.end(4));
        due("fault of p;p;", 4, x.fault(0));
        due("end at none", true, x.end(0));
        for (int i = 1; i <= 12; i++) {
            due("feed " + i, 20 * i, x.feed(-1, -1, -1, -1, -1));
        }
        due("feed one too many", -1, x.feed(0, 0, 0, 0, 1));
        due("feed none more", 240, x.feed(0, 0, 0, 0, 0));
        due("a byte of 255 is a FAULT", 0, x.fault(0));
        x.end(239);
        due("feed two where one has room", -1, x.feed(0x0101, 0, 0, 0, 0));
        due("feed one in b, one in c", -1, x.feed(0, 1, 1, 0, 0));
        due("feed one in c, one in d", -1, x.feed(0, 0, 1 << 24, 1 << 16, 0));
        due("feed one in d, one in e", -1, x.feed(0, 0, 0, 1 << 8, -1 << 24));
        due("feed refused changes nothing", 239, x.count(4));
        due("feed the last one", 240, x.feed(0, 0, 1, 0, 0));
    }

    private static void fault(SmokedSecrets x, int sort, String text, int want) {
        due("fault(" + sort + ") of '" + text + "'", want, Tell.fault(x, sort, text));
    }

    /** Promise 4. */
    private static void faults() {
        SmokedSecrets x = new SmokedSecrets();
        due("fault 2", -2, x.fault(2));
        due("fault -1", -2, x.fault(-1));
        String[] coasts = {"p;p;c", " p ; p ; c a 1 k 09 ", "c;p;s w6h5o99k99v3;px5y4n9", SMALL};
        for (String coast : coasts) {
            fault(x, 0, coast, -1);
        }
        fault(x, 0, "", 0);
        fault(x, 0, "   ", 3);
        fault(x, 0, "p;c", 3);
        fault(x, 0, "p;p", 3);
        fault(x, 0, "p;p;c;", 6);
        fault(x, 0, "p;p;c; ", 7);
        fault(x, 0, "p;p;;c", 4);
        fault(x, 0, "p;p;ca2", 7);
        fault(x, 0, "p;p;ca2;p", -1);
        fault(x, 0, "p;px5;c", 7);
        fault(x, 0, "p;px5;c;sw6", -1);
        fault(x, 0, "p;p;cy4", 7);
        fault(x, 0, "sw1", 2);
        fault(x, 0, "sw12", 3);
        fault(x, 0, "sw123", 4);
        fault(x, 0, "sw001", 4);
        fault(x, 0, "sw02;p;p;c", -1);
        fault(x, 0, "sw7;p;p;c", 2);
        fault(x, 0, "sh6", 2);
        fault(x, 0, "sv4", 2);
        fault(x, 0, "so100", 4);
        fault(x, 0, "so1 0", 4);
        fault(x, 0, "pn0;p", 2);
        fault(x, 0, "pn10", 3);
        fault(x, 0, "ca6", 2);
        fault(x, 0, "ck0", 2);
        fault(x, 0, "cx6", 2);
        fault(x, 0, "px6;p;c", 2);
        fault(x, 0, "py5", 2);
        fault(x, 0, "cy5;p;p", 2);
        fault(x, 0, "px", 2);
        fault(x, 0, "px;", 2);
        fault(x, 0, "px1x1", 3);
        fault(x, 0, "pk1", 1);
        fault(x, 0, "pp", 1);
        fault(x, 0, "s;p;s", 4);
        fault(x, 0, "p;p;p;p;p;p;p", 12);
        fault(x, 0, "c;c;c;c;c;c;c", 12);
        fault(x, 0, "P", 0);
        String[] laws = {"y:k", " y : k ; y : 9999 ", "y:!k=1?2", "y:(k=1|n<2&o>3)?[k]", "y:[k]=1?2", "y:!!!!!!k=1?2",
            "y:((((((k=1))))))?2", "y:[[[[[[k]]]]]]", "y:k=[[[[[[k]]]]]]&!!!!!!k=1?2", "y:k-f+n*v/t-o"};
        for (String law : laws) {
            fault(x, 1, law, -1);
        }
        fault(x, 1, "", 0);
        fault(x, 1, "y", 1);
        fault(x, 1, "y:", 2);
        fault(x, 1, "y:a", 2);
        fault(x, 1, "y:k;", 4);
        fault(x, 1, "y:k=1", 5);
        fault(x, 1, "y:k=1;", 5);
        fault(x, 1, "y:k=1=", 5);
        fault(x, 1, "y:k?", 3);
        fault(x, 1, "y:k&", 3);
        fault(x, 1, "y:k=1?!", 6);
        fault(x, 1, "y:k=1?(", 6);
        fault(x, 1, "y:(k)", 4);
        fault(x, 1, "y:[k=1]", 4);
        fault(x, 1, "y:(k=1);", 7);
        fault(x, 1, "y:12345", 6);
        fault(x, 1, "y:00001", 6);
        fault(x, 1, "y:1 2", 4);
        fault(x, 1, "y:-k", 2);
        fault(x, 1, "y:!!!!!!!", 8);
        fault(x, 1, "y:(((((((", 8);
        fault(x, 1, "y:[[[[[[[", 8);
        fault(x, 1, "y:!(![!([", 6);
        fault(x, 1, "y:!(!([([", 7);
        fault(x, 1, "y:!(!(![[k]", 8);
    }

    /** Promise 5. */
    private static void texts() {
        SmokedSecrets x = new SmokedSecrets();
        due("text of nothing", -1, x.text(0));
        Tell.feed(x, "p;p;c");
        due("text 2", -1, x.text(2));
        due("text 1 of a COAST", -1, x.text(1));
        due("the TAPE stays", 5, x.count(4));
        due("text 0", 20, x.text(0));
        due("the TAPE is empty", 0, x.count(4));
        int[] without = {5, 4, 30, 20};
        for (int i = 0; i < 4; i++) {
            due("rule without " + i, without[i], x.rule(i));
        }
        due("nose without", 3, Tell.person(x, 0, 1));
        due("heavy without", 3, x.secret(0, 1));
        due("wind without", 1, x.most(11));
        for (int i = 0; i < 4; i++) {
            due("law " + i, i, Tell.text(x, 1, "y:" + i));
        }
        due("a fifth law", -1, Tell.text(x, 1, "y:k"));
        due("refused, the TAPE stays", 3, x.count(4));
        x.law(2);
        x.gusts(9);
        x.hang(5);
        x.hang(0);
        x.nights(2);
        x.noted(0, 0, true);
        x.image();
        due("text 0 again", 12, Tell.text(x, 0, SMALL));
        int[] want = {12, 3, 3, 4, 0, 2, 0, 9, 0, 0, 0};
        for (int i = 0; i < want.length; i++) {
            due("count behind another COAST " + i, want[i], x.count(i));
        }
        due("STATUS stays", 1, x.status(0));
        due("the IMAGE is gone", -1, x.back());
        due("nothing to undo", -1, x.undo());
        due("nothing hangs", 0, x.most(5));
        due("no BREATH", 0, x.breath(1, 0));
        due("the LAW holds still", 2, x.strength(0, 0));
        Tell.feed(x, "p;p");
        due("text with a FAULT", -1, x.text(0));
        due("the COAST stays", 12, x.count(0));
    }

    /** Promises 6, 7, 8, 9. */
    private static void told() {
        SmokedSecrets x = small();
        int[] rules = {4, 3, 9, 9};
        for (int i = 0; i < 4; i++) {
            due("rule " + i, rules[i], x.rule(i));
        }
        due("rule 4", -1, x.rule(4));
        due("rule -1", -1, x.rule(-1));
        int[][] persons = {{0, 3, 1}, {2, 2, 2}, {7, 4, 4}};
        for (int i = 0; i < 3; i++) {
            for (int j = 0; j < 3; j++) {
                due("person " + i + " " + j, persons[i][j], Tell.person(x, i, j));
            }
        }
        due("person 3", -77, Tell.person(x, 3, 0));
        due("person -1", -77, Tell.person(x, -1, 0));
        due("person what 3", -77, Tell.person(x, 0, 3));
        due("person what -1", -77, Tell.person(x, 0, -1));
        int[][] secrets = {{0, 3, 0, 0, 0, 0, 1}, {1, 2, 1, 0, 0, 0, 2}, {2, 1, 11, 0, 0, 0, 4}};
        for (int i = 0; i < 3; i++) {
            for (int j = 0; j < 7; j++) {
                due("secret " + i + " " + j, secrets[i][j], x.secret(i, j));
            }
        }
        due("secret 3", -1, x.secret(3, 0));
        due("secret -1", -1, x.secret(-1, 0));
        due("secret what 7", -1, x.secret(0, 7));
        due("secret what -1", -1, x.secret(0, -1));
        due("breath", 0, x.breath(0, 0));
        due("breath of 3", -1, x.breath(3, 0));
        due("breath of -1", -1, x.breath(-1, 0));
        due("breath of secret 3", -1, x.breath(0, 3));
        due("breath of secret -1", -1, x.breath(0, -1));
    }

    private static void worth(String law, int want) {
        SmokedSecrets x = small();
        Tell.obey(x, law);
        due(law, want, x.strength(0, 2));
    }

    /** Promise 10, and WORTH: HEAVY 3, two CELLS off, OAK 9, the WIND 1. */
    private static void lawsHold() {
        SmokedSecrets x = small();
        due("law none told", false, x.law(0));
        due("law none", true, x.law(-1));
        due("law -2", false, x.law(-2));
        due("a LAW told does not hold", 0, Tell.text(x, 1, "y:7"));
        due("none holds", -1, x.count(5));
        due("strength without", 1, x.strength(0, 2));
        due("law 0", true, x.law(0));
        due("law 0 again", true, x.law(0));
        due("strength by it", 7, x.strength(0, 2));
        due("law 1", false, x.law(1));
        due("law 4", false, x.law(4));
        due("it holds still", 0, x.count(5));
        due("law none again", true, x.law(-1));
        due("strength without again", 1, x.strength(0, 2));
        worth("y:k", 3);
        worth("y:f", 2);
        worth("y:n", 0);
        worth("y:v", 1);
        worth("y:t", 0);
        worth("y:o", 9);
        worth("y:o+1", 9);
        worth("y:k-9", 0);
        worth("y:9-3-2", 4);
        worth("y:2+3*2", 8);
        worth("y:[2+2]*2", 8);
        worth("y:9/2*2", 8);
        worth("y:[0-7]/2+9", 6);
        worth("y:5/0+1", 1);
        worth("y:9999*9999/9999/20", 5);
        worth("y:[0-9999*9999]/9999/20+6", 1);
        worth("y:[9999*9999+5]-9999*9999+1", 1);
        worth("y:9999*9999-9999*100-95", 5);
        worth("y:0-9999*9999+9999*100+105", 5);
        worth("y:k=2?4", 0);
        worth("y:k=2?4;y:5", 5);
        worth("y:k=3?4;y:5", 4);
        worth("y:k>3?4;y:k<3?5;y:k<4?6;y:7", 6);
        worth("y:!k=3?4;y:5", 5);
        worth("y:!(k=2|f=2)?4;y:5", 5);
        worth("y:k=3|k=2&f=1?4;y:5", 4);
        worth("y:(k=3|k=2)&f=1?4;y:5", 5);
        worth("y:k=3&f=2?4;y:5", 4);
        worth("y:k=3&f=1?4;y:5", 5);
        worth("y:k=1|f=2?4;y:5", 4);
        worth("y:!!k=3?4;y:5", 4);
        worth("y:[k]=3?4;y:5", 4);
        x = small();
        Tell.obey(x, "y:n*3+t");
        x.hang(0);
        due("n and t at first", 0, x.strength(0, 0));
        x.nights(1);
        due("n and t behind a NIGHT", 4, x.strength(0, 0));
        Tell.text(x, 1, "y:k=9?1;y:6");
        x.law(1);
        due("a second LAW", 6, x.strength(0, 0));
        // OAK as the NIGHT began, for the second that SMOKES too.
        x = small();
        Tell.obey(x, "y:o");
        x.hang(0);
        x.hang(1);
        x.nights(1);
        due("OAK throughout a NIGHT", 9, x.breath(1, 1));
        due("OAK behind it", 7, x.rule(2));
        // t is modulo 100
        x = Tell.coast("sw2h2o1;p;p;c");
        Tell.obey(x, "y:t>97?9;y:t");
        x.nights(60);
        x.nights(39);
        due("t of 99", 9, x.strength(0, 0));
        x.nights(1);
        due("t of 100", 0, x.strength(0, 0));
        x.nights(3);
        due("t of 103", 3, x.strength(0, 0));
    }

    /** Promises 11, 21. */
    private static void nightsGo() {
        SmokedSecrets x = small();
        due("nights 0", -1, x.nights(0));
        due("nights 61", -1, x.nights(61));
        due("status of them", 2, x.status(1));
        x.hang(0);
        x.hang(1);
        due("nights 1", 1, x.nights(1));
        int[][] breath = {{3, 0, 0}, {1, 1, 0}, {0, 0, 0}};
        for (int i = 0; i < 3; i++) {
            for (int j = 0; j < 3; j++) {
                due("breath " + i + " " + j, breath[i][j], x.breath(i, j));
            }
        }
        due("smoked", 1, x.secret(0, 4));
        due("log 0 0", 0, x.log(0, 0));
        due("log 0 1", 0, x.log(0, 1));
        due("log 0 2", 7, x.log(0, 2));
        due("coins", 7, x.rule(3));
        due("nights on", 2, x.nights(1));
        due("1 KNOWS it", 3, Tell.person(x, 1, 2));
        due("it is KNOWN", 3, x.secret(0, 6));
        due("log who", 2, x.log(0, 0));
        due("log cured", 1, x.log(0, 1));
        due("log oak", 5, x.log(0, 2));
        due("the one ahead", 7, x.log(1, 2));
        due("cured", 1, x.secret(1, 5));
        due("hangs no more", 0, x.secret(1, 3));
        due("coins for it", 9, x.rule(3));
        due("nights 3", 5, x.nights(3));
        due("both cured", 3, x.most(6));
        due("coins for both", 11, x.rule(3));
        due("oak for three and two", 4, x.rule(2));
        due("log 5", -1, x.log(5, 0));
        due("log -1", -1, x.log(-1, 0));
        due("log what 3", -1, x.log(0, 3));
        due("log what -1", -1, x.log(0, -1));
        due("log length", 5, x.count(9));
        for (int i = 0; i < 16; i++) {
            x.nights(60);
        }
        due("night", 965, x.count(6));
        due("log length at most", 60, x.count(9));
        due("log 59", 4, x.log(59, 2));
        due("log 60", -1, x.log(60, 2));
        due("beyond the last", -1, x.nights(35));
        due("status 4", 1, x.status(4));
        due("to the last", 999, x.nights(34));
        due("none behind it", -1, x.nights(1));
        due("status 4 again", 2, x.status(4));
        due("years none behind it", -1, x.years(1, 1));
        due("undone", 39, x.undo());
        due("years beyond it", -1, x.years(2, 1));
        due("no STATUS of them", 2, x.status(4));
        due("years to it", 999, x.years(1, 1));
        // OAK for the first alone
        x = Tell.coast("sw2h2o1;p;p;ck9;ck9");
        x.hang(0);
        x.hang(1);
        x.nights(2);
        due("the first SMOKES", 1, x.secret(0, 4));
        due("the second does not", 0, x.secret(1, 4));
        due("no OAK", 0, x.rule(2));
        due("it HANGS on", 3, x.most(5));
    }

    /** The TABLE (promise 11). */
    private static void tables() {
        SmokedSecrets x = Tell.coast("sw2h2o9;pn2;pn2;pn1;px1n1;ca0k2x1y1;ca3k1");
        x.nights(1);
        due("1 heard from 0", 1, x.breath(1, 0));
        due("2 heard from 0", 1, x.breath(2, 0));
        due("3 sits elsewhere", 0, x.breath(3, 0));
        due("0 KNOWS it", 0, x.breath(0, 0));
        due("2 KNOWS more", 4, x.log(0, 0));
        x.nights(1);
        due("1 heard from 0 and 2", 3, x.breath(1, 0));
        due("2 KNOWS and hears no more", 1, x.breath(2, 0));
        due("1 KNOWS more", 2, x.log(0, 0));
        // What is CURED in the NIGHT is told no more in it.
        x = Tell.coast("sw2h2o9;p;pn1;ca0k1x1");
        x.hang(0);
        x.nights(1);
        due("cured", 1, x.secret(0, 5));
        due("not told", 0, x.breath(1, 0));
        // Who comes to KNOW by smoke tells in the same NIGHT; who hears tells in the next one.
        x = Tell.coast("sw2h2o9v3;py1;pn2;px0n3;p;pn5;ca0k2");
        x.hang(0);
        x.nights(1);
        due("by smoke", 1, Tell.person(x, 1, 2));
        due("smoke 2, and told by 1", 3, x.breath(2, 0));
        due("smoke 2, and told by 1 alone", 3, x.breath(4, 0));
    }

    /** As much BREATH as there can be (promise 9). */
    private static void breathEnds() {
        SmokedSecrets x = Tell.coast("sw2h2o99;p;pn9;ca0k9;ca0k9;ca0k9;ca0k9;ca0k9;ca0k9");
        Tell.obey(x, "y:9");
        x.hang(0);
        x.nights(9);
        due("breath", 81, x.breath(0, 0));
        due("cured by then", 1, x.secret(0, 5));
        x = Tell.coast("sw2h2o99;p;p;p;p;p;p;ca0k9x1");
        x.nights(60);
        due("one KNOWS at 3 and hears no more", 3, x.breath(1, 0));
        due("known to all", 63, x.secret(0, 6));
    }

    /** Promise 12. */
    private static void hanging() {
        SmokedSecrets x = Tell.coast("sk3o9;p;p;ck1;ck5");
        due("hang", 1, x.hang(1));
        x.nights(1);
        due("taken down", 0, x.hang(1));
        due("a coin each", 1, x.rule(3));
        due("what it SMOKED stays", 1, x.secret(1, 4));
        x.nights(1);
        due("it SMOKES no more", 1, x.secret(1, 4));
        due("hang 0", 1, x.hang(0));
        due("no COIN", -1, x.hang(1));
        due("status 3", 1, x.status(3));
        x.nights(1);
        due("CURED", -1, x.hang(0));
        due("status 2", 1, x.status(2));
        due("hang 2", -1, x.hang(2));
        due("hang -1", -1, x.hang(-1));
        due("status 0", 2, x.status(0));
        x.hang(1);
        x.hang(1);
        due("no COIN left", 0, x.rule(3));
        due("CURED comes ahead of no COIN", -1, x.hang(0));
        due("status 2 again", 2, x.status(2));
    }

    /** Promise 13. */
    private static void veering() {
        SmokedSecrets x = small();
        due("it is so", -1, x.veers(1));
        due("status 2", 1, x.status(2));
        due("veers 4", -1, x.veers(4));
        due("veers -1", -1, x.veers(-1));
        due("status 1", 2, x.status(1));
        due("veers 3", 1, x.veers(3));
        due("veers 0", 3, x.veers(0));
        due("wind", 0, x.most(11));
        due("for nothing", 9, x.rule(3));
    }

    /** Promise 14. */
    private static void moving() {
        SmokedSecrets x = small();
        due("right", 1, x.moves(0, 1));
        due("down", 5, x.moves(0, 2));
        due("left", 4, x.moves(0, 3));
        due("up", 0, x.moves(0, 0));
        due("coins", 1, x.rule(3));
        due("up, out", -1, x.moves(0, 0));
        due("left, out", -1, x.moves(0, 3));
        due("no such way", -1, x.moves(0, 4));
        due("no such way below", -1, x.moves(0, -1));
        due("status 1", 4, x.status(1));
        due("too few", -1, x.moves(0, 1));
        due("status 3", 1, x.status(3));
        due("no such one", -1, x.moves(3, 9));
        due("no such one below", -1, x.moves(-1, 0));
        due("status 0", 2, x.status(0));
        x.give(1);
        due("just enough", 1, x.moves(0, 1));
        x.give(4);
        due("right, out", -1, x.moves(2, 1));
        due("down to the last ROW", 11, x.moves(2, 2));
        due("down, out", -1, x.moves(2, 2));
        due("status 1 again", 6, x.status(1));
    }

    /** Promise 15. */
    private static void buying() {
        SmokedSecrets x = small();
        due("oak 0", -1, x.oak(0));
        due("oak 31", -1, x.oak(31));
        due("status 1", 2, x.status(1));
        due("oak 1", 10, x.oak(1));
        due("half, cut up", 8, x.rule(3));
        due("oak 17", -1, x.oak(17));
        due("status 3", 1, x.status(3));
        due("oak 16", 26, x.oak(16));
        due("coins", 0, x.rule(3));
        x = Tell.coast("so99;p;p;c");
        for (int i = 0; i < 30; i++) {
            x.give(15);
            due("oak 30 times " + i, 129 + 30 * i, x.oak(30));
        }
        due("above 999", -1, x.oak(1));
        due("status 3 of it", 1, x.status(3));
    }

    /** Promise 16. */
    private static void giving() {
        SmokedSecrets x = small();
        due("give 0", -1, x.give(0));
        due("give 51", -1, x.give(51));
        due("give 1", 10, x.give(1));
        for (int i = 0; i < 19; i++) {
            x.give(50);
        }
        due("give 39", 999, x.give(39));
        due("above 999", -1, x.give(1));
        due("status 1", 3, x.status(1));
        due("status 3", 0, x.status(3));
        x.hang(0);
        x.nights(3);
        due("999 at most by curing", 999, x.rule(3));
    }

    /** Promises 17 and 18: by hand for a seed, x by x. */
    private static void years() {
        SmokedSecrets x = small();
        due("gusts 5 is so", false, x.gusts(5));
        due("gusts -1", false, x.gusts(-1));
        due("gusts 10", false, x.gusts(10));
        due("gusts 9", true, x.gusts(9));
        due("count 7", 9, x.count(7));
        due("gusts 0", true, x.gusts(0));
        due("years 0", -1, x.years(0, 1));
        due("years 61", -1, x.years(61, 1));
        due("no STATUS", 0, x.status(1));
        long seed = 1;
        long[] drawn = new long[6];
        for (int i = 0; i < 6; i++) {
            seed = seed * 6364136223846793005L + 1442695040888963407L;
            drawn[i] = seed >>> 33;
        }
        due("years 1", 1, x.years(1, 1));
        due("without GUSTS the WIND stays", 1, x.most(11));
        due("what HANGS", 1 << (int) (drawn[1] % 3), x.most(5) | x.most(6));
        int[] homes = {0, 2, 7};
        int person = (int) (drawn[2] % 3);
        int way = (int) (drawn[3] % 4);
        int home = homes[person];
        boolean out = way == 0 ? home < 4 : way == 1 ? home % 4 == 3 : way == 2 ? home > 7 : home % 4 == 0;
        int then = out ? home : home + new int[] {-4, 1, 4, -1}[way];
        due("who went", then, Tell.person(x, person, 0));
        due("OAK one more, one less", 9, x.rule(2));
        due("one ACT", 1, x.count(10));
        due("undone", 0, x.undo());
        due("all of it", home, Tell.person(x, person, 0));
        due("hangs no more", 0, x.most(5));
        due("gusts 9 again", true, x.gusts(9));
        due("years 1 with GUSTS", 1, x.years(1, 1));
        due("the WIND is so", drawn[0] % 10 < 9 ? drawn[1] % 4 : 1, x.most(11));
        due("years 60", 61, x.years(60, -5));
        due("acts", 40, x.count(10));
        due("log", 60, x.count(9));
    }

    /** Promises 19 and 20. */
    private static void undoing() {
        SmokedSecrets x = small();
        due("status -1", -1, x.status(-1));
        due("status 5", -1, x.status(5));
        due("undo none", -1, x.undo());
        x.hang(0);
        x.veers(2);
        x.moves(0, 1);
        x.oak(2);
        x.give(5);
        x.nights(2);
        x.hang(9);
        due("acts", 7, x.count(10));
        due("undo 1", 6, x.undo());
        due("night", 1, x.count(6));
        due("log", 1, x.count(9));
        due("undo 2", 5, x.undo());
        due("log none", -1, x.log(0, 0));
        due("coins", 10, x.rule(3));
        due("undo give", 4, x.undo());
        due("coins ahead of give", 5, x.rule(3));
        due("undo oak", 3, x.undo());
        due("oak", 9, x.rule(2));
        due("undo moves", 2, x.undo());
        due("where", 0, Tell.person(x, 0, 0));
        due("undo veers", 1, x.undo());
        due("wind", 1, x.most(11));
        due("undo hang", 0, x.undo());
        due("hangs", 0, x.secret(0, 3));
        due("undo no more", -1, x.undo());
        due("STATUS is not UNDONE", 1, x.status(0));
    }

    private static void longUndoing() {
        SmokedSecrets x = Tell.coast("sw2h2o99;p;p;ck9;ck9;ck9;ck9");
        for (int i = 0; i < 4; i++) {
            x.hang(i);
        }
        x.nights(60);
        x.nights(40);
        due("acts at most", 40, x.count(10));
        due("log oak of the first", 63, x.log(59, 2));
        for (int i = 39; i >= 0; i--) {
            due("undo to " + i, i, x.undo());
        }
        due("no more", -1, x.undo());
        due("night", 60, x.count(6));
        due("the LOG is as it was", 60, x.count(9));
        due("its first row", 95, x.log(59, 2));
        due("its second row", 91, x.log(58, 2));
        due("its row of the ninth", 63, x.log(51, 2));
        due("its row of the ninth: cured", 4, x.log(51, 1));
        due("its row of the eighth: cured", 0, x.log(52, 1));
    }

    /** Promises 22, 23, 24. */
    private static void smelling() {
        SmokedSecrets x = small();
        int[] along = {3, 2, 1, 0, 0, 0, 0, 0, 0, 0, 0, 0};
        for (int i = 0; i < 12; i++) {
            due("strength of 0 at " + i, along[i], x.strength(0, i));
        }
        due("strength of 1", 2, x.strength(1, 1));
        due("not against the WIND", 0, x.strength(1, 0));
        due("strength secret 3", -1, x.strength(3, 0));
        due("strength secret -1", -1, x.strength(-1, 0));
        due("strength cell 12", -1, x.strength(0, 12));
        due("strength cell -1", -1, x.strength(0, -1));
        due("smells 0", 7, x.smells(0));
        due("smells 1", 6, x.smells(1));
        due("smells 3", -1, x.smells(3));
        due("smells -1", -1, x.smells(-1));
        due("air hanging none", 0, x.air(0));
        x.hang(0);
        x.hang(1);
        int[] air = {3, 4, 2, 0, 0, 0, 0, 0, 0, 0, 0, 0};
        for (int i = 0; i < 12; i++) {
            due("air at " + i, air[i], x.air(i));
        }
        due("air 12", -1, x.air(12));
        due("air -1", -1, x.air(-1));
        x = Tell.coast("sw5h5v0;p;p;cx2y2k9");
        due("up", 1 << 12 | 1 << 7 | 1 << 2, x.smells(0));
        x.veers(1);
        due("right", 1 << 12 | 1 << 13 | 1 << 14, x.smells(0));
        x.veers(2);
        due("down", 1 << 12 | 1 << 17 | 1 << 22, x.smells(0));
        x.veers(3);
        due("left", 1 << 12 | 1 << 11 | 1 << 10, x.smells(0));
        due("held within 9", 9, x.strength(0, 12));
        Tell.obey(x, "y:99");
        due("held within 9 by a LAW", 9, x.strength(0, 12));
        due("by a LAW not out of the way", 0, x.strength(0, 13));
    }

    /** Promises 25, 26. */
    private static void foreseeing() {
        SmokedSecrets x = small();
        due("soon his own", 0, x.soon(0, 0));
        due("soon not", -1, x.soon(1, 0));
        due("ready not", -1, x.ready(0));
        x.hang(0);
        due("soon", 2, x.soon(1, 0));
        due("ready", 3, x.ready(0));
        x.nights(1);
        due("soon a NIGHT later", 1, x.soon(1, 0));
        due("ready a NIGHT later", 2, x.ready(0));
        x.nights(2);
        due("soon when he KNOWS", 0, x.soon(1, 0));
        due("ready when CURED", 0, x.ready(0));
        due("soon person 3", -1, x.soon(3, 0));
        due("soon secret -1", -1, x.soon(0, -1));
        due("ready 3", -1, x.ready(3));
        due("ready -1", -1, x.ready(-1));
        due("apart", 3, x.count(6));
        // Nothing HANGS: he hears it at the TABLE.
        x = Tell.coast("sw2h2o1;p;pn9;ca0");
        due("at the TABLE", 9, x.soon(1, 0));
        x.nights(60);
        due("he KNOWS it", 0, x.soon(1, 0));
        // Behind NIGHT 999.
        x = Tell.coast("sw2h2o20;p;px1n9;ck9");
        for (int i = 0; i < 16; i++) {
            x.nights(60);
        }
        x.nights(39);
        x.hang(0);
        due("night", 999, x.count(6));
        due("ready behind 999", 9, x.ready(0));
        due("soon behind 999", 2, x.soon(1, 0));
    }

    /** Promise 27. */
    private static void keeping() {
        SmokedSecrets x = small();
        due("least", 0, x.kept(0, 2, 0));
        // 1 with NOSE 2 has BREATH 1 a NIGHT with the WIND to the right: at most one such of three.
        due("many", 27 + 27, x.kept(0, 2, 1));
        due("of none all", 64, x.kept(0, 0, 1));
        due("owner among", -1, x.kept(0, 1, 1));
        due("owner among others", -1, x.kept(0, 3, 0));
        due("no such PERSON", -1, x.kept(0, 8, 1));
        due("below", -1, x.kept(0, -1, 1));
        due("no such SECRET", -1, x.kept(3, 0, 1));
        due("no such SECRET below", -1, x.kept(-1, 0, 1));
        due("no such what", -1, x.kept(0, 0, 2));
        due("no such what below", -1, x.kept(0, 0, -1));
        x.hang(1);
        x.nights(2);
        due("CURED", -1, x.kept(1, 0, 1));
        due("apart: WIND", 1, x.most(11));
        due("apart: it does not HANG", 0, x.secret(0, 3));
        // In the corner up and left smoke goes out of the COAST by 0 and 3 and stays in the SHED.
        x = Tell.coast("sw2h2o9v0;py1n1;px1n1;ca0k2");
        due("least with 1 away", 0, x.kept(0, 2, 0));
        due("not to the right", 9, x.kept(0, 2, 1));
        x = Tell.coast("sw2h2o9v0;p;px1n1;py1n2;px1y1n1;ca3k2x1y1");
        due("not up: rows are digits", 11, x.kept(0, 2, 0));
        due("not up", 9, x.kept(0, 2, 1));
        x = Tell.coast("sw3h3o9v0;px1y1;px1n1;py1x2n1;py1x0n2;ca0k2x1y1");
        due("not up, not right", 4, x.kept(0, 6, 1));
        due("the least", 22, x.kept(0, 6, 0));
        due("left not twice", 3, x.kept(0, 14, 1));
        due("left not twice, the least", 22, x.kept(0, 14, 0));
        due("left not twice alone", 0, x.kept(0, 8, 0));
        due("left not twice alone, all", 15, x.kept(0, 8, 1));
        // By none: at the table he KNOWS it.
        x = Tell.coast("sw2h2o9;p;pn1;ca0k2x1");
        due("by none", -1, x.kept(0, 2, 0));
        due("none", 0, x.kept(0, 2, 1));
        // Without OAK it is not CURED.
        x = Tell.coast("sw2h2o1;p;p;ca0k2x1");
        due("no OAK", -1, x.kept(0, 0, 0));
        due("no OAK, none", 0, x.kept(0, 0, 1));
        // Six at most.
        x = Tell.coast("sw2h2o99;p;p;ca0k7x1");
        due("seven", -1, x.kept(0, 0, 1));
        x.hang(0);
        x.nights(1);
        due("six", 4096, x.kept(0, 0, 1));
        due("six, least", 0, x.kept(0, 0, 0));
        x.nights(5);
        due("one", 4, x.kept(0, 0, 1));
    }

    /** Promises 28, 29, 30. */
    private static void noting() {
        SmokedSecrets x = small();
        due("all fit", 9, x.heavies(0, -1));
        due("the last", 9, x.heavies(0, 8));
        due("no such", -1, x.heavies(0, 9));
        due("below", -1, x.heavies(0, -2));
        // Of 1 .. 9 all smell in CELL 0, eight in 1, seven in 2, six in 3.
        due("ask", 3, x.ask(0));
        due("noted", 1, x.noted(0, 2, true));
        due("three and more", 7, x.heavies(0, -1));
        due("three", 3, x.heavies(0, 0));
        due("noted not", 2, x.noted(0, 3, false));
        due("three alone", 1, x.heavies(0, -1));
        due("it is", 3, x.heavies(0, 0));
        due("others as before", 9, x.heavies(1, -1));
        due("ask of one: all alike", 0, x.ask(0));
        due("noted against", 3, x.noted(0, 0, false));
        due("none fits", 0, x.heavies(0, -1));
        due("ask none", -1, x.ask(0));
        due("noted secret 3", -1, x.noted(3, 0, true));
        due("noted secret -1", -1, x.noted(-1, 0, true));
        due("noted cell 12", -1, x.noted(0, 12, true));
        due("noted cell -1", -1, x.noted(0, -1, true));
        for (int i = 4; i <= 10; i++) {
            due("noted " + i, i, x.noted(1, 1, true));
        }
        due("an eleventh", -1, x.noted(1, 1, true));
        due("ten", 10, x.count(8));
        due("heavies 3", -1, x.heavies(3, -1));
        due("heavies -1", -1, x.heavies(-1, -1));
        due("ask 3", -1, x.ask(3));
        due("ask -1", -1, x.ask(-1));
        // As told: not as the WIND, the OAK, the NIGHT are now; by the LAW that holds now.
        x = Tell.coast("sw4h3o5v1;p;p;ca0k3");
        x.noted(0, 1, true);
        x.veers(2);
        x.oak(10);
        x.hang(0);
        x.nights(2);
        due("as told", 8, x.heavies(0, -1));
        Tell.obey(x, "y:o=5&t=0&n=0&k>6?1");
        due("by the LAW", 3, x.heavies(0, -1));
        due("its first", 7, x.heavies(0, 0));
        Tell.obey(x, "y:k-4");
        due("ask by another", 5, x.heavies(0, 0));
        due("all five smell there", 5, x.heavies(0, -1));
        // f 1 at CELL 1: five fit; CELL 0 all, 4 none: alike in number 0.
        due("ask by it", 0, x.ask(0));
        Tell.obey(x, "y:k-f*2");
        due("by the last", 7, x.heavies(0, -1));
        due("ask by the last", 3, x.ask(0));
    }

    /** Promise 31. */
    private static void worthwhile() {
        SmokedSecrets x = Tell.coast("so5;p;p;ck3;ck2;ck5;ck4;ck1");
        due("fewest", 4, x.worthwhile(0));
        due("much", 5, x.worthwhile(1));
        due("what 2", -1, x.worthwhile(2));
        due("what -1", -1, x.worthwhile(-1));
        x = Tell.coast("so5;p;p;ck3;ck2;ck4;ck1");
        due("least of two pairs", 3, x.worthwhile(0));
        x = Tell.coast("so6;p;p;ck4;ck4;ck2");
        due("first pair", 5, x.worthwhile(0));
        due("much of it", 6, x.worthwhile(1));
        // What it SMOKED needs no OAK any more, its weight counts whole.
        x.hang(1);
        x.nights(3);
        x.hang(1);
        due("oak", 3, x.rule(2));
        due("set", 6, x.worthwhile(0));
        due("whole weight", 6, x.worthwhile(1));
        x.hang(1);
        x.nights(1);
        due("CURED are out", 4, x.worthwhile(0));
        due("much without", 2, x.worthwhile(1));
        x = Tell.coast("so0;p;p;ck4");
        due("no OAK", 0, x.worthwhile(0));
        due("no OAK, nothing", 0, x.worthwhile(1));
    }

    /** Promise 32. */
    private static void goingOut() {
        SmokedSecrets x = small();
        due("there already", 0, x.out(1, 0));
        due("there", 2, x.out(1, 1));
        x.hang(0);
        x.hang(1);
        due("out of 0", 1, x.out(0, 0));
        due("to 4", 4, x.out(0, 1));
        due("out of 2: 3 is lower than 6", 3, x.out(1, 1));
        due("what 2", -1, x.out(0, 2));
        due("what -1", -1, x.out(0, -1));
        due("person 3", -1, x.out(3, 0));
        due("person -1", -1, x.out(-1, 0));
        x = Tell.coast("sw2h2o9v1;p;p;ck9;ck9y1");
        x.hang(0);
        x.hang(1);
        due("there is none", -1, x.out(0, 0));
        due("no CELL", -1, x.out(0, 1));
        x = Tell.coast("sw6h2o9v1k99;px5;p;ck9;ck9y1");
        x.hang(0);
        x.hang(1);
        due("none at all", -1, x.out(0, 0));
        Tell.obey(x, "y:f<1|f>3?0;y:1");
        due("within a LAW", 0, x.out(0, 0));
        x.moves(0, 3);
        x.moves(0, 3);
        due("one step right", 4, x.out(0, 1));
        x.moves(0, 3);
        due("two steps right or left: left is lower", 0, x.out(0, 1));
        due("two steps", 2, x.out(0, 0));
    }

    /** Promises 33, 34. */
    private static void games() {
        SmokedSecrets x = small();
        due("both stay", 9, x.game(0, 1, 4, 4, 0));
        due("both to 1", 13, x.game(0, 1, 1, 3, 0));
        due("both to 1, the other", 13, x.game(0, 1, 1, 3, 1));
        due("out of the COAST he stays", 8, x.game(0, 1, 0, 4, 0));
        due("the other stays", 9, x.game(0, 1, 0, 4, 1));
        x.hang(0);
        due("in smoke", 6, x.game(0, 1, 4, 4, 0));
        due("the other in smoke", 8, x.game(0, 1, 4, 4, 1));
        due("out of it", 8, x.game(0, 1, 2, 4, 0));
        due("together in smoke", 11, x.game(0, 1, 1, 3, 1));
        int[][] wrong = {{0, 0, 0, 0, 0}, {3, 0, 0, 0, 0}, {0, 3, 0, 0, 0}, {-1, 0, 0, 0, 0}, {0, -1, 0, 0, 0},
            {0, 1, 5, 0, 0}, {0, 1, -1, 0, 0}, {0, 1, 0, 5, 0}, {0, 1, 0, -1, 0}, {0, 1, 0, 0, 2}, {0, 1, 0, 0, -1}};
        for (int[] w : wrong) {
            due("game " + java.util.Arrays.toString(w), -1000000, x.game(w[0], w[1], w[2], w[3], w[4]));
        }
        x = small();
        due("rests", 2, x.rests(0, 1, -1));
        due("rest 0", 13, x.rests(0, 1, 0));
        due("rest 1", 44, x.rests(0, 1, 1));
        due("rest 2", -1, x.rests(0, 1, 2));
        due("rest -2", -1, x.rests(0, 1, -2));
        due("rests the other way", 31, x.rests(1, 0, 0));
        due("rests alike", -1, x.rests(1, 1, -1));
        due("rests 3", -1, x.rests(3, 1, -1));
        due("rests -1", -1, x.rests(1, -1, -1));
        x = Tell.coast("p;p;c");
        due("in one CELL: how many", 3, x.rests(0, 1, -1));
        due("both to the right", 11, x.rests(0, 1, 0));
        due("both down", 22, x.rests(0, 1, 1));
        due("both stay", 44, x.rests(0, 1, 2));
    }

    /** Promise 35. */
    private static void odds() {
        SmokedSecrets x = small();
        x.hang(0);
        due("none of none", 0, x.odds(1, 0, 0, 50));
        due("his own", 1000000000, x.odds(0, 0, 0, 50));
        due("not by one", 0, x.odds(1, 0, 1, 0));
        due("by two", 1000000000, x.odds(1, 0, 2, 0));
        due("always turned", 0, x.odds(1, 0, 2, 100));
        due("both not turned", 250000000, x.odds(1, 0, 2, 50));
        due("by 33", 448900000, x.odds(1, 0, 2, 33));
        // Three NIGHTS: 0 turns of three, or (turned at last) two straight ones ahead: 67 * 67 hundredths whole.
        due("of three", 448900000, x.odds(1, 0, 3, 33));
        due("n 7", -1, x.odds(1, 0, 7, 0));
        due("n -1", -1, x.odds(1, 0, -1, 0));
        due("chance 101", -1, x.odds(1, 0, 1, 101));
        due("chance -1", -1, x.odds(1, 0, 1, -1));
        due("person 3", -1, x.odds(3, 0, 1, 1));
        due("person -1", -1, x.odds(-1, 0, 1, 1));
        due("secret 3", -1, x.odds(0, 3, 1, 1));
        due("secret -1", -1, x.odds(0, -1, 1, 1));
        due("apart", 1, x.most(11));
        // The WIND turns 3 to 0, and up there is 1. Not turned, NIGHT by NIGHT: 930000000, 864900000, 804357000,
        // 748052010, then 52363640.7 is cut: 695688370, then 48698185.9: 646990185.
        x = Tell.coast("sw2h5v3o99;py4;py1n1;ck9y2");
        x.hang(0);
        due("turned once to 0", 70000000, x.odds(1, 0, 1, 7));
        due("of each part cut", 304311630, x.odds(1, 0, 5, 7));
        due("of each part cut again", 353009815, x.odds(1, 0, 6, 7));
    }

    /** Promise 36. */
    private static void shares() {
        SmokedSecrets x = small();
        due("none", 0, x.shares(0, 999));
        x.hang(0);
        x.hang(1);
        x.nights(1);
        // BREATH: 0 has 3, 1 has 1 and 1.
        due("his", 599, x.shares(0, 999));
        due("hers", 399, x.shares(1, 999));
        due("nothing", 0, x.shares(2, 999));
        due("of 0", 0, x.shares(0, 0));
        due("of 5", 3, x.shares(0, 5));
        due("c 1000", -1, x.shares(0, 1000));
        due("c -1", -1, x.shares(0, -1));
        due("person 3", -1, x.shares(3, 1));
        due("person -1", -1, x.shares(-1, 1));
    }

    private static void mostDue(SmokedSecrets x, int... want) {
        for (int i = 0; i < want.length; i++) {
            due("most " + i, want[i], x.most(i));
        }
    }

    /** Promise 37. */
    private static void most() {
        SmokedSecrets x = small();
        mostDue(x, 0, 1, 0, 0, 0, 0, 0, 0, 0, 6, 7, 1);
        due("most 12", -1, x.most(12));
        due("most -1", -1, x.most(-1));
        x.hang(0);
        x.hang(1);
        mostDue(x, 0, 1, 0, 0, 0, 3, 0, 3, 0, 6, 4, 1);
        x.nights(2);
        // 1 KNOWS 0 by now (BREATH 2), 1 is CURED; BREATH: 0 has 6, 1 has 2 and 2.
        mostDue(x, 1, 1, 0, 1, 0, 1, 2, 3, 0, 2, 4, 1);
        x.nights(1);
        mostDue(x, 1, 1, 0, 1, 0, 0, 3, 0, 0, 1, 7, 1);
        x.moves(0, 1);
        x.moves(0, 1);
        x.moves(2, 0);
        x.moves(2, 3);
        due("tables of three", 3, x.most(8));
        x = Tell.coast("pn5;pn2;pn2;ca0k2;ca1k7;ca1k7;ca1k1");
        mostDue(x, 1, 1, 0, 0, 1, 0, 0, 0, 3, 17, 7, 1);
        x.nights(2);
        // Two NIGHTS at the TABLE: 1 and 2 KNOW 0 by now, 2 KNOWS 1, 2, 3; with NOSE 5 PERSON 0 does not.
        due("kept most", 1, x.most(3));
        due("wisest: 1 and 2 KNOW all", 1, x.most(0));
    }

    /** Promises 38, 39. */
    private static void images() {
        SmokedSecrets x = small();
        due("no image", -1, x.back());
        x.hang(0);
        x.nights(2);
        due("image", 2, x.image());
        x.veers(2);
        x.moves(1, 2);
        x.give(9);
        x.oak(4);
        x.hang(1);
        x.nights(2);
        x.noted(0, 0, true);
        x.gusts(1);
        x.hang(77);
        due("back", 2, x.back());
        due("night", 2, x.count(6));
        due("log", 2, x.count(9));
        due("log of it", 2, x.log(0, 0));
        due("no ACT", 0, x.count(10));
        due("undo none", -1, x.undo());
        due("wind", 1, x.most(11));
        due("where", 2, Tell.person(x, 1, 0));
        due("coins", 8, x.rule(3));
        due("oak", 7, x.rule(2));
        due("hangs", 1, x.most(5));
        due("smoked", 2, x.secret(0, 4));
        due("cured", 0, x.most(6));
        due("breath", 6, x.breath(0, 0));
        due("knows", 3, Tell.person(x, 1, 2));
        due("NOTED stays", 1, x.count(8));
        due("GUSTS stay", 1, x.count(7));
        due("STATUS stays", 1, x.status(0));
        x.nights(3);
        due("back again", 2, x.back());
        x.nights(1);
        due("another image", 3, x.image());
        x.nights(1);
        due("undo does not touch it", 1, x.undo());
        due("back to it", 3, x.back());
        // The LOG comes back whole, however much came behind.
        x = Tell.coast("sw2h2o99;p;p;ck9");
        x.hang(0);
        x.nights(9);
        x.image();
        x.nights(60);
        x.nights(60);
        due("back", 9, x.back());
        due("nine rows", 9, x.count(9));
        due("the first", 98, x.log(8, 2));
        due("the last", 90, x.log(0, 2));
        x.nights(1);
        due("one more", 10, x.count(9));
        due("and undone", 0, x.undo());
        due("nine again", 9, x.count(9));
    }

    /** Promise 40. */
    private static void counting() {
        SmokedSecrets x = small();
        Tell.text(x, 1, "y:k");
        x.law(0);
        x.noted(0, 0, true);
        x.gusts(2);
        x.nights(3);
        Tell.feed(x, "hallo");
        int[] want = {12, 3, 3, 1, 5, 0, 3, 2, 1, 3, 3};
        for (int i = 0; i < want.length; i++) {
            due("count " + i, want[i], x.count(i));
        }
        due("count 11", -1000000, x.count(11));
        due("count -1", -1000000, x.count(-1));
        due("NONE", -1, SmokedSecrets.NONE);
        due("HIDDEN", -1000000, SmokedSecrets.HIDDEN);
    }
}
