import java.math.BigInteger;

/**
 * The boundary cases of what is and of what is done, sentence by sentence: what was told, NIGHTS, ACTS, YEARS,
 * STATUS, UNDO, the LOG, IMAGES (promises 6 to 9, 11 to 21, 38 and 39, Terms 2 and 4). The answers due are worked
 * out by hand.
 */
public final class BoundaryActsTest {
    private static final Check CHECK = new Check("BoundaryActsTest");
    private static final int MIN = Integer.MIN_VALUE;
    private static final int MAX = Integer.MAX_VALUE;

    /** Four wide, three ROWS, the WIND to the right; SECRET 0 smokes over the first ROW, where 0 and 1 live. */
    private static final String SMALL = "sw4h3o9k9v1;p;px2n2;px3y1n4;ca0k3;ca1k2x1;ca2k1x3y2";
    private static final String FULL = "sw6h5o99k99v3;p;p;p;p;p;px5y4n9;c;c;c;c;c;ca5k9x5y4";

    private BoundaryActsTest() {
    }

    private static void due(String what, long want, long got) {
        CHECK.due(what, want, got);
    }

    private static void due(String what, boolean want, boolean got) {
        CHECK.due(what, want, got);
    }

    private static void statusDue(SmokedSecrets x, int... want) {
        for (int i = 0; i < 5; i++) {
            due("status " + i, i < want.length ? want[i] : 0, x.status(i));
        }
    }

    private static void toNight(SmokedSecrets x, int night) {
        for (int left = night - x.count(6); left > 0; left -= 60) {
            x.nights(Math.min(60, left));
        }
        due("NIGHT", night, x.count(6));
    }

    private static void hangAll(SmokedSecrets x) {
        for (int i = 0; i < x.count(2); i++) {
            x.hang(i);
        }
    }

    public static void main(String[] args) {
        whatIs();
        nightsBounds();
        nightsOak();
        nightsCure();
        nightsTable();
        nightsLog();
        hangs();
        winds();
        moving();
        buying();
        giving();
        gusting();
        yearsBounds();
        yearsDraws();
        statuses();
        undoing();
        images();
        refusals();
        CHECK.end();
    }

    // ---- promises 6 to 9

    private static void whatIs() {
        CHECK.sentence("6 rule", "NONE: no COAST, no such what.", BoundaryActsTest::ruleBounds);
        CHECK.sentence("7 person", "NoSuchElementException: no such ones.", BoundaryActsTest::personBounds);
        CHECK.sentence("8 secret", "NONE: no such ones.", BoundaryActsTest::secretBounds);
        CHECK.sentence("9 breath", "NONE: no such ones.", BoundaryActsTest::breathBounds);
        CHECK.sentence("Terms 2", "CELLS are numbered: ROW times WIDE and place, both from 0.",
            BoundaryActsTest::cellsNumbered);
        CHECK.sentence("Terms 2", "BREATH of a PERSON of a SECRET: 0 at first", BoundaryActsTest::breathAtFirst);
        CHECK.sentence("Terms 2", "99 at most", BoundaryActsTest::breathAtMost);
        CHECK.sentence("Terms 2", "He KNOWS it, if it is his own", BoundaryActsTest::knowsHisOwn);
        CHECK.sentence("Terms 2", "or if he has BREATH of it of NOSE or more", BoundaryActsTest::knowsByNose);
        CHECK.sentence("Terms 2", "a RAW one HANGS, or not (at first)", BoundaryActsTest::rawAtFirst);
    }

    private static void ruleBounds() {
        SmokedSecrets x = new SmokedSecrets();
        for (int what : new int[] {-1, 0, 1, 2, 3, 4}) {
            due("without a COAST " + what, -1, x.rule(what));
        }
        x = Tell.coast(FULL);
        int[] want = {6, 5, 99, 99};
        for (int i = 0; i < 4; i++) {
            due("rule " + i, want[i], x.rule(i));
        }
        for (int what : new int[] {-1, -2, 4, 5, MIN, MAX}) {
            due("rule " + what, -1, x.rule(what));
        }
    }

    private static void personBounds() {
        SmokedSecrets x = new SmokedSecrets();
        for (int what : new int[] {-1, 0, 1, 2, 3}) {
            due("without a COAST " + what, -77, Tell.person(x, 0, what));
        }
        x = Tell.coast(SMALL);
        for (int person : new int[] {-1, 3, 4, 5, 6, MIN, MAX}) {
            due("person " + person, -77, Tell.person(x, person, 0));
        }
        for (int what : new int[] {-1, 3, MIN, MAX}) {
            due("what " + what, -77, Tell.person(x, 0, what));
            due("what " + what, -77, Tell.person(x, 2, what));
        }
        due("neither", -77, Tell.person(x, 3, 3));
        int[] last = {7, 4, 4};
        for (int i = 0; i < 3; i++) {
            due("the last one " + i, last[i], Tell.person(x, 2, i));
        }
        x = Tell.coast(FULL);
        int[] sixth = {29, 9, 32};
        for (int i = 0; i < 3; i++) {
            due("a sixth " + i, sixth[i], Tell.person(x, 5, i));
        }
        due("a seventh", -77, Tell.person(x, 6, 0));
        due("five of the first", 31, Tell.person(x, 0, 2));
        due("none of the second", 0, Tell.person(x, 1, 2));
    }

    private static void secretBounds() {
        SmokedSecrets x = new SmokedSecrets();
        for (int what = -1; what <= 7; what++) {
            due("without a COAST " + what, -1, x.secret(0, what));
        }
        x = Tell.coast(SMALL);
        for (int secret : new int[] {-1, 3, 4, 5, 6, MIN, MAX}) {
            due("secret " + secret, -1, x.secret(secret, 0));
        }
        for (int what : new int[] {-1, 7, MIN, MAX}) {
            due("what " + what, -1, x.secret(0, what));
            due("what " + what, -1, x.secret(2, what));
        }
        int[] last = {2, 1, 11, 0, 0, 0, 4};
        for (int i = 0; i < 7; i++) {
            due("the last one " + i, last[i], x.secret(2, i));
        }
        x.hang(2);
        due("it HANGS", 1, x.secret(2, 3));
        x.nights(1);
        int[] cured = {2, 1, 11, 0, 1, 1, 4};
        for (int i = 0; i < 7; i++) {
            due("it is CURED " + i, cured[i], x.secret(2, i));
        }
        x = Tell.coast(FULL);
        int[] sixth = {5, 9, 29, 0, 0, 0, 32};
        for (int i = 0; i < 7; i++) {
            due("a sixth " + i, sixth[i], x.secret(5, i));
        }
        due("a seventh", -1, x.secret(6, 0));
    }

    private static void breathBounds() {
        due("without a COAST", -1, new SmokedSecrets().breath(0, 0));
        SmokedSecrets x = Tell.coast("sw4h3;p;p;p;c;c");
        due("the last ones", 0, x.breath(2, 1));
        for (int one : new int[] {-1, 3, 4, 6, MIN, MAX}) {
            due("person " + one, -1, x.breath(one, 0));
        }
        for (int one : new int[] {-1, 2, 3, 6, MIN, MAX}) {
            due("secret " + one, -1, x.breath(0, one));
        }
        x = Tell.coast(FULL);
        due("sixth of the sixth", 0, x.breath(5, 5));
        due("seventh person", -1, x.breath(6, 5));
        due("seventh secret", -1, x.breath(5, 6));
    }

    private static void cellsNumbered() {
        SmokedSecrets x = Tell.coast("sw6h5;p;px5;py4;px5y4;c;cx5;cy4;cx5y4");
        int[] corners = {0, 5, 24, 29};
        for (int i = 0; i < 4; i++) {
            due("person " + i, corners[i], Tell.person(x, i, 0));
            due("shed " + i, corners[i], x.secret(i, 2));
        }
        x = Tell.coast("sw2h5;px1;py1;px1y4;cx1;cy1;cx1y4");
        int[] narrow = {1, 2, 9};
        for (int i = 0; i < 3; i++) {
            due("person " + i + " of two WIDE", narrow[i], Tell.person(x, i, 0));
            due("shed " + i + " of two WIDE", narrow[i], x.secret(i, 2));
        }
    }

    private static void breathAtFirst() {
        SmokedSecrets x = Tell.coast(FULL);
        for (int person = 0; person < 6; person++) {
            for (int secret = 0; secret < 6; secret++) {
                due("breath " + person + " " + secret, 0, x.breath(person, secret));
            }
        }
    }

    /** What can be reached at all: nine NIGHTS of 9, and what is heard at the TABLE ahead of them. */
    private static void breathAtMost() {
        SmokedSecrets x = Tell.coast("sw2h2o99;p;p;p;p;p;pn9;ca0k9");
        Tell.obey(x, "y:9");
        x.nights(5);
        due("1 to 4 heard it three times", 3, x.breath(4, 0));
        due("5 three times from 0, twice from all five", 13, x.breath(5, 0));
        x.hang(0);
        x.nights(9);
        due("81 more", 84, x.breath(4, 0));
        due("81 more, at most", 94, x.breath(5, 0));
        due("CURED by then", 1, x.secret(0, 5));
    }

    private static void knowsHisOwn() {
        SmokedSecrets x = Tell.coast("sw2h2o9;px1y1n9;p;ca0k9");
        due("with no BREATH", 1, Tell.person(x, 0, 2));
        due("no BREATH", 0, x.breath(0, 0));
        due("another one does not", 0, Tell.person(x, 1, 2));
        due("KNOWN", 1, x.secret(0, 6));
    }

    private static void knowsByNose() {
        SmokedSecrets x = Tell.coast("sw6h2o9;py1;pn1;px1n2;px2n3;px3n4;px4n9;ca0k9");
        Tell.obey(x, "y:3");
        x.hang(0);
        x.nights(1);
        due("BREATH 3 each", 15, x.breath(1, 0) + x.breath(2, 0) + x.breath(3, 0) + x.breath(4, 0) + x.breath(5, 0));
        due("NOSE 1, 2, 3 KNOW, 4 and 9 do not", 1 | 2 | 4 | 8, x.secret(0, 6));
        x.nights(1);
        due("NOSE 4 KNOWS by 6, 9 does not", 31, x.secret(0, 6));
        x.nights(1);
        due("NOSE 9 KNOWS by 9", 63, x.secret(0, 6));
    }

    private static void rawAtFirst() {
        SmokedSecrets x = Tell.coast(FULL);
        for (int i = 0; i < 6; i++) {
            due("HANGS " + i, 0, x.secret(i, 3));
            due("SMOKED " + i, 0, x.secret(i, 4));
            due("CURED " + i, 0, x.secret(i, 5));
        }
        x.nights(1);
        due("what does not HANG does not SMOKE", 0, x.secret(0, 4));
        due("nor burns OAK", 99, x.rule(2));
    }

    // ---- promise 11: how many NIGHTS

    private static void nightsBounds() {
        CHECK.sentence("11 nights", "NIGHTS (1 .. 60): the NIGHT.", BoundaryActsTest::oneToSixtyNights);
        CHECK.sentence("11 nights", "out of bounds (1)", BoundaryActsTest::nightsOutOfBounds);
        CHECK.sentence("11 nights", "NONE: no COAST (STATUS 0)", BoundaryActsTest::nightsWithoutCoast);
        CHECK.sentence("11 nights", "beyond 999 (4)", BoundaryActsTest::nightsBeyondTheLast);
        CHECK.sentence("Terms 2", "A NIGHT (0 at first; 999 at most: none goes by then)",
            BoundaryActsTest::noneGoesByThen);
        CHECK.sentence("Terms 2", "of several the first", BoundaryActsTest::nightsOfSeveralTheFirst);
    }

    private static void oneToSixtyNights() {
        SmokedSecrets x = Tell.coast(SMALL);
        due("0 at first", 0, x.count(6));
        due("one", 1, x.nights(1));
        due("60 more", 61, x.nights(60));
        due("59 more", 120, x.nights(59));
        due("count", 120, x.count(6));
        statusDue(x);
    }

    private static void nightsOutOfBounds() {
        SmokedSecrets x = Tell.coast(SMALL);
        int refused = 0;
        for (int n : new int[] {0, -1, -60, 61, 62, 999, 1000, MIN, MAX}) {
            due("nights " + n, -1, x.nights(n));
            refused++;
            statusDue(x, 0, refused);
        }
        due("none went by", 0, x.count(6));
        due("no ACT", 0, x.count(10));
    }

    private static void nightsWithoutCoast() {
        SmokedSecrets x = new SmokedSecrets();
        due("1", -1, x.nights(1));
        due("0", -1, x.nights(0));
        due("61", -1, x.nights(61));
        statusDue(x, 3);
    }

    private static void nightsBeyondTheLast() {
        SmokedSecrets x = Tell.coast(SMALL);
        toNight(x, 940);
        due("60 at 940", -1, x.nights(60));
        due("it is 940 still", 940, x.count(6));
        statusDue(x, 0, 0, 0, 0, 1);
        due("59 at 940", 999, x.nights(59));
        x.undo();
        due("2 at 998", -1, x.nights(2));
        due("none of the two goes by", 998, x.count(6));
        statusDue(x, 0, 0, 0, 0, 2);
        due("1 at 998", 999, x.nights(1));
    }

    private static void noneGoesByThen() {
        SmokedSecrets x = Tell.coast(SMALL);
        toNight(x, 999);
        x.hang(0);
        due("1 at 999", -1, x.nights(1));
        due("60 at 999", -1, x.nights(60));
        due("years 1 at 999", -1, x.years(1, 1));
        due("it is 999", 999, x.count(6));
        due("nothing SMOKED", 0, x.secret(0, 4));
        due("by hand all goes on", 1, x.veers(2));
        statusDue(x, 0, 0, 0, 0, 2);
    }

    private static void nightsOfSeveralTheFirst() {
        SmokedSecrets x = Tell.coast(SMALL);
        toNight(x, 999);
        due("0 at 999", -1, x.nights(0));
        due("61 at 999", -1, x.nights(61));
        statusDue(x, 0, 2);
    }

    // ---- promise 11: OAK

    private static void nightsOak() {
        CHECK.sentence("Terms 2", "each SECRET that HANGS, by numbers, as long as there is OAK",
            BoundaryActsTest::asLongAsThereIsOak);
        CHECK.sentence("Terms 2", "by numbers", BoundaryActsTest::byNumbers);
        CHECK.sentence("Terms 2", "(without OAK it does not SMOKE)", BoundaryActsTest::withoutOak);
        CHECK.sentence("Terms 2", "each PERSON has as much more BREATH of it as its STRENGTH in his CELL is",
            BoundaryActsTest::breathOfStrength);
        CHECK.sentence("Terms 2", "it SMOKED one NIGHT more then", BoundaryActsTest::smokedOneMore);
    }

    private static void asLongAsThereIsOak() {
        SmokedSecrets x = Tell.coast("sw2h2o4k99;px1;px1;ck9;ck9;ck9");
        hangAll(x);
        x.nights(1);
        due("one left", 1, x.rule(2));
        x.nights(1);
        due("none left", 0, x.rule(2));
        due("the first", 2, x.secret(0, 4));
        due("the second", 1, x.secret(1, 4));
        due("the third", 1, x.secret(2, 4));
        x.nights(1);
        due("none less than none", 0, x.rule(2));
        due("the first no more", 2, x.secret(0, 4));
        due("all HANG on", 7, x.most(5));
        x.oak(2);
        x.nights(1);
        due("the first again", 3, x.secret(0, 4));
        due("the second again", 2, x.secret(1, 4));
        due("not the third", 1, x.secret(2, 4));
    }

    private static void byNumbers() {
        SmokedSecrets x = Tell.coast("sw2h2o2k99;p;p;ck9;ck9;ck9;ck9");
        x.hang(3);
        x.hang(2);
        x.hang(1);
        x.nights(1);
        int[] smoked = {0, 1, 1, 0};
        for (int i = 0; i < 4; i++) {
            due("secret " + i, smoked[i], x.secret(i, 4));
        }
    }

    private static void withoutOak() {
        SmokedSecrets x = Tell.coast("sw2h2o0k9;py1;px1n1;ck1;ck1");
        hangAll(x);
        x.nights(2);
        due("no BREATH", 0, x.breath(1, 0));
        due("nothing SMOKED", 0, x.secret(0, 4));
        due("nothing CURED", 0, x.most(6));
        due("they HANG", 3, x.most(5));
        due("LOG: OAK", 0, x.log(0, 2));
        due("LOG: CURED", 0, x.log(0, 1));
        due("COINS", 7, x.rule(3));
    }

    private static void breathOfStrength() {
        SmokedSecrets x = Tell.coast("sw6h2o9k99v1;p;px1n9;px2n9;px3n9;py1n9;ca0k3");
        x.hang(0);
        x.nights(1);
        int[] want = {3, 2, 1, 0, 0};
        for (int i = 0; i < 5; i++) {
            due("person " + i, want[i], x.breath(i, 0));
        }
        x.nights(1);
        for (int i = 0; i < 5; i++) {
            due("person " + i + " twice", 2 * want[i], x.breath(i, 0));
        }
        x.veers(2);
        x.nights(1);
        int[] turned = {9, 4, 2, 0, 2};
        for (int i = 0; i < 5; i++) {
            due("person " + i + " turned", turned[i], x.breath(i, 0));
        }
    }

    private static void smokedOneMore() {
        SmokedSecrets x = Tell.coast("sw2h2o9;p;p;ck9");
        x.hang(0);
        for (int i = 1; i <= 8; i++) {
            x.nights(1);
            due("behind " + i, i, x.secret(0, 4));
        }
    }

    // ---- promise 11: CURED

    private static void nightsCure() {
        CHECK.sentence("Terms 2", "a SECRET that SMOKED as many NIGHTS as it is HEAVY is CURED and HANGS no more",
            BoundaryActsTest::curedAsItIsHeavy);
        CHECK.sentence("Terms 2", "HANGS no more", BoundaryActsTest::curedBurnsNoOak);
        CHECK.sentence("Terms 2", "COINS 2 more for each SECRET that is CURED in it (999 at most)",
            BoundaryActsTest::coinsForCuring);
        CHECK.sentence("Terms 2", "COINS 2 more for each SECRET that is CURED in it (999 at most)",
            BoundaryActsTest::coinsForCuringAtMost);
    }

    private static void curedAsItIsHeavy() {
        for (int heavy = 1; heavy <= 9; heavy++) {
            SmokedSecrets x = Tell.coast("sw2h2o9;p;p;ck" + heavy);
            x.hang(0);
            for (int i = 1; i < heavy; i++) {
                x.nights(1);
                due("HEAVY " + heavy + " behind " + i, 0, x.secret(0, 5));
                due("it HANGS", 1, x.secret(0, 3));
            }
            x.nights(1);
            due("HEAVY " + heavy, 1, x.secret(0, 5));
            due("HANGS no more", 0, x.secret(0, 3));
            due("SMOKED", heavy, x.secret(0, 4));
        }
    }

    private static void curedBurnsNoOak() {
        SmokedSecrets x = Tell.coast("sw2h2o9;p;p;ck1;ck2");
        hangAll(x);
        x.nights(1);
        due("two OAK", 7, x.rule(2));
        x.nights(1);
        due("one OAK", 6, x.rule(2));
        x.nights(5);
        due("none", 6, x.rule(2));
        due("SMOKED", 1, x.secret(0, 4));
        due("SMOKED", 2, x.secret(1, 4));
    }

    private static void coinsForCuring() {
        SmokedSecrets x = Tell.coast("sw2h2o99k10;p;p;ck1;ck1;ck1;ck2");
        hangAll(x);
        x.nights(1);
        due("three in one NIGHT", 12, x.rule(3));
        x.nights(1);
        due("one in the next", 14, x.rule(3));
        x.nights(1);
        due("none", 14, x.rule(3));
    }

    private static void coinsForCuringAtMost() {
        for (int ahead = 995; ahead <= 999; ahead++) {
            SmokedSecrets x = Tell.coast("sw2h2o99k95;p;p;ck1;ck1");
            for (int i = 0; i < 18; i++) {
                x.give(50);
            }
            hangAll(x);
            x.give(ahead - 993);
            due("COINS ahead", ahead, x.rule(3));
            x.nights(1);
            due("COINS behind " + ahead, Math.min(999, ahead + 4), x.rule(3));
            statusDue(x);
        }
    }

    // ---- promise 11: TABLE

    private static void nightsTable() {
        CHECK.sentence("Terms 2", "each two PERSONS in one CELL", BoundaryActsTest::inOneCellAlone);
        CHECK.sentence("Terms 2", "of each SECRET that is RAW", BoundaryActsTest::rawAlone);
        CHECK.sentence("Terms 2", "if just one of the two KNOWS it behind (ii)", BoundaryActsTest::justOne);
        CHECK.sentence("Terms 2", "(once for each such two", BoundaryActsTest::onceForEachTwo);
        CHECK.sentence("Terms 2", "who KNOWS it, is as it was behind (ii), for all of them)",
            BoundaryActsTest::asItWasForAll);
    }

    private static void inOneCellAlone() {
        SmokedSecrets x = Tell.coast("sw2h2o0;p;p;px1;py1;px1y1;ca0k9");
        x.nights(1);
        int[] want = {0, 1, 0, 0, 0};
        for (int i = 0; i < 5; i++) {
            due("person " + i, want[i], x.breath(i, 0));
        }
        x.moves(1, 1);
        x.nights(1);
        due("he went", 1, x.breath(1, 0));
        due("he does not KNOW", 0, x.breath(2, 0));
    }

    private static void rawAlone() {
        SmokedSecrets x = Tell.coast("sw2h2o9;p;pn9;ca0k1x1y1;ca0k2x1y1;ca0k9x1y1");
        x.hang(0);
        x.hang(1);
        x.nights(1);
        due("CURED in that NIGHT", 0, x.breath(1, 0));
        due("RAW, it HANGS", 1, x.breath(1, 1));
        due("RAW, it does not HANG", 1, x.breath(1, 2));
        x.nights(1);
        due("CURED", 0, x.breath(1, 0));
        due("CURED in the second", 1, x.breath(1, 1));
        due("RAW", 2, x.breath(1, 2));
    }

    private static void justOne() {
        SmokedSecrets x = Tell.coast("sw2h2o0;p;pn2;pn9;px1;px1;ca0k9;ca3k9");
        x.nights(1);
        due("neither KNOWS SECRET 1", 0, x.breath(0, 1) + x.breath(1, 1) + x.breath(2, 1));
        due("SECRET 1 at the other TABLE", 1, x.breath(4, 1));
        x.nights(2);
        due("0 KNOWS it: nothing more", 0, x.breath(0, 0));
        due("1 KNOWS it at 2: nothing more", 2, x.breath(1, 0));
        due("1 KNOWS it", 3, x.secret(0, 6));
        due("2 from 0, from 0, from 0 and 1", 4, x.breath(2, 0));
        // By smoke behind (ii): both KNOW it then, none tells the other.
        x = Tell.coast("sw2h2o9;p;pn2;ca0k2");
        x.hang(0);
        x.nights(1);
        due("both by then", 2, x.breath(1, 0));
    }

    private static void onceForEachTwo() {
        SmokedSecrets x = Tell.coast("sw2h2o0;p;p;p;p;p;pn9;ca0k9;ca1k9;ca2k9;ca3k9;ca4k9");
        x.nights(1);
        for (int secret = 0; secret < 5; secret++) {
            due("one KNOWS SECRET " + secret, 1, x.breath(5, secret));
        }
        x.nights(2);
        due("one KNOWS, thrice", 3, x.breath(5, 0));
        due("all five KNOW", 31, x.secret(0, 6));
        x.nights(1);
        due("five KNOW", 8, x.breath(5, 0));
        x.nights(1);
        due("five KNOW again", 13, x.breath(5, 0));
        x.nights(1);
        due("all KNOW", 13, x.breath(5, 0));
    }

    private static void asItWasForAll() {
        // Who hears enough tells in the next NIGHT, of lower and of higher numbers alike.
        SmokedSecrets x = Tell.coast("sw2h2o0;pn9;pn1;pn9;ca1k9;ca0k9");
        x.nights(1);
        due("0 from 1 alone", 1, x.breath(0, 0));
        due("2 from 1 alone", 1, x.breath(2, 0));
        due("1 KNOWS SECRET 1 from 0", 3, x.secret(1, 6));
        due("2 from 0 alone", 1, x.breath(2, 1));
        x.nights(1);
        due("2 from 0 and 1", 3, x.breath(2, 1));
        // Who comes to KNOW it by smoke tells in the same NIGHT.
        x = Tell.coast("sw2h2o9v1;py1;px1n2;px1n3;ca0k9");
        Tell.obey(x, "y:2");
        x.hang(0);
        x.nights(1);
        due("smoke, and 1 tells", 3, x.breath(2, 0));
        due("KNOWN", 7, x.secret(0, 6));
        due("who KNOWS more", 6, x.log(0, 0));
    }

    // ---- promise 21

    private static void nightsLog() {
        CHECK.sentence("21 log", "NONE: no such ones.", BoundaryActsTest::logBounds);
        CHECK.sentence("Terms 2", "(the latest 60)", BoundaryActsTest::latestSixty);
        CHECK.sentence("Terms 2", "who KNOWS of one more SECRET at least than he did ahead of that NIGHT (bits)",
            BoundaryActsTest::oneMoreAtLeast);
        CHECK.sentence("Terms 2", "how many SECRETS are CURED, OAK", BoundaryActsTest::logOfCured);
        CHECK.sentence("21 log", "LOG, the latest (i 0), the one ahead of it (1) ..", BoundaryActsTest::latestFirst);
    }

    private static void logBounds() {
        SmokedSecrets x = new SmokedSecrets();
        due("without a COAST", -1, x.log(0, 0));
        due("length", 0, x.count(9));
        x = Tell.coast(SMALL);
        due("empty", -1, x.log(0, 0));
        due("length", 0, x.count(9));
        x.nights(2);
        due("length", 2, x.count(9));
        due("the first", 9, x.log(1, 2));
        for (int i : new int[] {-1, 2, 3, 59, 60, MIN, MAX}) {
            for (int what = 0; what < 3; what++) {
                due("log " + i + " " + what, -1, x.log(i, what));
            }
        }
        for (int what : new int[] {-1, 3, MIN, MAX}) {
            due("log 0 " + what, -1, x.log(0, what));
            due("log 1 " + what, -1, x.log(1, what));
        }
    }

    private static void latestSixty() {
        SmokedSecrets x = Tell.coast("sw2h2o99;p;p;ck9");
        x.hang(0);
        x.nights(59);
        due("59", 59, x.count(9));
        due("its first", 98, x.log(58, 2));
        due("no more", -1, x.log(59, 2));
        x.nights(1);
        due("60", 60, x.count(9));
        due("the first", 98, x.log(59, 2));
        due("no more", -1, x.log(60, 2));
        x.nights(1);
        due("60 still", 60, x.count(9));
        due("the second", 97, x.log(59, 2));
        due("no more", -1, x.log(60, 2));
        x.nights(7);
        due("the ninth", 90, x.log(59, 2));
        due("the tenth", 90, x.log(58, 2));
        x.nights(60);
        x.nights(60);
        due("60 still", 60, x.count(9));
        due("no more", -1, x.log(60, 2));
    }

    private static void oneMoreAtLeast() {
        SmokedSecrets x = Tell.coast("sw2h2o99;p;px1n3;px1y1n1;ca0k9;ca0k9");
        hangAll(x);
        Tell.obey(x, "y:2");
        x.nights(1);
        due("BREATH below NOSE", 0, x.log(0, 0));
        x.nights(1);
        due("two at once: one bit", 2, x.log(0, 0));
        x.nights(1);
        due("none more", 0, x.log(0, 0));
        x.veers(2);
        x.moves(2, 3);
        x.nights(1);
        due("another one", 4, x.log(0, 0));
        due("all KNOW both", 3, Tell.person(x, 1, 2) & Tell.person(x, 2, 2));
        x = Tell.coast("sw2h2o99;p;p;p;p;p;p;ca5k9;ca4k9x1y1");
        Tell.obey(x, "y:9");
        x.hang(0);
        x.nights(1);
        due("five at once, not whose it is", 31, x.log(0, 0));
    }

    private static void logOfCured() {
        SmokedSecrets x = Tell.coast("sw2h2o9;p;p;ck1;ck1;ck2");
        x.nights(1);
        due("none CURED", 0, x.log(0, 1));
        due("OAK whole", 9, x.log(0, 2));
        hangAll(x);
        x.nights(1);
        due("two CURED", 2, x.log(0, 1));
        due("OAK behind it", 6, x.log(0, 2));
        x.nights(1);
        due("three CURED in all", 3, x.log(0, 1));
        due("OAK", 5, x.log(0, 2));
        x.nights(1);
        due("three CURED still", 3, x.log(0, 1));
        due("OAK still", 5, x.log(0, 2));
    }

    private static void latestFirst() {
        SmokedSecrets x = Tell.coast("sw2h2o9;p;p;ck9");
        x.hang(0);
        x.nights(4);
        for (int i = 0; i < 4; i++) {
            due("log " + i, 5 + i, x.log(i, 2));
        }
        x.oak(20);
        due("OAK bought behind it is not in it", 5, x.log(0, 2));
    }

    // ---- promise 12

    private static void hangs() {
        CHECK.sentence("12 hang", "NONE: no such SECRET (STATUS 0)", BoundaryActsTest::hangNoSuchSecret);
        CHECK.sentence("12 hang", "CURED (2)", BoundaryActsTest::hangCured);
        CHECK.sentence("12 hang", "no COIN (3)", BoundaryActsTest::hangWithoutCoin);
        CHECK.sentence("Terms 2", "HUNG, or taken DOWN (what it SMOKED stays; a COIN)", BoundaryActsTest::hungAndDown);
        CHECK.sentence("Terms 2", "of several the first", BoundaryActsTest::hangOfSeveralTheFirst);
    }

    private static void hangNoSuchSecret() {
        SmokedSecrets x = new SmokedSecrets();
        due("without a COAST", -1, x.hang(0));
        statusDue(x, 1);
        x = Tell.coast(SMALL);
        int refused = 0;
        for (int secret : new int[] {-1, 3, 4, 6, MIN, MAX}) {
            due("hang " + secret, -1, x.hang(secret));
            refused++;
            statusDue(x, refused);
        }
        due("the first", 1, x.hang(0));
        due("the last", 1, x.hang(2));
        due("COINS for two", 7, x.rule(3));
        x = Tell.coast(FULL);
        due("a sixth", 1, x.hang(5));
        due("a seventh", -1, x.hang(6));
        due("it HANGS", 32, x.most(5));
    }

    private static void hangCured() {
        SmokedSecrets x = Tell.coast("sw2h2o9k9;p;p;ck1;ck2");
        hangAll(x);
        x.nights(1);
        due("CURED", -1, x.hang(0));
        statusDue(x, 0, 0, 1);
        due("it does not HANG", 0, x.secret(0, 3));
        due("COINS", 9, x.rule(3));
        due("the RAW one", 0, x.hang(1));
    }

    private static void hangWithoutCoin() {
        SmokedSecrets x = Tell.coast("sw2h2o9k1;p;p;ck9;ck9");
        due("the last COIN", 1, x.hang(0));
        due("none left", 0, x.rule(3));
        due("no COIN to hang", -1, x.hang(1));
        due("no COIN to take it DOWN", -1, x.hang(0));
        statusDue(x, 0, 0, 0, 2);
        due("one HANGS", 1, x.most(5));
        x.give(1);
        due("taken DOWN", 0, x.hang(0));
        due("none HANGS", 0, x.most(5));
        due("none left again", 0, x.rule(3));
    }

    private static void hungAndDown() {
        SmokedSecrets x = Tell.coast("sw2h2o9k9;p;px1n9;ca0k3");
        due("HUNG", 1, x.hang(0));
        x.nights(2);
        due("DOWN", 0, x.hang(0));
        due("COINS", 7, x.rule(3));
        due("what it SMOKED", 2, x.secret(0, 4));
        due("BREATH stays", 4, x.breath(1, 0));
        x.nights(1);
        due("it does not SMOKE", 2, x.secret(0, 4));
        due("HUNG again", 1, x.hang(0));
        x.nights(1);
        due("CURED by one more", 1, x.secret(0, 5));
    }

    private static void hangOfSeveralTheFirst() {
        SmokedSecrets x = Tell.coast("sw2h2o9k1;p;p;ck1;ck9");
        x.hang(0);
        x.nights(1);
        x.hang(1);
        x.hang(1);
        due("no COIN", 0, x.rule(3));
        due("CURED, and no COIN", -1, x.hang(0));
        statusDue(x, 0, 0, 1);
        due("no such one, and no COIN", -1, x.hang(2));
        statusDue(x, 1, 0, 1);
    }

    // ---- promise 13

    private static void winds() {
        CHECK.sentence("13 veers", "The WIND turns: what it was.", BoundaryActsTest::veersAllWays);
        CHECK.sentence("13 veers", "no such way (1)", BoundaryActsTest::veersNoSuchWay);
        CHECK.sentence("13 veers", "it is so (2)", BoundaryActsTest::veersItIsSo);
        CHECK.sentence("13 veers", "NONE: no COAST (STATUS 0)", BoundaryActsTest::veersWithoutCoast);
    }

    private static void veersAllWays() {
        SmokedSecrets x = Tell.coast("sv0k0;p;p;c");
        due("to 3", 0, x.veers(3));
        due("to 0", 3, x.veers(0));
        due("to 1", 0, x.veers(1));
        due("to 2", 1, x.veers(2));
        due("WIND", 2, x.most(11));
        due("for nothing, with no COIN", 0, x.rule(3));
        due("ACTS", 4, x.count(10));
        statusDue(x);
    }

    private static void veersNoSuchWay() {
        SmokedSecrets x = Tell.coast("sv3;p;p;c");
        int refused = 0;
        for (int way : new int[] {-1, 4, 5, MIN, MAX}) {
            due("veers " + way, -1, x.veers(way));
            refused++;
            statusDue(x, 0, refused);
        }
        due("WIND", 3, x.most(11));
    }

    private static void veersItIsSo() {
        for (int wind = 0; wind < 4; wind++) {
            SmokedSecrets x = Tell.coast("sv" + wind + ";p;p;c");
            due("it is so " + wind, -1, x.veers(wind));
            statusDue(x, 0, 0, 1);
            due("no ACT", 0, x.count(10));
            due("another way", wind, x.veers((wind + 1) % 4));
            due("it is so now", -1, x.veers((wind + 1) % 4));
        }
    }

    private static void veersWithoutCoast() {
        SmokedSecrets x = new SmokedSecrets();
        due("0", -1, x.veers(0));
        due("9", -1, x.veers(9));
        statusDue(x, 2);
    }

    // ---- promise 14

    private static void moving() {
        CHECK.sentence("14 moves", "out of the COAST (1)", BoundaryActsTest::movesOutOfTheCoast);
        CHECK.sentence("14 moves", "no such way", BoundaryActsTest::movesNoSuchWay);
        CHECK.sentence("14 moves", "NONE: no such PERSON (STATUS 0)", BoundaryActsTest::movesNoSuchPerson);
        CHECK.sentence("14 moves", "too few COINS (3)", BoundaryActsTest::movesTooFewCoins);
        CHECK.sentence("Terms 2", "A PERSON MOVES to a CELL above, below or beside his (2 COINS).",
            BoundaryActsTest::movesAllWays);
        CHECK.sentence("Terms 2", "of several the first", BoundaryActsTest::movesOfSeveralTheFirst);
    }

    private static void movesOutOfTheCoast() {
        int[][] size = {{2, 2}, {6, 5}, {4, 3}};
        for (int[] one : size) {
            int w = one[0];
            int h = one[1];
            String told = "sw" + w + "h" + h + "k99;p;px" + (w - 1) + ";py" + (h - 1) + ";px" + (w - 1) + "y" + (h - 1) + ";c";
            int[][] ways = {{0, 3}, {0, 1}, {2, 3}, {2, 1}};
            int[] corners = {0, w - 1, (h - 1) * w, h * w - 1};
            for (int person = 0; person < 4; person++) {
                SmokedSecrets x = Tell.coast(told);
                due("up or down, out", -1, x.moves(person, ways[person][0]));
                due("to the side, out", -1, x.moves(person, ways[person][1]));
                due("he stays", corners[person], Tell.person(x, person, 0));
                statusDue(x, 0, 2);
                due("no COIN is gone", 99, x.rule(3));
                int in = corners[person] + (ways[person][1] == 3 ? 1 : -1);
                due("to the other side", in, x.moves(person, 4 - ways[person][1]));
            }
        }
    }

    private static void movesNoSuchWay() {
        SmokedSecrets x = Tell.coast("sw3h3;px1y1;p;c");
        int refused = 0;
        for (int way : new int[] {-1, 4, 5, MIN, MAX}) {
            due("moves " + way, -1, x.moves(0, way));
            refused++;
            statusDue(x, 0, refused);
        }
        due("he stays", 4, Tell.person(x, 0, 0));
    }

    private static void movesNoSuchPerson() {
        SmokedSecrets x = new SmokedSecrets();
        due("without a COAST", -1, x.moves(0, 1));
        statusDue(x, 1);
        x = Tell.coast(SMALL);
        int refused = 0;
        for (int person : new int[] {-1, 3, 4, 6, MIN, MAX}) {
            due("person " + person, -1, x.moves(person, 1));
            refused++;
            statusDue(x, refused);
        }
        due("the last", 6, x.moves(2, 3));
        x = Tell.coast(FULL);
        due("a sixth", 28, x.moves(5, 3));
        due("a seventh", -1, x.moves(6, 3));
    }

    private static void movesTooFewCoins() {
        SmokedSecrets x = Tell.coast("sw3h3k2;p;p;c");
        due("two COINS", 1, x.moves(0, 1));
        due("none left", 0, x.rule(3));
        due("none", -1, x.moves(0, 1));
        x.give(1);
        due("one", -1, x.moves(0, 1));
        due("it stays", 1, x.rule(3));
        statusDue(x, 0, 0, 0, 2);
        x.give(1);
        due("two again", 2, x.moves(0, 1));
        x.give(3);
        due("three", 1, x.moves(0, 3));
        due("one left", 1, x.rule(3));
    }

    private static void movesAllWays() {
        int[] cells = {1, 5, 7, 3};
        for (int way = 0; way < 4; way++) {
            SmokedSecrets x = Tell.coast("sw3h3k9;p;px1y1;c");
            due("way " + way, cells[way], x.moves(1, way));
            due("where", cells[way], Tell.person(x, 1, 0));
            due("the other one stays", 0, Tell.person(x, 0, 0));
            due("COINS", 7, x.rule(3));
        }
    }

    private static void movesOfSeveralTheFirst() {
        SmokedSecrets x = Tell.coast("sw3h3k0;p;p;c");
        due("out of the COAST, and no COIN", -1, x.moves(0, 0));
        due("no such way, and no COIN", -1, x.moves(0, 4));
        statusDue(x, 0, 2);
        due("no such PERSON, no such way, and no COIN", -1, x.moves(2, 4));
        statusDue(x, 1, 2);
    }

    // ---- promise 15

    private static void buying() {
        CHECK.sentence("15 oak", "out of bounds (1)", BoundaryActsTest::oakOutOfBounds);
        CHECK.sentence("15 oak", "NONE: no COAST (STATUS 0)", BoundaryActsTest::oakWithoutCoast);
        CHECK.sentence("Terms 2", "half as many COINS, cut up", BoundaryActsTest::oakHalfCutUp);
        CHECK.sentence("15 oak", "too few COINS", BoundaryActsTest::oakTooFewCoins);
        CHECK.sentence("15 oak", "above 999 (3)", BoundaryActsTest::oakAbove);
        CHECK.sentence("Terms 2", "of several the first", BoundaryActsTest::oakOfSeveralTheFirst);
    }

    private static void oakOutOfBounds() {
        SmokedSecrets x = Tell.coast("so5k99;p;p;c");
        int refused = 0;
        for (int n : new int[] {0, -1, -30, 31, 32, 999, MIN, MAX}) {
            due("oak " + n, -1, x.oak(n));
            refused++;
            statusDue(x, 0, refused);
        }
        due("OAK", 5, x.rule(2));
        due("COINS", 99, x.rule(3));
        due("oak 1", 6, x.oak(1));
        due("oak 30", 36, x.oak(30));
    }

    private static void oakWithoutCoast() {
        SmokedSecrets x = new SmokedSecrets();
        due("1", -1, x.oak(1));
        due("0", -1, x.oak(0));
        statusDue(x, 2);
    }

    private static void oakHalfCutUp() {
        for (int n = 1; n <= 30; n++) {
            SmokedSecrets x = Tell.coast("so0k50;p;p;c");
            due("OAK", n, x.oak(n));
            int half = n % 2 == 0 ? n / 2 : n / 2 + 1;
            due("COINS for " + n, 50 - half, x.rule(3));
        }
    }

    private static void oakTooFewCoins() {
        for (int n = 1; n <= 30; n++) {
            int half = n % 2 == 0 ? n / 2 : n / 2 + 1;
            SmokedSecrets x = Tell.coast("so0k" + half + ";p;p;c");
            due("just enough for " + n, n, x.oak(n));
            due("none left", 0, x.rule(3));
            x = Tell.coast("so0k" + (half - 1) + ";p;p;c");
            due("one too few for " + n, -1, x.oak(n));
            statusDue(x, 0, 0, 0, 1);
            due("OAK", 0, x.rule(2));
            due("COINS", half - 1, x.rule(3));
        }
    }

    /** OAK 999 less so much, COINS enough. */
    private static SmokedSecrets oakBelowTheMost(int less) {
        SmokedSecrets x = Tell.coast("so99k99;p;p;ck9");
        for (int i = 0; i < 10; i++) {
            x.give(50);
        }
        for (int i = 0; i < 29; i++) {
            x.oak(30);
        }
        if (less < 30) {
            x.oak(30 - less);
        }
        due("OAK", 999 - less, x.rule(2));
        return x;
    }

    private static void oakAbove() {
        SmokedSecrets x = oakBelowTheMost(30);
        due("30 to 999", 999, x.oak(30));
        due("1 above", -1, x.oak(1));
        due("30 above", -1, x.oak(30));
        statusDue(x, 0, 0, 0, 2);
        x = oakBelowTheMost(29);
        due("30 to 1000", -1, x.oak(30));
        due("it stays", 970, x.rule(2));
        due("29 to 999", 999, x.oak(29));
        x = oakBelowTheMost(1);
        due("2 to 1000", -1, x.oak(2));
        due("1 to 999", 999, x.oak(1));
    }

    private static void oakOfSeveralTheFirst() {
        SmokedSecrets x = Tell.coast("so0k0;p;p;c");
        due("31, and no COIN", -1, x.oak(31));
        due("0, and no COIN", -1, x.oak(0));
        statusDue(x, 0, 2);
        x = oakBelowTheMost(0);
        due("31 above 999", -1, x.oak(31));
        statusDue(x, 0, 1);
    }

    // ---- promise 16

    private static void giving() {
        CHECK.sentence("16 give", "NONE: no COAST (STATUS 0)", BoundaryActsTest::giveWithoutCoast);
        CHECK.sentence("16 give", "out of bounds, above 999 (1)", BoundaryActsTest::giveOutOfBounds);
        CHECK.sentence("16 give", "out of bounds, above 999 (1)", BoundaryActsTest::giveAbove);
        CHECK.sentence("Terms 2", "above 999 (3; of COINS given 1)", BoundaryActsTest::giveAbove);
    }

    private static void giveWithoutCoast() {
        SmokedSecrets x = new SmokedSecrets();
        due("1", -1, x.give(1));
        due("51", -1, x.give(51));
        statusDue(x, 2);
    }

    private static void giveOutOfBounds() {
        SmokedSecrets x = Tell.coast("sk0;p;p;c");
        int refused = 0;
        for (int n : new int[] {0, -1, -50, 51, 52, 999, MIN, MAX}) {
            due("give " + n, -1, x.give(n));
            refused++;
            statusDue(x, 0, refused);
        }
        due("COINS", 0, x.rule(3));
        due("give 1", 1, x.give(1));
        due("give 50", 51, x.give(50));
    }

    private static void giveAbove() {
        SmokedSecrets x = Tell.coast("sk99;p;p;c");
        for (int i = 0; i < 17; i++) {
            x.give(50);
        }
        due("COINS", 949, x.rule(3));
        due("50 to 999", 999, x.give(50));
        due("1 above", -1, x.give(1));
        due("50 above", -1, x.give(50));
        statusDue(x, 0, 2);
        x.undo();
        x.give(1);
        due("50 to 1000", -1, x.give(50));
        due("it stays", 950, x.rule(3));
        due("49 to 999", 999, x.give(49));
        statusDue(x, 0, 3);
    }

    // ---- promise 17

    private static void gusting() {
        CHECK.sentence("17 gusts", "False: out of bounds, it is so.", BoundaryActsTest::gustsOutOfBounds);
        CHECK.sentence("17 gusts", "False: out of bounds, it is so.", BoundaryActsTest::gustsItIsSo);
        CHECK.sentence("Terms 4", "GUSTS (0 .. 9; 5 at first)", BoundaryActsTest::gustsBounds);
    }

    private static void gustsOutOfBounds() {
        SmokedSecrets x = new SmokedSecrets();
        for (int v : new int[] {-1, -2, 10, 11, MIN, MAX}) {
            due("gusts " + v, false, x.gusts(v));
            due("GUSTS", 5, x.count(7));
        }
        statusDue(x);
    }

    private static void gustsItIsSo() {
        SmokedSecrets x = new SmokedSecrets();
        due("5 is so", false, x.gusts(5));
        due("5", 5, x.count(7));
        due("4", true, x.gusts(4));
        due("4 is so", false, x.gusts(4));
        due("5 again", true, x.gusts(5));
        statusDue(x);
    }

    private static void gustsBounds() {
        SmokedSecrets x = new SmokedSecrets();
        due("at first", 5, x.count(7));
        due("0", true, x.gusts(0));
        due("0", 0, x.count(7));
        due("9", true, x.gusts(9));
        due("9", 9, x.count(7));
        due("it is no ACT", 0, x.count(10));
    }

    // ---- promise 18

    private static void yearsBounds() {
        CHECK.sentence("18 years", "NONE: no COAST, out of bounds, beyond 999.", BoundaryActsTest::yearsWithoutCoast);
        CHECK.sentence("18 years", "NONE: no COAST, out of bounds, beyond 999.", BoundaryActsTest::yearsOutOfBounds);
        CHECK.sentence("18 years", "NONE: no COAST, out of bounds, beyond 999.", BoundaryActsTest::yearsBeyondTheLast);
        CHECK.sentence("Terms 4", "No STATUS.", BoundaryActsTest::yearsNoStatus);
        CHECK.sentence("Terms 4", "Each NIGHT with what is ahead of it is one ACT.", BoundaryActsTest::yearsActs);
    }

    private static void yearsWithoutCoast() {
        SmokedSecrets x = new SmokedSecrets();
        due("1", -1, x.years(1, 1));
        due("60", -1, x.years(60, -1));
        statusDue(x);
    }

    private static void yearsOutOfBounds() {
        SmokedSecrets x = Tell.coast(SMALL);
        for (int n : new int[] {0, -1, -60, 61, 62, MIN, MAX}) {
            due("years " + n, -1, x.years(n, 1));
        }
        due("none went by", 0, x.count(6));
        due("no ACT", 0, x.count(10));
        due("1", 1, x.years(1, 1));
        due("60", 61, x.years(60, 1));
        statusDue(x);
    }

    private static void yearsBeyondTheLast() {
        SmokedSecrets x = Tell.coast(SMALL);
        toNight(x, 940);
        int acts = x.count(10);
        due("60 at 940", -1, x.years(60, 1));
        due("none of them goes by", 940, x.count(6));
        due("nothing is ahead of them", 0, x.most(5));
        due("no ACT more", acts, x.count(10));
        due("59 at 940", 999, x.years(59, 1));
        due("1 at 999", -1, x.years(1, 1));
        x.undo();
        due("2 at 998", -1, x.years(2, 1));
        due("1 at 998", 999, x.years(1, 1));
        statusDue(x);
    }

    private static void yearsNoStatus() {
        SmokedSecrets x = Tell.coast("sw2h2o0k0v0;p;p;ck1");
        for (long seed = 0; seed < 20; seed++) {
            x.years(2, seed);
        }
        x.years(61, 1);
        statusDue(x);
        due("NIGHT", 40, x.count(6));
    }

    private static void yearsActs() {
        SmokedSecrets x = Tell.coast(SMALL);
        x.gusts(9);
        x.years(3, 11);
        due("ACTS", 3, x.count(10));
        due("undone", 2, x.undo());
        due("undone", 1, x.undo());
        due("undone", 0, x.undo());
        due("NIGHT", 0, x.count(6));
        due("LOG", 0, x.count(9));
        due("HANGS", 0, x.most(5));
        due("WIND", 1, x.most(11));
        due("OAK", 9, x.rule(2));
        due("COINS", 9, x.rule(3));
        int[] homes = {0, 2, 7};
        for (int i = 0; i < 3; i++) {
            due("where " + i, homes[i], Tell.person(x, i, 0));
        }
        x.years(60, 11);
        due("40 at most", 40, x.count(10));
    }

    // ---- promise 18: draws

    /** The document's draws, in numbers without bounds. */
    private static final class Draws {
        private static final BigInteger ROUND = BigInteger.ONE.shiftLeft(64);
        private BigInteger x;

        Draws(long seed) {
            x = BigInteger.valueOf(seed).mod(ROUND);
        }

        int of(int j) {
            x = x.multiply(new BigInteger("6364136223846793005")).add(new BigInteger("1442695040888963407")).mod(ROUND);
            return x.shiftRight(33).mod(BigInteger.valueOf(j)).intValue();
        }
    }

    /** The first seed from one on whose first draw of 10 is this. */
    private static long seedWithFirst(int draw, long from) {
        for (long seed = from; seed < from + 1000; seed++) {
            if (new Draws(seed).of(10) == draw) {
                return seed;
            }
        }
        throw new IllegalArgumentException("no seed");
    }

    private static void yearsDraws() {
        CHECK.sentence("Terms 4", "a draw of 10 below GUSTS", BoundaryActsTest::belowGusts);
        CHECK.sentence("Terms 4", "(64 bits, going round)", BoundaryActsTest::goingRound);
        CHECK.sentence("Terms 4", "(x shifted right by 33, without sign) modulo j", BoundaryActsTest::withoutSign);
        CHECK.sentence("Terms 4", "is it RAW, it is HUNG, or taken DOWN", BoundaryActsTest::yearsRaw);
        CHECK.sentence("Terms 4", "a draw of 4: that one goes that way, if there is a CELL",
            BoundaryActsTest::yearsIfThereIsACell);
        CHECK.sentence("Terms 4", "OAK is one more (999 at most)", BoundaryActsTest::yearsOak);
        CHECK.sentence("Terms 4", "OAK is one more (999 at most)", BoundaryActsTest::yearsOakAtMost);
        CHECK.sentence("Terms 4", "OAK is one more (999 at most)", BoundaryActsTest::yearsOakAsTheNightBegins);
        CHECK.sentence("Terms 4", "all for nothing", BoundaryActsTest::yearsForNothing);
        CHECK.sentence("Terms 4", "x, at first the seed", BoundaryActsTest::yearsBySeed);
    }

    private static void belowGusts() {
        for (int gusts = 0; gusts <= 9; gusts++) {
            for (int draw = 0; draw <= 9; draw++) {
                long seed = seedWithFirst(draw, 1000L * gusts);
                Draws draws = new Draws(seed);
                draws.of(10);
                int turned = draws.of(4);
                SmokedSecrets x = Tell.coast("sv" + (turned + 1) % 4 + ";p;p;c");
                x.gusts(gusts);
                x.years(1, seed);
                due("draw " + draw + " GUSTS " + gusts, draw < gusts ? turned : (turned + 1) % 4, x.most(11));
            }
        }
        for (int draw = 4; draw <= 5; draw++) {
            long seed = seedWithFirst(draw, 0);
            Draws draws = new Draws(seed);
            draws.of(10);
            int turned = draws.of(4);
            SmokedSecrets x = Tell.coast("sv" + (turned + 1) % 4 + ";p;p;c");
            x.years(1, seed);
            due("draw " + draw + " of 5 at first", draw < 5 ? turned : (turned + 1) % 4, x.most(11));
        }
    }

    private static int side(int cell, int way, int wide, int rows) {
        int place = cell % wide + (way == 1 ? 1 : way == 3 ? -1 : 0);
        int row = cell / wide + (way == 2 ? 1 : way == 0 ? -1 : 0);
        return place < 0 || place >= wide || row < 0 || row >= rows ? cell : row * wide + place;
    }

    /** Sixty NIGHTS drawn by hand and gone by: who went where, the WIND, what HANGS, OAK. */
    private static void follow(long seed, int gusts) {
        SmokedSecrets x = Tell.coast("sw3h4o0k0v2;p;px1y1;px2y3;px2;ck9;ck9;ck1;ck9;ck9;ck9");
        x.gusts(gusts);
        due("years", 30, x.years(30, seed));
        Draws draws = new Draws(seed);
        int[] where = {0, 4, 11, 2};
        int[] heavy = {9, 9, 1, 9, 9, 9};
        int[] smoked = new int[6];
        int hanging = 0;
        int wind = 2;
        int oak = 0;
        for (int night = 0; night < 30; night++) {
            if (draws.of(10) < gusts) {
                wind = draws.of(4);
            }
            int secret = draws.of(6);
            if (smoked[secret] < heavy[secret]) {
                hanging ^= 1 << secret;
            }
            int person = draws.of(4);
            where[person] = side(where[person], draws.of(4), 3, 4);
            oak++;
            for (int i = 0; i < 6; i++) {
                if ((hanging & 1 << i) != 0 && oak > 0) {
                    oak--;
                    smoked[i]++;
                    if (smoked[i] == heavy[i]) {
                        hanging &= ~(1 << i);
                    }
                }
            }
        }
        due("WIND of " + seed, wind, x.most(11));
        due("HANGING of " + seed, hanging, x.most(5));
        due("OAK of " + seed, oak, x.rule(2));
        for (int i = 0; i < 4; i++) {
            due("where " + i + " of " + seed, where[i], Tell.person(x, i, 0));
        }
        for (int i = 0; i < 6; i++) {
            due("SMOKED " + i + " of " + seed, smoked[i], x.secret(i, 4));
        }
    }

    private static void goingRound() {
        for (long seed : new long[] {0, 1, -1, Long.MAX_VALUE, Long.MIN_VALUE, 1L << 32, 1L << 33, -1L << 33,
            Integer.MAX_VALUE, Integer.MIN_VALUE, 6364136223846793005L, -1442695040888963407L}) {
            for (int gusts : new int[] {0, 1, 5, 9}) {
                follow(seed, gusts);
            }
        }
    }

    private static void withoutSign() {
        // Behind its first step x is below 0 here (its highest bit is set): a shift with sign would draw otherwise.
        for (long seed = 1, found = 0; found < 10; seed++) {
            if (seed * 6364136223846793005L + 1442695040888963407L < 0) {
                follow(seed, 5);
                found++;
            }
        }
    }

    private static void yearsRaw() {
        SmokedSecrets x = Tell.coast("sw2h2o9;p;p;ck1");
        x.years(1, 5);
        due("HUNG, and CURED by it", 1, x.secret(0, 5));
        x.years(1, 6);
        due("CURED it is not HUNG", 0, x.secret(0, 3));
        due("SMOKED", 1, x.secret(0, 4));
        due("OAK: one more, one less, one more", 10, x.rule(2));
        x = Tell.coast("sw2h2o9;p;p;ck9");
        x.years(1, 5);
        due("HUNG", 1, x.secret(0, 3));
        x.years(1, 6);
        due("taken DOWN", 0, x.secret(0, 3));
        due("what it SMOKED stays", 1, x.secret(0, 4));
        x.years(2, 7);
        due("HUNG, and DOWN", 2, x.secret(0, 4));
    }

    private static void yearsIfThereIsACell() {
        boolean[] stayed = new boolean[4];
        for (long seed = 0; seed < 60; seed++) {
            SmokedSecrets x = Tell.coast("sw2h2;p;p;c");
            x.gusts(0);
            x.years(1, seed);
            Draws draws = new Draws(seed);
            draws.of(10);
            draws.of(1);
            int person = draws.of(2);
            int way = draws.of(4);
            due("he goes by " + seed, side(0, way, 2, 2), Tell.person(x, person, 0));
            due("the other stays by " + seed, 0, Tell.person(x, 1 - person, 0));
            stayed[way] = true;
        }
        due("all ways were drawn", true, stayed[0] && stayed[1] && stayed[2] && stayed[3]);
    }

    private static void yearsOak() {
        SmokedSecrets x = Tell.coast("sw2h2o0;p;p;ck9");
        x.years(1, 1);
        due("one more is there to SMOKE with", 1, x.secret(0, 4));
        due("and gone", 0, x.rule(2));
        x.years(1, 1);
        due("DOWN, one more", 1, x.rule(2));
        due("LOG", 1, x.log(0, 2));
        due("LOG ahead of it", 0, x.log(1, 2));
    }

    private static void yearsOakAtMost() {
        SmokedSecrets x = oakBelowTheMost(0);
        x.years(1, 1);
        due("999, one less by smoke", 998, x.rule(2));
        x.years(1, 1);
        due("999 without smoke", 999, x.rule(2));
        x.hang(0);
        x.years(1, 1);
        due("999 at most without smoke", 999, x.rule(2));
    }

    private static void yearsOakAsTheNightBegins() {
        int found = 0;
        for (long seed = 0; found < 5; seed++) {
            Draws draws = new Draws(seed);
            draws.of(10);
            draws.of(1);
            // 0 goes, and not to 1, who stays where the smoke goes.
            if (draws.of(2) == 0 && draws.of(4) != 1) {
                SmokedSecrets x = Tell.coast("sw2h2o4;p;px1n9;ca0k9");
                Tell.obey(x, "y:o");
                x.gusts(0);
                x.years(1, seed);
                due("4 and one more", 5, x.breath(1, 0));
                due("one less behind it", 4, x.rule(2));
                found++;
            }
        }
    }

    private static void yearsForNothing() {
        SmokedSecrets x = Tell.coast("sw2h2o9k0;p;p;ck9");
        x.years(3, 1);
        due("no COIN", 0, x.rule(3));
        due("HUNG with no COIN", 1, x.secret(0, 3));
        x = Tell.coast("sw2h2o9k7;p;p;ck9");
        x.years(3, 1);
        due("all COINS", 7, x.rule(3));
        x = Tell.coast("sw2h2o9k7;p;p;ck1");
        x.years(1, 1);
        due("COINS for what is CURED", 9, x.rule(3));
    }

    private static void yearsBySeed() {
        SmokedSecrets x = Tell.coast(SMALL);
        SmokedSecrets again = Tell.coast(SMALL);
        x.years(10, 77);
        again.years(3, 5);
        again.undo();
        again.undo();
        again.undo();
        again.years(10, 77);
        for (int i = 0; i < 12; i++) {
            due("most " + i, x.most(i), again.most(i));
        }
        for (int i = 0; i < 3; i++) {
            due("where " + i, Tell.person(x, i, 0), Tell.person(again, i, 0));
        }
    }

    // ---- promise 19

    private static void statuses() {
        CHECK.sentence("19 status", "NONE: no such what.", BoundaryActsTest::statusBounds);
        CHECK.sentence("Terms 2", "not UNDONE", BoundaryActsTest::statusNotUndone);
        CHECK.sentence("Terms 2", "how many ACTS were refused as there was no such one (0), out of bounds, not beside "
            + "it (1), it is CURED, it is so (2), too few COINS, above 999 (3; of COINS given 1), beyond the last "
            + "NIGHT (4)", BoundaryActsTest::statusOfEach);
    }

    private static void statusBounds() {
        SmokedSecrets x = new SmokedSecrets();
        for (int what : new int[] {-1, -2, 5, 6, MIN, MAX}) {
            due("status " + what, -1, x.status(what));
        }
        statusDue(x);
    }

    private static void statusNotUndone() {
        SmokedSecrets x = Tell.coast(SMALL);
        x.hang(0);
        x.hang(3);
        x.nights(0);
        x.veers(1);
        x.nights(1);
        x.image();
        statusDue(x, 1, 1, 1);
        x.undo();
        x.undo();
        statusDue(x, 1, 1, 1);
        x.back();
        statusDue(x, 1, 1, 1);
        x.undo();
        statusDue(x, 1, 1, 1);
    }

    private static void statusOfEach() {
        SmokedSecrets x = Tell.coast("sw2h2o9k1;p;p;ck1");
        x.hang(0);
        x.nights(1);
        x.hang(1);
        statusDue(x, 1);
        x.moves(0, 3);
        statusDue(x, 1, 1);
        x.hang(0);
        statusDue(x, 1, 1, 1);
        x.veers(1);
        statusDue(x, 1, 1, 2);
        x.oak(5);
        statusDue(x, 1, 1, 2, 1);
        toNight(x, 999);
        x.nights(1);
        statusDue(x, 1, 1, 2, 1, 1);
        // What is no ACT counts nowhere.
        x.gusts(10);
        x.gusts(5);
        x.law(3);
        x.years(1, 1);
        x.back();
        x.noted(9, 9, true);
        x.kept(9, 0, 0);
        x.status(7);
        x.log(60, 0);
        Tell.person(x, 9, 0);
        statusDue(x, 1, 1, 2, 1, 1);
    }

    // ---- promise 20

    private static void undoing() {
        CHECK.sentence("20 undo", "NONE: none.", BoundaryActsTest::undoNone);
        CHECK.sentence("Terms 2", "the latest 40 can be UNDONE one by one (LOG, too)", BoundaryActsTest::latestForty);
        CHECK.sentence("Terms 2", "All these (each NIGHT) are ACTS", BoundaryActsTest::eachIsOneAct);
        CHECK.sentence("Terms 2", "(LOG, too)", BoundaryActsTest::undoneLogGrowsBack);
        CHECK.sentence("20 undo", "The latest ACT is UNDONE: how many still can be.", BoundaryActsTest::howManyStill);
    }

    private static void undoNone() {
        due("without a COAST", -1, new SmokedSecrets().undo());
        SmokedSecrets x = Tell.coast(SMALL);
        due("no ACT", -1, x.undo());
        x.nights(0);
        x.hang(3);
        due("refused ones are none", -1, x.undo());
        x.nights(1);
        due("one", 0, x.undo());
        due("no more", -1, x.undo());
        x.nights(1);
        Tell.text(x, 0, SMALL);
        due("none of another COAST", -1, x.undo());
        x.nights(1);
        x.image();
        x.nights(1);
        x.back();
        due("none behind BACK", -1, x.undo());
        statusDue(x, 1, 1);
    }

    private static void latestForty() {
        SmokedSecrets x = Tell.coast("sk0;p;p;c");
        for (int i = 1; i <= 41; i++) {
            x.give(1);
            due("ACTS " + i, Math.min(40, i), x.count(10));
        }
        for (int left = 39; left >= 0; left--) {
            due("undo", left, x.undo());
            due("COINS", left + 1, x.rule(3));
        }
        due("a 41st", -1, x.undo());
        due("the first stays", 1, x.rule(3));
        due("count", 0, x.count(10));
        // Over and over, so that the latest 40 go round.
        for (int i = 0; i < 130; i++) {
            x.give(1);
        }
        for (int left = 39; left >= 0; left--) {
            due("undo again", left, x.undo());
        }
        due("no more", -1, x.undo());
        due("COINS", 91, x.rule(3));
    }

    private static void eachIsOneAct() {
        SmokedSecrets x = Tell.coast(SMALL);
        x.hang(0);
        due("HUNG", 1, x.count(10));
        x.hang(0);
        due("DOWN", 2, x.count(10));
        x.veers(3);
        due("WIND", 3, x.count(10));
        x.moves(0, 1);
        due("MOVES", 4, x.count(10));
        x.oak(2);
        due("OAK", 5, x.count(10));
        x.give(3);
        due("COINS", 6, x.count(10));
        x.nights(3);
        due("three NIGHTS", 9, x.count(10));
        x.years(2, 1);
        due("two by draws", 11, x.count(10));
        x.gusts(1);
        x.noted(0, 0, true);
        x.law(-1);
        x.image();
        due("no others", 11, x.count(10));
        x.nights(60);
        due("40 at most", 40, x.count(10));
        due("NIGHT", 65, x.count(6));
        due("undone", 39, x.undo());
        due("one NIGHT", 64, x.count(6));
    }

    private static void undoneLogGrowsBack() {
        SmokedSecrets x = Tell.coast("sw2h2o99;p;p;ck9;ck9");
        hangAll(x);
        x.nights(60);
        x.nights(40);
        due("none of the smoky ones is left", 81, x.log(59, 2));
        for (int i = 0; i < 40; i++) {
            x.undo();
        }
        due("NIGHT", 60, x.count(6));
        due("length", 60, x.count(9));
        due("the first NIGHT's again", 97, x.log(59, 2));
        due("the second NIGHT's again", 95, x.log(58, 2));
        due("the ninth NIGHT's again", 2, x.log(51, 1));
        x.nights(1);
        due("the second is the last then", 95, x.log(59, 2));
        x = Tell.coast("sw2h2o99;p;p;ck9");
        x.nights(5);
        x.undo();
        x.undo();
        due("three", 3, x.count(9));
        due("no fourth", -1, x.log(3, 0));
    }

    private static void howManyStill() {
        SmokedSecrets x = Tell.coast(SMALL);
        x.hang(0);
        x.nights(2);
        x.veers(0);
        due("WIND", 3, x.undo());
        due("it is as it was", 1, x.most(11));
        due("a NIGHT", 2, x.undo());
        due("NIGHT", 1, x.count(6));
        due("BREATH", 3, x.breath(0, 0));
        due("a NIGHT", 1, x.undo());
        due("BREATH", 0, x.breath(0, 0));
        due("OAK", 9, x.rule(2));
        due("SMOKED", 0, x.secret(0, 4));
        due("it HANGS", 1, x.secret(0, 3));
        due("HUNG", 0, x.undo());
        due("it does not HANG", 0, x.secret(0, 3));
        due("COINS", 9, x.rule(3));
    }

    // ---- promises 38 and 39

    private static void images() {
        CHECK.sentence("38 image", "NONE: no COAST.", BoundaryActsTest::imageWithoutCoast);
        CHECK.sentence("38 image", "An IMAGE (instead of the one ahead): the NIGHT.",
            BoundaryActsTest::imageInsteadOfTheOneAhead);
        CHECK.sentence("39 back", "NONE: no IMAGE of this COAST.", BoundaryActsTest::backWithoutImage);
        CHECK.sentence("Terms 4", "(no ACT can be UNDONE then)", BoundaryActsTest::noActThen);
        CHECK.sentence("Terms 4", "An IMAGE keeps where all are, BREATHS, what HANGS, SMOKED, is CURED, WIND, OAK, "
            + "COINS, the NIGHT, the LOG", BoundaryActsTest::whatAnImageKeeps);
        CHECK.sentence("Terms 4", "the LOG", BoundaryActsTest::imageOfAFullLog);
    }

    private static void imageWithoutCoast() {
        SmokedSecrets x = new SmokedSecrets();
        due("image", -1, x.image());
        due("no IMAGE", -1, x.back());
        Tell.text(x, 0, SMALL);
        due("of the COAST none", -1, x.back());
        due("NIGHT 0", 0, x.image());
        toNight(x, 999);
        due("NIGHT 999", 999, x.image());
        due("back", 999, x.back());
        statusDue(x);
    }

    private static void imageInsteadOfTheOneAhead() {
        SmokedSecrets x = Tell.coast(SMALL);
        due("first", 0, x.image());
        x.nights(2);
        due("second", 2, x.image());
        x.nights(3);
        due("back to the second", 2, x.back());
        due("and again", 2, x.back());
        x.nights(1);
        due("and again", 2, x.back());
    }

    private static void backWithoutImage() {
        due("without a COAST", -1, new SmokedSecrets().back());
        SmokedSecrets x = Tell.coast(SMALL);
        x.nights(1);
        due("none", -1, x.back());
        due("nothing changes", 1, x.count(10));
        x.image();
        Tell.text(x, 0, SMALL);
        due("of another COAST", -1, x.back());
        x.nights(3);
        due("NIGHT", 3, x.count(6));
        due("of this one", 3, x.image());
        due("back", 3, x.back());
        Tell.text(x, 0, "p;p");
        due("a COAST refused takes none", 3, x.back());
    }

    private static void noActThen() {
        SmokedSecrets x = Tell.coast(SMALL);
        x.nights(3);
        x.image();
        due("an IMAGE leaves ACTS", 3, x.count(10));
        x.nights(2);
        x.back();
        due("none", 0, x.count(10));
        due("undo", -1, x.undo());
        due("NIGHT", 3, x.count(6));
        x.give(1);
        due("one", 0, x.undo());
        due("no more", -1, x.undo());
        due("UNDO leaves the IMAGE", 3, x.back());
    }

    private static void whatAnImageKeeps() {
        SmokedSecrets x = Tell.coast("sw4h3o20k50v1;p;px1n9;px3y1n9;ca0k3;ca0k2;ca2k9");
        x.hang(0);
        x.hang(1);
        x.nights(2);
        x.moves(2, 3);
        x.veers(2);
        x.image();
        int oak = x.rule(2);
        int coins = x.rule(3);
        x.hang(2);
        x.hang(0);
        x.moves(2, 3);
        x.moves(0, 1);
        x.veers(0);
        x.nights(9);
        x.give(20);
        x.oak(7);
        due("back", 2, x.back());
        due("where", 6, Tell.person(x, 2, 0));
        due("where", 0, Tell.person(x, 0, 0));
        // SECRET 0, HEAVY 3, one off, SMOKED two NIGHTS over 1; SECRET 1, HEAVY 2, is CURED by them.
        due("BREATH", 4, x.breath(1, 0));
        due("BREATH", 2, x.breath(1, 1));
        due("HANGING", 1, x.most(5));
        due("CURED", 2, x.most(6));
        due("SMOKED", 2, x.secret(0, 4));
        due("SMOKED", 0, x.secret(2, 4));
        due("WIND", 2, x.most(11));
        due("OAK", 16, oak);
        due("OAK again", 16, x.rule(2));
        due("COINS", 48, coins);
        due("COINS again", 48, x.rule(3));
        due("NIGHT", 2, x.count(6));
        due("LOG", 2, x.count(9));
        due("LOG: CURED", 1, x.log(0, 1));
        due("LOG: OAK", 18, x.log(1, 2));
    }

    private static void imageOfAFullLog() {
        SmokedSecrets x = Tell.coast("sw2h2o99;p;p;ck9");
        x.hang(0);
        x.nights(60);
        x.image();
        x.nights(60);
        x.nights(60);
        x.nights(30);
        due("back", 60, x.back());
        due("length", 60, x.count(9));
        due("the first", 98, x.log(59, 2));
        due("the ninth", 90, x.log(51, 2));
        due("the eighth", 91, x.log(52, 2));
        x.nights(1);
        due("the second then", 97, x.log(59, 2));
    }

    // ---- what is refused

    private static void refusals() {
        CHECK.sentence("Terms 4", "What is refused answers as told and changes nothing but STATUS.",
            BoundaryActsTest::refusedChangesNothing);
    }

    /** All that can be seen, STATUS apart, and what UNDO and BACK lead to. */
    private static String seen(SmokedSecrets x) {
        StringBuilder all = new StringBuilder();
        for (int i = 0; i < 12; i++) {
            all.append(x.most(i)).append(' ').append(x.count(i)).append(' ').append(x.rule(i)).append(' ');
        }
        for (int i = 0; i < 3; i++) {
            for (int j = 0; j < 7; j++) {
                all.append(Tell.person(x, i, j)).append(' ').append(x.secret(i, j)).append(' ');
            }
            for (int j = 0; j < 3; j++) {
                all.append(x.breath(i, j)).append(' ').append(x.log(i, j)).append(' ').append(x.soon(i, j)).append(' ');
            }
            all.append(x.heavies(i, -1)).append(' ').append(x.smells(i)).append(' ').append(x.ready(i)).append(' ');
        }
        all.append(x.fault(0)).append(' ').append(x.fault(1)).append(' ');
        x.years(1, 3);
        all.append(x.most(11)).append(' ').append(x.most(5)).append(' ');
        for (int left = x.undo(); left >= 0; left = x.undo()) {
            all.append(x.rule(3)).append(' ').append(x.count(6)).append(' ').append(x.most(11)).append(' ');
        }
        all.append(x.back()).append(' ').append(x.rule(3)).append(' ').append(x.count(6));
        return all.toString();
    }

    private static SmokedSecrets busy() {
        SmokedSecrets x = Tell.coast("sw4h3o9k5v1;p;px2n2;px3y1n4;ca0k3;ca1k1x1;ca2k9x3y2");
        Tell.obey(x, "y:k-f");
        Tell.text(x, 1, "y:2");
        Tell.text(x, 1, "y:3");
        Tell.text(x, 1, "y:4");
        x.hang(0);
        x.hang(1);
        x.nights(2);
        x.image();
        x.moves(0, 2);
        x.moves(0, 1);
        for (int i = 0; i < 10; i++) {
            x.noted(0, 1, true);
        }
        Tell.feed(x, "y:k" + " ".repeat(230));
        return x;
    }

    private static void refused(String what, java.util.function.ToIntFunction<SmokedSecrets> call) {
        SmokedSecrets x = busy();
        due(what, -1, call.applyAsInt(x));
        CHECK.due(what + " leaves all as it was", true, seen(busy()).equals(seen(x)));
    }

    private static void refusedChangesNothing() {
        due("COINS", 1, busy().rule(3));
        refused("nights 0", x -> x.nights(0));
        refused("nights 61", x -> x.nights(61));
        refused("hang 3", x -> x.hang(3));
        refused("hang of CURED", x -> x.hang(1));
        refused("veers 4", x -> x.veers(4));
        refused("veers 1", x -> x.veers(1));
        refused("moves 3", x -> x.moves(3, 1));
        refused("moves out", x -> x.moves(1, 0));
        refused("moves 4", x -> x.moves(1, 4));
        refused("moves with one COIN", x -> x.moves(1, 1));
        refused("oak 0", x -> x.oak(0));
        refused("oak 31", x -> x.oak(31));
        refused("oak 3 with one COIN", x -> x.oak(3));
        refused("give 0", x -> x.give(0));
        refused("give 51", x -> x.give(51));
        refused("years 0", x -> x.years(0, 9));
        refused("years 61", x -> x.years(61, 9));
        refused("feed too much", x -> x.feed(-1, -1, -1, -1, -1));
        refused("text 0", x -> x.text(0));
        refused("text 1, a fifth", x -> x.text(1));
        refused("text 2", x -> x.text(2));
        refused("noted, an eleventh", x -> x.noted(0, 0, false));
        refused("noted 3", x -> x.noted(3, 0, false));
        refused("kept of CURED", x -> x.kept(1, 0, 0));
        refused("status 5", x -> x.status(5));
        refused("log 2", x -> x.log(2, 0));
        refused("law 4", x -> x.law(4) ? 1 : -1);
        refused("end 241", x -> x.end(241) ? 1 : -1);
        refused("end -1", x -> x.end(-1) ? 1 : -1);
        refused("gusts 10", x -> x.gusts(10) ? 1 : -1);
        refused("gusts 5", x -> x.gusts(5) ? 1 : -1);
    }
}
