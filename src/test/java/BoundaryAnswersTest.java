/**
 * The boundary cases of what is answered apart, sentence by sentence: STRENGTH and AIR, SOON, READY, KEPT, NOTED,
 * HEAVIES, ASK, WORTHWHILE, OUT, GAME, RESTS, ODDS, SHARES and the rest (promises 22 to 37 and 40, Terms 2 and 3).
 * The answers due are worked out by hand.
 */
public final class BoundaryAnswersTest {
    private static final Check CHECK = new Check("BoundaryAnswersTest");
    private static final int MIN = Integer.MIN_VALUE;
    private static final int MAX = Integer.MAX_VALUE;
    private static final int ALL = 1000000000;

    /** Four wide, three ROWS, the WIND to the right; SECRET 0 smokes over the first ROW, where 0 and 1 live. */
    private static final String SMALL = "sw4h3o9k9v1;p;px2n2;px3y1n4;ca0k3;ca1k2x1;ca2k1x3y2";

    private BoundaryAnswersTest() {
    }

    private static void due(String what, long want, long got) {
        CHECK.due(what, want, got);
    }

    private static void hangAll(SmokedSecrets x) {
        for (int i = 0; i < x.count(2); i++) {
            x.hang(i);
        }
    }

    private static void toLastNight(SmokedSecrets x) {
        for (int i = 0; i < 16; i++) {
            x.nights(60);
        }
        x.nights(39);
        due("NIGHT", 999, x.count(6));
    }

    public static void main(String[] args) {
        strengths();
        airs();
        soons();
        readies();
        keptOnes();
        keptRows();
        notes();
        heavies();
        asks();
        worthwhiles();
        outs();
        games();
        rests();
        odds();
        shares();
        most();
        counts();
        CHECK.end();
    }

    // ---- promises 22 and 23

    private static void strengths() {
        CHECK.sentence("22 strength", "NONE: no such ones.", BoundaryAnswersTest::strengthBounds);
        CHECK.sentence("Terms 2", "0, unless that CELL is its SHED, or lies the way the WIND goes straight from it, f "
            + "CELLS off (0 in its SHED)", BoundaryAnswersTest::straightFromTheShed);
        CHECK.sentence("Terms 2", "straight from it", BoundaryAnswersTest::notRoundTheEdge);
        CHECK.sentence("Terms 2", "held within 0 .. 9 (none at first: how HEAVY less f)",
            BoundaryAnswersTest::heavyLessOff);
        CHECK.sentence("22 strength", "STRENGTH (HANGING or not).", BoundaryAnswersTest::strengthHangingOrNot);
        CHECK.sentence("23 smells", "NONE: no such SECRET.", BoundaryAnswersTest::smellsBounds);
        CHECK.sentence("Terms 3", "CELLS (bits) where its STRENGTH is above 0 now, HANGING or not",
            BoundaryAnswersTest::smellsAboveZero);
    }

    private static void strengthBounds() {
        due("without a COAST", -1, new SmokedSecrets().strength(0, 0));
        SmokedSecrets x = Tell.coast(SMALL);
        for (int secret : new int[] {-1, 3, 4, 6, MIN, MAX}) {
            due("secret " + secret, -1, x.strength(secret, 0));
        }
        for (int cell : new int[] {-1, 12, 13, 30, MIN, MAX}) {
            due("cell " + cell, -1, x.strength(0, cell));
        }
        due("the first ones", 3, x.strength(0, 0));
        due("the last ones", 1, x.strength(2, 11));
        x = Tell.coast("sw6h5;p;p;c;c;c;c;c;cx5y4k9");
        due("the last of all", 9, x.strength(5, 29));
        due("a CELL more", -1, x.strength(5, 30));
        due("a SECRET more", -1, x.strength(6, 29));
    }

    private static void line(SmokedSecrets x, int secret, int[] cells, int... want) {
        for (int cell = 0; cell < x.count(0); cell++) {
            int due = 0;
            for (int i = 0; i < cells.length; i++) {
                due = cells[i] == cell ? want[i] : due;
            }
            due("strength of " + secret + " at " + cell, due, x.strength(secret, cell));
        }
    }

    private static void straightFromTheShed() {
        SmokedSecrets x = Tell.coast("sw5h5v0;p;p;cx2y2k9");
        line(x, 0, new int[] {12, 7, 2}, 9, 8, 7);
        x.veers(1);
        line(x, 0, new int[] {12, 13, 14}, 9, 8, 7);
        x.veers(2);
        line(x, 0, new int[] {12, 17, 22}, 9, 8, 7);
        x.veers(3);
        line(x, 0, new int[] {12, 11, 10}, 9, 8, 7);
        Tell.obey(x, "y:5+f");
        line(x, 0, new int[] {12, 11, 10}, 5, 6, 7);
    }

    private static void notRoundTheEdge() {
        SmokedSecrets x = Tell.coast("sw6h5v0;p;p;ck9;cx5y4k9;cx5k9;cy4k9");
        line(x, 0, new int[] {0}, 9);
        line(x, 1, new int[] {29, 23, 17, 11, 5}, 9, 8, 7, 6, 5);
        line(x, 2, new int[] {5}, 9);
        line(x, 3, new int[] {24, 18, 12, 6, 0}, 9, 8, 7, 6, 5);
        x.veers(1);
        line(x, 0, new int[] {0, 1, 2, 3, 4, 5}, 9, 8, 7, 6, 5, 4);
        line(x, 1, new int[] {29}, 9);
        line(x, 2, new int[] {5}, 9);
        line(x, 3, new int[] {24, 25, 26, 27, 28, 29}, 9, 8, 7, 6, 5, 4);
        x.veers(2);
        line(x, 0, new int[] {0, 6, 12, 18, 24}, 9, 8, 7, 6, 5);
        line(x, 1, new int[] {29}, 9);
        line(x, 2, new int[] {5, 11, 17, 23, 29}, 9, 8, 7, 6, 5);
        line(x, 3, new int[] {24}, 9);
        x.veers(3);
        line(x, 0, new int[] {0}, 9);
        line(x, 1, new int[] {29, 28, 27, 26, 25, 24}, 9, 8, 7, 6, 5, 4);
        line(x, 2, new int[] {5, 4, 3, 2, 1, 0}, 9, 8, 7, 6, 5, 4);
        line(x, 3, new int[] {24}, 9);
    }

    private static void heavyLessOff() {
        SmokedSecrets x = Tell.coast("sw6h2;p;p;ck1;ck2;ck5;ck6;ck9");
        int[] cells = {0, 1, 2, 3, 4, 5};
        line(x, 0, cells, 1, 0, 0, 0, 0, 0);
        line(x, 1, cells, 2, 1, 0, 0, 0, 0);
        line(x, 2, cells, 5, 4, 3, 2, 1, 0);
        line(x, 3, cells, 6, 5, 4, 3, 2, 1);
        line(x, 4, cells, 9, 8, 7, 6, 5, 4);
    }

    private static void strengthHangingOrNot() {
        SmokedSecrets x = Tell.coast(SMALL);
        due("not HANGING", 3, x.strength(0, 0));
        x.hang(0);
        due("HANGING", 3, x.strength(0, 0));
        x.nights(3);
        due("CURED", 1, x.secret(0, 5));
        due("CURED, it does not HANG", 3, x.strength(0, 0));
        due("and SMELLS", 7, x.smells(0));
        due("without AIR", 0, x.air(0));
    }

    private static void smellsBounds() {
        due("without a COAST", -1, new SmokedSecrets().smells(0));
        SmokedSecrets x = Tell.coast(SMALL);
        for (int secret : new int[] {-1, 3, 4, 6, MIN, MAX}) {
            due("smells " + secret, -1, x.smells(secret));
        }
        due("the first", 7, x.smells(0));
        due("the last", 1 << 11, x.smells(2));
        x = Tell.coast("sw6h5;p;p;c;c;c;c;c;cx5y4k9");
        due("a sixth, in the last CELL", 1 << 29, x.smells(5));
        due("a seventh", -1, x.smells(6));
    }

    private static void smellsAboveZero() {
        SmokedSecrets x = Tell.coast("sw6h2;p;p;ck1;ck3;ck9");
        due("HEAVY 1", 1, x.smells(0));
        due("HEAVY 3", 7, x.smells(1));
        due("HEAVY 9", 63, x.smells(2));
        Tell.obey(x, "y:0");
        due("nowhere", 0, x.smells(2));
        Tell.obey(x, "y:f=3?1;y:0-1");
        due("three off alone", 8, x.smells(0));
    }

    // ---- promise 24

    private static void airs() {
        CHECK.sentence("24 air", "NONE: no such CELL.", BoundaryAnswersTest::airBounds);
        CHECK.sentence("Terms 3", "STRENGTHS there of all SECRETS that HANG together", BoundaryAnswersTest::airOfAll);
        CHECK.sentence("Terms 3", "of all SECRETS that HANG", BoundaryAnswersTest::airWithoutOak);
    }

    private static void airBounds() {
        due("without a COAST", -1, new SmokedSecrets().air(0));
        SmokedSecrets x = Tell.coast(SMALL);
        for (int cell : new int[] {-1, 12, 13, 30, MIN, MAX}) {
            due("air " + cell, -1, x.air(cell));
        }
        due("the first", 0, x.air(0));
        due("the last", 0, x.air(11));
        x = Tell.coast("sw6h5;p;p;cx5y4");
        x.hang(0);
        due("the last of thirty", 3, x.air(29));
        due("one more", -1, x.air(30));
    }

    private static void airOfAll() {
        SmokedSecrets x = Tell.coast("sw6h2o99;p;p;ck9;ck9;ck9;ck9;ck9;ck9");
        due("none HANGS", 0, x.air(0));
        for (int i = 0; i < 6; i++) {
            x.hang(i);
            due("so many HANG", 9 * (i + 1), x.air(0));
            due("five off", 4 * (i + 1), x.air(5));
        }
        due("not there", 0, x.air(6));
        x.hang(3);
        due("one DOWN", 45, x.air(0));
    }

    private static void airWithoutOak() {
        SmokedSecrets x = Tell.coast("sw6h2o0;p;p;ck9;ck3");
        hangAll(x);
        due("no OAK", 12, x.air(0));
        due("FOUL", 6, x.most(7));
    }

    // ---- promise 25

    private static void soons() {
        CHECK.sentence("25 soon", "NONE: not within 99, no such ones.", BoundaryAnswersTest::soonBounds);
        CHECK.sentence("25 soon", "not within 99", BoundaryAnswersTest::soonNever);
        CHECK.sentence("Terms 3", "in how many NIGHTS (0 .. 99) he KNOWS it first", BoundaryAnswersTest::soonAtOnce);
        CHECK.sentence("Terms 3", "he KNOWS it first", BoundaryAnswersTest::soonByAndBy);
        CHECK.sentence("Terms 3", "NIGHTS go on behind 999", BoundaryAnswersTest::soonBehindTheLast);
        CHECK.sentence("Terms 3", "Apart, from as it is now", BoundaryAnswersTest::apart);
    }

    private static void soonBounds() {
        due("without a COAST", -1, new SmokedSecrets().soon(0, 0));
        SmokedSecrets x = Tell.coast(SMALL);
        for (int one : new int[] {-1, 3, 4, 6, MIN, MAX}) {
            due("person " + one, -1, x.soon(one, 0));
            due("secret " + one, -1, x.soon(0, one));
        }
        due("the last ones", 0, x.soon(2, 2));
        x = Tell.coast("p;p;p;p;p;p;c;c;c;c;c;ca5");
        due("the sixth ones", 0, x.soon(5, 5));
        due("a seventh", -1, x.soon(6, 5));
        due("a seventh", -1, x.soon(5, 6));
    }

    private static void soonNever() {
        SmokedSecrets x = Tell.coast("sw3h2o2;p;px1n9;py1;ca0k3;ca0k1y1x1");
        due("nothing HANGS, nobody sits there", -1, x.soon(1, 0));
        x.hang(0);
        // BREATH 2, and 2 of two OAK: 4 of 9.
        due("OAK ends", -1, x.soon(1, 0));
        due("out of the smoke", -1, x.soon(2, 0));
        x.oak(1);
        // CURED with BREATH 6 of 9.
        due("CURED ahead of it", -1, x.soon(1, 0));
        x.hang(1);
        due("CURED in a NIGHT", -1, x.soon(1, 1));
    }

    private static void soonAtOnce() {
        SmokedSecrets x = Tell.coast("sw3h2o9;p;px1n2;ca0k3");
        due("his own", 0, x.soon(0, 0));
        x.hang(0);
        due("in one", 1, x.soon(1, 0));
        x.nights(1);
        due("he KNOWS it", 0, x.soon(1, 0));
        x.nights(9);
        due("he KNOWS it still", 0, x.soon(1, 0));
    }

    private static void soonByAndBy() {
        SmokedSecrets x = Tell.coast("sw3h2o9;p;pn9;px1n9;py1n1;ca0k9;ca0k9x2y1");
        due("at the TABLE", 9, x.soon(1, 0));
        Tell.obey(x, "y:1");
        x.hang(0);
        due("at the TABLE and by smoke: 2 a NIGHT", 5, x.soon(1, 0));
        due("by smoke", 9, x.soon(2, 0));
        due("never", -1, x.soon(3, 0));
        x.nights(4);
        due("one more", 1, x.soon(1, 0));
        due("five more", 5, x.soon(2, 0));
        // Six at the TABLE, the last one's NOSE 9: three of 0 alone, then of five.
        x = Tell.coast("sw2h2o0;p;p;p;p;p;pn9;ca0k9");
        due("1 hears three", 3, x.soon(1, 0));
        due("5 hears 3, 8, 13", 5, x.soon(5, 0));
    }

    private static void soonBehindTheLast() {
        SmokedSecrets x = Tell.coast("sw3h2o9;p;px1n9;ca0k9");
        toLastNight(x);
        x.hang(0);
        due("8 a NIGHT", 2, x.soon(1, 0));
        due("READY", 9, x.ready(0));
        Tell.obey(x, "y:t=0?9;y:0");
        due("NIGHT 999 is 99, NIGHT 1000 is 0", 2, x.soon(1, 0));
        due("by ODDS", ALL, x.odds(1, 0, 2, 0));
        due("not by one", 0, x.odds(1, 0, 1, 0));
        due("it is 999 still", 999, x.count(6));
        x = Tell.coast("sw3h2o9;p;px1n1;ca0k2");
        toLastNight(x);
        Tell.obey(x, "y:t=0?9;y:0");
        due("KEPT behind 999: not to the right in the second", 4 * 3, x.kept(0, 2, 1));
    }

    private static void apart() {
        SmokedSecrets x = Tell.coast(SMALL);
        x.hang(0);
        x.hang(1);
        x.nights(1);
        x.soon(2, 0);
        x.ready(2);
        x.kept(2, 3, 1);
        x.odds(2, 0, 6, 50);
        x.worthwhile(0);
        x.out(0, 0);
        x.game(0, 1, 1, 3, 0);
        x.rests(0, 1, -1);
        x.heavies(0, -1);
        x.ask(0);
        int[] counts = {12, 3, 3, 0, 0, -1, 1, 5, 0, 1, 3};
        for (int i = 0; i < counts.length; i++) {
            due("count " + i, counts[i], x.count(i));
        }
        int[] most = {0, 1, 0, 0, 0, 3, 0, 3, 0, 4, 4, 1};
        for (int i = 0; i < most.length; i++) {
            due("most " + i, most[i], x.most(i));
        }
        due("OAK", 7, x.rule(2));
        due("COINS", 7, x.rule(3));
        due("BREATH", 3, x.breath(0, 0));
        due("BREATH", 0, x.breath(2, 0));
        due("SMOKED", 1, x.secret(0, 4));
        due("where", 0, Tell.person(x, 0, 0));
        due("LOG", 7, x.log(0, 2));
    }

    // ---- promise 26

    private static void readies() {
        CHECK.sentence("26 ready", "NONE: not within 99, no such SECRET.", BoundaryAnswersTest::readyBounds);
        CHECK.sentence("26 ready", "not within 99", BoundaryAnswersTest::readyNever);
        CHECK.sentence("26 ready", "READY (CURED: 0).", BoundaryAnswersTest::readyCured);
        CHECK.sentence("Terms 3", "in how many NIGHTS (0 .. 99) it is CURED first", BoundaryAnswersTest::readyByOak);
    }

    private static void readyBounds() {
        due("without a COAST", -1, new SmokedSecrets().ready(0));
        SmokedSecrets x = Tell.coast(SMALL);
        hangAll(x);
        for (int secret : new int[] {-1, 3, 4, 6, MIN, MAX}) {
            due("ready " + secret, -1, x.ready(secret));
        }
        due("the first", 3, x.ready(0));
        due("the last", 1, x.ready(2));
    }

    private static void readyNever() {
        SmokedSecrets x = Tell.coast("sw2h2o0;p;p;ck1;ck1");
        due("it does not HANG", -1, x.ready(0));
        x.hang(0);
        due("no OAK", -1, x.ready(0));
        x.oak(1);
        due("one OAK", 1, x.ready(0));
        x.hang(1);
        due("none for the second", -1, x.ready(1));
        x.hang(0);
        due("the first DOWN, one for the second", 1, x.ready(1));
    }

    private static void readyCured() {
        SmokedSecrets x = Tell.coast("sw2h2o9;p;p;ck1");
        x.hang(0);
        due("in one", 1, x.ready(0));
        x.nights(1);
        due("CURED", 0, x.ready(0));
        x.nights(60);
        due("CURED still", 0, x.ready(0));
    }

    private static void readyByOak() {
        for (int heavy = 1; heavy <= 9; heavy++) {
            SmokedSecrets x = Tell.coast("sw2h2o" + heavy + ";p;p;ck" + heavy);
            x.hang(0);
            due("just enough", heavy, x.ready(0));
            x = Tell.coast("sw2h2o" + (heavy - 1) + ";p;p;ck" + heavy);
            x.hang(0);
            due("one too few", -1, x.ready(0));
        }
        int[][] both = {{3, -1, -1}, {4, -1, -1}, {5, 3, -1}, {6, 3, 3}};
        for (int[] one : both) {
            SmokedSecrets x = Tell.coast("sw2h2o" + one[0] + ";p;p;ck3;ck3");
            hangAll(x);
            due("the first of OAK " + one[0], one[1], x.ready(0));
            due("the second of OAK " + one[0], one[2], x.ready(1));
        }
        SmokedSecrets x = Tell.coast("sw2h2o4;p;p;ck1;ck3");
        hangAll(x);
        due("the second behind the first", 3, x.ready(1));
    }

    // ---- promise 27: what is no such one

    private static void keptOnes() {
        CHECK.sentence("27 kept", "no such ones, CURED", BoundaryAnswersTest::keptNoSuchOnes);
        CHECK.sentence("27 kept", "no such ones, CURED", BoundaryAnswersTest::keptCured);
        CHECK.sentence("27 kept", "it lacks more than six", BoundaryAnswersTest::keptLacksMoreThanSix);
        CHECK.sentence("27 kept", "its owner among the PERSONS", BoundaryAnswersTest::keptOwnerAmong);
        CHECK.sentence("27 kept", "no such what", BoundaryAnswersTest::keptNoSuchWhat);
        CHECK.sentence("27 kept", "NONE: by none (of 1: 0)", BoundaryAnswersTest::keptByNone);
        CHECK.sentence("Terms 3", "PERSONS (bits, perhaps none", BoundaryAnswersTest::keptOfNone);
    }

    private static void keptBoth(String what, int row, int many, SmokedSecrets x, int secret, int persons) {
        due(what + ": the least row", row, x.kept(secret, persons, 0));
        due(what + ": how many", many, x.kept(secret, persons, 1));
    }

    private static void keptNoSuchOnes() {
        keptBoth("without a COAST", -1, -1, new SmokedSecrets(), 0, 0);
        SmokedSecrets x = Tell.coast(SMALL);
        for (int secret : new int[] {-1, 3, 4, 6, MIN, MAX}) {
            keptBoth("secret " + secret, -1, -1, x, secret, 0);
        }
        for (int persons : new int[] {-1, -2, 8, 9, 10, 16, 64, MIN, MAX, 1 << 30}) {
            keptBoth("persons " + persons, -1, -1, x, 0, persons);
        }
        keptBoth("the last two", 0, 64 - 10, x, 0, 6);
        keptBoth("the last SECRET, the first two", 0, 4, x, 2, 3);
        x = Tell.coast("sw6h5;p;p;p;p;p;px5y4n1;c;c;c;c;c;ca0k1x5y4");
        keptBoth("all five others", -1, 0, x, 5, 62);
        keptBoth("four others", 0, 4, x, 5, 30);
        keptBoth("a seventh PERSON", -1, -1, x, 5, 64);
        keptBoth("a seventh SECRET", -1, -1, x, 6, 0);
    }

    private static void keptCured() {
        SmokedSecrets x = Tell.coast("sw2h2o9;p;p;ck1");
        keptBoth("RAW", 0, 4, x, 0, 0);
        x.hang(0);
        x.nights(1);
        keptBoth("CURED", -1, -1, x, 0, 0);
        x.undo();
        keptBoth("RAW again", 0, 4, x, 0, 0);
    }

    private static void keptLacksMoreThanSix() {
        int rows = 1;
        for (int heavy = 1; heavy <= 9; heavy++) {
            SmokedSecrets x = Tell.coast("sw2h2o99;p;p;ck" + heavy);
            rows *= heavy <= 6 ? 4 : 1;
            keptBoth("HEAVY " + heavy, heavy <= 6 ? 0 : -1, heavy <= 6 ? rows : -1, x, 0, 0);
        }
        SmokedSecrets x = Tell.coast("sw2h2o99;p;p;ck9");
        x.hang(0);
        x.nights(2);
        keptBoth("lacks seven", -1, -1, x, 0, 0);
        x.nights(1);
        keptBoth("lacks six", 0, 4096, x, 0, 0);
        x.nights(5);
        keptBoth("lacks one", 0, 4, x, 0, 0);
    }

    private static void keptOwnerAmong() {
        SmokedSecrets x = Tell.coast("sw3h3o9;p;px1;px2;py2;ca2k1x2y2");
        keptBoth("the owner", -1, -1, x, 0, 4);
        keptBoth("the owner and one", -1, -1, x, 0, 5);
        keptBoth("all", -1, -1, x, 0, 15);
        keptBoth("all others", 0, 4, x, 0, 11);
    }

    private static void keptNoSuchWhat() {
        SmokedSecrets x = Tell.coast(SMALL);
        for (int what : new int[] {-1, 2, 3, MIN, MAX}) {
            due("what " + what, -1, x.kept(0, 0, what));
        }
    }

    private static void keptByNone() {
        SmokedSecrets x = Tell.coast("sw2h2o9;p;pn1;ca0k2x1");
        keptBoth("he hears it", -1, 0, x, 0, 2);
        x = Tell.coast("sw2h2o9;p;px1y1n1;ca0k2x1y1");
        keptBoth("he sits in the smoke", -1, 0, x, 0, 2);
        x = Tell.coast("sw2h2o1;p;p;ca0k2x1");
        keptBoth("no OAK to CURE it", -1, 0, x, 0, 0);
        x = Tell.coast("sw3h2o9;p;px1n1;ca0k2");
        x.hang(0);
        x.nights(1);
        keptBoth("he KNOWS it already", -1, 0, x, 0, 2);
    }

    private static void keptOfNone() {
        SmokedSecrets x = Tell.coast("sw2h2o9;p;p;ca0k2x1");
        keptBoth("of none all rows", 0, 16, x, 0, 0);
    }

    // ---- promise 27: rows

    private static void keptRows() {
        CHECK.sentence("Terms 3", "rows of digits (the first NIGHT the highest)", BoundaryAnswersTest::keptDigits);
        CHECK.sentence("Terms 3", "the WIND of each of these NIGHTS chosen (0 .. 3)", BoundaryAnswersTest::keptWays);
        CHECK.sentence("Terms 3", "the least row; how many rows", BoundaryAnswersTest::keptLeast);
        CHECK.sentence("Terms 3", "none of these KNOWS it then", BoundaryAnswersTest::keptNoneKnows);
        CHECK.sentence("Terms 3", "by which it is CURED behind them", BoundaryAnswersTest::keptOakJustEnough);
        CHECK.sentence("Terms 3", "COINS do not matter", BoundaryAnswersTest::keptWithoutCoins);
        CHECK.sentence("Terms 3", "it HANGS now and for as many NIGHTS as it lacks", BoundaryAnswersTest::keptHangs);
        CHECK.sentence("Terms 3", "all else as it is", BoundaryAnswersTest::keptAllElse);
    }

    /** He lives in its SHED, where it smells whatever the WIND is, unless the LAW says otherwise. */
    private static SmokedSecrets inTheShed(int heavy, String law) {
        SmokedSecrets x = Tell.coast("sw2h2o99;py1;pn1;ca0k" + heavy);
        Tell.obey(x, law);
        return x;
    }

    private static void keptDigits() {
        keptBoth("0, 1, 2, 3", 123, 1, inTheShed(4, "y:v=n?0;y:9"), 0, 2);
        keptBoth("3, 2, 1, 0", 3210, 1, inTheShed(4, "y:v=3-n?0;y:9"), 0, 2);
        keptBoth("3 six times", 333333, 1, inTheShed(6, "y:v=3?0;y:9"), 0, 2);
        keptBoth("1 in the sixth alone", 1, 1024, inTheShed(6, "y:!n=5|v=1?0;y:9"), 0, 2);
        keptBoth("1 in the first alone", 100000, 1024, inTheShed(6, "y:!n=0|v=1?0;y:9"), 0, 2);
        keptBoth("2, then any", 20, 4, inTheShed(2, "y:n=0&v=2|n=1?0;y:9"), 0, 2);
        keptBoth("3 alone", 3, 1, inTheShed(1, "y:v=3?0;y:9"), 0, 2);
        keptBoth("0 alone", 0, 1, inTheShed(1, "y:v=0?0;y:9"), 0, 2);
    }

    private static void keptWays() {
        // Persons above, to the right, below and to the left of the SHED.
        SmokedSecrets x = Tell.coast("sw3h3o9;px2y2;px1n1;px2y1n1;px1y2n1;py1n1;ca0k1x1y1;ca0k2x1y1");
        Tell.obey(x, "y:9");
        keptBoth("not up", 1, 3, x, 0, 2);
        keptBoth("not to the right", 0, 3, x, 0, 4);
        keptBoth("not down", 0, 3, x, 0, 8);
        keptBoth("not to the left", 0, 3, x, 0, 16);
        keptBoth("up alone", 0, 1, x, 0, 28);
        keptBoth("to the right alone", 1, 1, x, 0, 26);
        keptBoth("down alone", 2, 1, x, 0, 22);
        keptBoth("to the left alone", 3, 1, x, 0, 14);
        keptBoth("no way", -1, 0, x, 0, 30);
        keptBoth("to the left twice", 33, 1, x, 1, 14);
    }

    private static void keptLeast() {
        SmokedSecrets x = Tell.coast("sw3h3o9v3;px2y2;px1n1;px2y1n1;px1y2n1;py1n1;ca0k3x1y1");
        keptBoth("not up", 111, 27, x, 0, 2);
        keptBoth("not up, not right", 222, 8, x, 0, 6);
        keptBoth("up or left", 0, 8, x, 0, 12);
    }

    private static void keptNoneKnows() {
        // Right of the SHED of HEAVY 3 it is 2: NOSE 5 KNOWS by three of three, NOSE 4 by two, NOSE 2 by one.
        int[] nose = {1, 2, 3, 4, 5, 6, 7};
        int[] many = {27, 27, 27 + 27, 27 + 27, 63, 63, 64};
        for (int i = 0; i < nose.length; i++) {
            SmokedSecrets x = Tell.coast("sw3h2o9v1;p;px1n" + nose[i] + ";ca0k3");
            keptBoth("NOSE " + nose[i], 0, many[i], x, 0, 2);
            due("WIND", 1, x.most(11));
        }
        // Two of them: just one is enough. Up, down, left are left, and each of these thrice.
        SmokedSecrets x = Tell.coast("sw3h2o9v1;p;px1n7;px2n1;ca0k3");
        keptBoth("of two", 0, 27, x, 0, 6);
        keptBoth("of the one", 0, 64, x, 0, 2);
        keptBoth("of the other", 0, 27, x, 0, 4);
    }

    private static void keptOakJustEnough() {
        for (int oak = 0; oak <= 4; oak++) {
            SmokedSecrets x = Tell.coast("sw2h2o" + oak + ";p;p;ck3");
            keptBoth("OAK " + oak, oak < 3 ? -1 : 0, oak < 3 ? 0 : 64, x, 0, 0);
        }
        // One of a lower number HANGS, too, and comes first.
        for (int oak = 4; oak <= 6; oak++) {
            SmokedSecrets x = Tell.coast("sw2h2o" + oak + ";p;p;ck2;ck3");
            x.hang(0);
            keptBoth("OAK " + oak + " for both", oak < 5 ? -1 : 0, oak < 5 ? 0 : 64, x, 1, 0);
        }
    }

    private static void keptWithoutCoins() {
        SmokedSecrets x = Tell.coast("sw2h2o9k0;p;p;ck1");
        keptBoth("no COIN", 0, 4, x, 0, 0);
        due("it does not HANG", 0, x.secret(0, 3));
        due("no COIN still", 0, x.rule(3));
    }

    private static void keptHangs() {
        SmokedSecrets x = Tell.coast("sw2h2o9;p;p;ck3");
        keptBoth("not HANGING it is HUNG", 0, 64, x, 0, 0);
        x.hang(0);
        keptBoth("HANGING it is not taken DOWN", 0, 64, x, 0, 0);
        x.nights(1);
        keptBoth("it lacks two", 0, 16, x, 0, 0);
        x.hang(0);
        keptBoth("DOWN it lacks two", 0, 16, x, 0, 0);
        due("it does not HANG", 0, x.secret(0, 3));
        due("SMOKED", 1, x.secret(0, 4));
    }

    private static void keptAllElse() {
        // By OAK, which the other one burns, too: 5, 3, 1 as the NIGHTS begin, not 5, 4, 3.
        SmokedSecrets x = Tell.coast("sw2h2o5;py1;pn1;ca0k3;ca0k9x1y1");
        Tell.obey(x, "y:o=5|o=4|v=2?0;y:1");
        keptBoth("alone: 2 in the third", 2, 16, x, 0, 2);
        x.hang(1);
        keptBoth("with another: 2 in two", 22, 4, x, 0, 2);
    }

    // ---- promise 28

    private static void notes() {
        CHECK.sentence("28 noted", "NONE: no such ones, there are ten.", BoundaryAnswersTest::notedBounds);
        CHECK.sentence("28 noted", "NONE: no such ones, there are ten.", BoundaryAnswersTest::notedTen);
    }

    private static void notedBounds() {
        due("without a COAST", -1, new SmokedSecrets().noted(0, 0, true));
        SmokedSecrets x = Tell.coast(SMALL);
        for (int secret : new int[] {-1, 3, 4, 6, MIN, MAX}) {
            due("secret " + secret, -1, x.noted(secret, 0, true));
        }
        for (int cell : new int[] {-1, 12, 13, 30, MIN, MAX}) {
            due("cell " + cell, -1, x.noted(0, cell, false));
        }
        due("none", 0, x.count(8));
        due("the first ones", 1, x.noted(0, 0, true));
        due("the last ones", 2, x.noted(2, 11, false));
        due("two", 2, x.count(8));
    }

    private static void notedTen() {
        SmokedSecrets x = Tell.coast(SMALL);
        for (int i = 1; i <= 9; i++) {
            due("noted " + i, i, x.noted(1, 0, false));
            due("count", i, x.count(8));
        }
        due("a tenth", 10, x.noted(0, 2, true));
        due("the tenth counts", 7, x.heavies(0, -1));
        due("an eleventh", -1, x.noted(0, 3, true));
        due("of another SECRET", -1, x.noted(1, 0, false));
        due("ten", 10, x.count(8));
        due("it does not count", 7, x.heavies(0, -1));
    }

    // ---- promise 29

    private static void heavies() {
        CHECK.sentence("29 heavies", "NONE: no such one, no such SECRET.", BoundaryAnswersTest::heaviesBounds);
        CHECK.sentence("Terms 3", "how HEAVY (1 .. 9) it may be so that all NOTED of it is so",
            BoundaryAnswersTest::heaviesThatFit);
        CHECK.sentence("Terms 3", "smelt in a CELL (STRENGTH above 0), or did not",
            BoundaryAnswersTest::heaviesSmeltOrNot);
        CHECK.sentence("Terms 3", "as told (NIGHT 0, OAK and WIND as told)", BoundaryAnswersTest::heaviesAsTold);
        CHECK.sentence("Terms 3", "how many, the i-th (rising)", BoundaryAnswersTest::heaviesRising);
    }

    private static void heaviesBounds() {
        due("without a COAST", -1, new SmokedSecrets().heavies(0, -1));
        due("without a COAST", -1, new SmokedSecrets().heavies(0, 0));
        SmokedSecrets x = Tell.coast(SMALL);
        for (int secret : new int[] {-1, 3, 4, 6, MIN, MAX}) {
            due("secret " + secret, -1, x.heavies(secret, -1));
            due("secret " + secret, -1, x.heavies(secret, 0));
        }
        due("how many", 9, x.heavies(2, -1));
        for (int i = 0; i < 9; i++) {
            due("the one at " + i, i + 1, x.heavies(2, i));
        }
        for (int i : new int[] {-2, -3, 9, 10, MIN, MAX}) {
            due("no such one " + i, -1, x.heavies(0, i));
        }
        x.noted(0, 2, true);
        due("seven", 7, x.heavies(0, -1));
        due("the last", 9, x.heavies(0, 6));
        due("none behind it", -1, x.heavies(0, 7));
    }

    private static void heaviesThatFit() {
        SmokedSecrets x = Tell.coast("sw6h2v1;p;p;c;c");
        due("nothing NOTED: all", 9, x.heavies(0, -1));
        x.noted(1, 0, false);
        due("of another SECRET", 9, x.heavies(0, -1));
        due("1 .. 9 all smell in the SHED", 0, x.heavies(1, -1));
        due("none", -1, x.heavies(1, 0));
        x.noted(0, 6, false);
        due("out of the WIND none smells", 9, x.heavies(0, -1));
        x.noted(0, 0, true);
        due("in the SHED all smell", 9, x.heavies(0, -1));
        x.noted(0, 1, false);
        due("1 alone", 1, x.heavies(0, -1));
        due("1", 1, x.heavies(0, 0));
        x.noted(0, 1, true);
        due("both cannot be", 0, x.heavies(0, -1));
        due("none", -1, x.heavies(0, 0));
        x = Tell.coast("sw6h2v1;p;p;c");
        x.noted(0, 5, true);
        due("6 .. 9", 4, x.heavies(0, -1));
        due("6", 6, x.heavies(0, 0));
        due("9", 9, x.heavies(0, 3));
        Tell.obey(x, "y:k>8?1;y:0");
        due("9 by a LAW", 1, x.heavies(0, -1));
        due("9 by a LAW", 9, x.heavies(0, 0));
        Tell.obey(x, "y:k>9?1;y:0");
        due("10 is none", 0, x.heavies(0, -1));
        Tell.obey(x, "y:k<1?1;y:0");
        due("0 is none", 0, x.heavies(0, -1));
        Tell.obey(x, "y:k<2?1;y:0");
        due("1 by a LAW", 1, x.heavies(0, 0));
    }

    private static void heaviesSmeltOrNot() {
        for (int cell = 0; cell < 6; cell++) {
            SmokedSecrets x = Tell.coast("sw6h2v1;p;p;c");
            x.noted(0, cell, true);
            due("above 0 there", 9 - cell, x.heavies(0, -1));
            due("the least", cell + 1, x.heavies(0, 0));
            x = Tell.coast("sw6h2v1;p;p;c");
            x.noted(0, cell, false);
            due("0 there", cell, x.heavies(0, -1));
            due("the least", cell == 0 ? -1 : 1, x.heavies(0, 0));
        }
        SmokedSecrets x = Tell.coast("sw6h2v1;p;p;c");
        x.noted(0, 6, true);
        due("out of the WIND", 0, x.heavies(0, -1));
    }

    private static void heaviesAsTold() {
        SmokedSecrets x = Tell.coast("sw6h2o5v1;p;p;ck9");
        x.noted(0, 2, true);
        x.hang(0);
        x.nights(3);
        x.oak(20);
        x.veers(2);
        due("WIND as told", 7, x.heavies(0, -1));
        Tell.obey(x, "y:v=1&k>6?1;y:0");
        due("WIND in the LAW", 3, x.heavies(0, -1));
        Tell.obey(x, "y:o=5&k>7?1;y:0");
        due("OAK as told", 2, x.heavies(0, -1));
        Tell.obey(x, "y:t=0&n=0&k>5?1;y:0");
        due("NIGHT 0, nothing SMOKED", 4, x.heavies(0, -1));
        x.law(-1);
        x.image();
        x.nights(1);
        x.back();
        due("behind BACK", 7, x.heavies(0, -1));
        x.undo();
        due("NOTED is not UNDONE", 1, x.count(8));
    }

    private static void heaviesRising() {
        SmokedSecrets x = Tell.coast("sw6h2v1;p;p;c");
        Tell.obey(x, "y:k/2*2=k?1;y:0");
        x.noted(0, 0, true);
        int[] want = {2, 4, 6, 8, -1};
        due("even ones", 4, x.heavies(0, -1));
        for (int i = 0; i < 5; i++) {
            due("even one " + i, want[i], x.heavies(0, i));
        }
        x.noted(0, 0, true);
        due("told twice", 4, x.heavies(0, -1));
    }

    // ---- promise 30

    private static void asks() {
        CHECK.sentence("30 ask", "NONE: nothing fits, no such SECRET.", BoundaryAnswersTest::askBounds);
        CHECK.sentence("30 ask", "nothing fits", BoundaryAnswersTest::askNothingFits);
        CHECK.sentence("Terms 3", "the CELL for which smelling and not are least apart in number among these (of "
            + "several the lowest)", BoundaryAnswersTest::askLeastApart);
    }

    private static void askBounds() {
        due("without a COAST", -1, new SmokedSecrets().ask(0));
        SmokedSecrets x = Tell.coast(SMALL);
        for (int secret : new int[] {-1, 3, 4, 6, MIN, MAX}) {
            due("ask " + secret, -1, x.ask(secret));
        }
        due("the first", 3, x.ask(0));
        due("the last: 9 smell in 11, none elsewhere", 0, x.ask(2));
    }

    private static void askNothingFits() {
        SmokedSecrets x = Tell.coast(SMALL);
        x.noted(0, 0, false);
        due("nothing fits", -1, x.ask(0));
        due("of another", 3, x.ask(1));
    }

    private static void askLeastApart() {
        SmokedSecrets x = Tell.coast("sw6h2v1;p;p;c;cx5y1;cx1");
        // Four off five of nine smell, five off four: 1 apart each.
        due("of several the lowest", 4, x.ask(0));
        due("one CELL, all smell there: all 9 apart", 0, x.ask(1));
        due("four off the SHED", 5, x.ask(2));
        x.noted(0, 3, true);
        // 4 .. 9 fit: four off five to one is 4 apart; five off four to two, 2 apart.
        due("among these", 5, x.ask(0));
        x.noted(0, 5, false);
        // 4 and 5 fit: four off one each.
        due("0 apart", 4, x.ask(0));
        x.noted(0, 4, false);
        due("one alone: all alike", 0, x.ask(0));
        x = Tell.coast("sw6h5v3;p;p;cx5y4");
        due("to the left: five off four smell, the lowest", 24, x.ask(0));
        x = Tell.coast("sw6h5v0;p;p;cx5y4");
        due("up: four off five smell", 5, x.ask(0));
    }

    // ---- promise 31

    private static void worthwhiles() {
        CHECK.sentence("31 worthwhile", "NONE: no COAST, no such what.", BoundaryAnswersTest::worthwhileBounds);
        CHECK.sentence("Terms 3", "for which OAK now does till they are CURED", BoundaryAnswersTest::worthwhileOak);
        CHECK.sentence("Terms 3", "of several the fewest, then the least", BoundaryAnswersTest::worthwhileFewest);
        CHECK.sentence("Terms 3", "of several the fewest, then the least", BoundaryAnswersTest::worthwhileLeast);
        CHECK.sentence("Terms 3", "of sets of SECRETS that are RAW", BoundaryAnswersTest::worthwhileRaw);
        CHECK.sentence("Terms 3", "one OAK for each NIGHT that each of them lacks",
            BoundaryAnswersTest::worthwhileLacks);
    }

    private static void worth(String what, int bits, int much, SmokedSecrets x) {
        due(what + ": bits", bits, x.worthwhile(0));
        due(what + ": how much", much, x.worthwhile(1));
    }

    private static void worthwhileBounds() {
        worth("without a COAST", -1, -1, new SmokedSecrets());
        SmokedSecrets x = Tell.coast(SMALL);
        for (int what : new int[] {-1, 2, 3, MIN, MAX}) {
            due("what " + what, -1, x.worthwhile(what));
        }
        worth("all", 7, 6, x);
        worth("all six", 63, 54, Tell.coast("so54;p;p;ck9;ck9;ck9;ck9;ck9;ck9"));
    }

    private static void worthwhileOak() {
        worth("no OAK", 0, 0, Tell.coast("so0;p;p;ck1"));
        worth("just enough", 1, 1, Tell.coast("so1;p;p;ck1"));
        worth("one too few", 0, 0, Tell.coast("so8;p;p;ck9"));
        worth("just enough for 9", 1, 9, Tell.coast("so9;p;p;ck9"));
        worth("just enough for both", 3, 7, Tell.coast("so7;p;p;ck4;ck3"));
        worth("one too few for both", 1, 4, Tell.coast("so6;p;p;ck4;ck3"));
        worth("just enough for all", 63, 53, Tell.coast("so53;p;p;ck8;ck9;ck9;ck9;ck9;ck9"));
        worth("one too few for all", 62, 45, Tell.coast("so52;p;p;ck8;ck9;ck9;ck9;ck9;ck9"));
    }

    private static void worthwhileFewest() {
        worth("one of 5 for 3 and 2", 4, 5, Tell.coast("so5;p;p;ck3;ck2;ck5"));
        worth("the same told first", 1, 5, Tell.coast("so5;p;p;ck5;ck3;ck2"));
        worth("two of 3 for three of 2", 24, 6, Tell.coast("so6;p;p;ck2;ck2;ck2;ck3;ck3"));
        worth("one of 6 for all of these", 32, 6, Tell.coast("so6;p;p;ck2;ck2;ck2;ck3;ck3;ck6"));
    }

    private static void worthwhileLeast() {
        worth("the first of two", 1, 4, Tell.coast("so4;p;p;ck4;ck4"));
        worth("the first of six", 1, 9, Tell.coast("so9;p;p;ck9;ck9;ck9;ck9;ck9;ck9"));
        worth("4 and 1 by the lower bits", 6, 5, Tell.coast("so5;p;p;ck2;ck4;ck1;ck3"));
        worth("0 and 3 for 1 and 2: 9 above 6", 6, 5, Tell.coast("so5;p;p;ck4;ck3;ck2;ck1"));
    }

    private static void worthwhileRaw() {
        SmokedSecrets x = Tell.coast("so9;p;p;ck1;ck3");
        x.hang(0);
        worth("both RAW", 3, 4, x);
        x.nights(1);
        worth("CURED is out", 2, 3, x);
        x.hang(1);
        x.nights(3);
        worth("none is RAW", 0, 0, x);
    }

    private static void worthwhileLacks() {
        SmokedSecrets x = Tell.coast("so5;p;p;ck5;ck4");
        worth("the heavy one", 1, 5, x);
        x.hang(1);
        x.nights(2);
        x.hang(1);
        // OAK 3: the light one lacks two, whole it is 4; the heavy one lacks five.
        worth("what lacks two, whole", 2, 4, x);
        x.oak(4);
        worth("seven for both", 3, 9, x);
        x.undo();
        x.oak(3);
        worth("six for the heavy one", 1, 5, x);
    }

    // ---- promise 32

    private static void outs() {
        CHECK.sentence("32 out", "NONE: there is none, no such ones.", BoundaryAnswersTest::outBounds);
        CHECK.sentence("32 out", "there is none", BoundaryAnswersTest::outNone);
        CHECK.sentence("Terms 3", "(there already: 0)", BoundaryAnswersTest::outThereAlready);
        CHECK.sentence("Terms 3", "(of several with as few steps the lowest)", BoundaryAnswersTest::outTheLowest);
        CHECK.sentence("Terms 3", "the fewest steps (each to a CELL above, below or beside)",
            BoundaryAnswersTest::outFewestSteps);
    }

    private static void way(String what, int steps, int cell, SmokedSecrets x, int person) {
        due(what + ": steps", steps, x.out(person, 0));
        due(what + ": the CELL", cell, x.out(person, 1));
    }

    private static void outBounds() {
        way("without a COAST", -1, -1, new SmokedSecrets(), 0);
        SmokedSecrets x = Tell.coast(SMALL);
        for (int person : new int[] {-1, 3, 4, 6, MIN, MAX}) {
            way("person " + person, -1, -1, x, person);
        }
        for (int what : new int[] {-1, 2, 3, MIN, MAX}) {
            due("what " + what, -1, x.out(0, what));
        }
        way("the last one", 0, 7, x, 2);
    }

    private static void outNone() {
        SmokedSecrets x = Tell.coast("sw2h2o9v1;p;px1y1;ck9;ck9y1");
        x.hang(0);
        way("the second ROW", 1, 2, x, 0);
        x.hang(1);
        way("there is none", -1, -1, x, 0);
        way("there is none", -1, -1, x, 1);
        x.hang(0);
        way("the first ROW", 1, 1, x, 1);
    }

    private static void outThereAlready() {
        SmokedSecrets x = Tell.coast("sw4h3o0v1;p;px3y2;px3;ck3");
        way("no smoke", 0, 0, x, 0);
        way("no smoke in the last CELL", 0, 11, x, 1);
        x.hang(0);
        way("where its smoke ends", 0, 3, x, 2);
        way("in it, without OAK, too", 1, 4, x, 0);
    }

    private static void outTheLowest() {
        SmokedSecrets x = Tell.coast("sw3h3o9v1;px1y1;px1y1;ck9y1");
        x.hang(0);
        way("up, not down", 1, 1, x, 0);
        x = Tell.coast("sw3h3o9v2;px1y1;p;ck9x1");
        x.hang(0);
        way("to the left, not to the right", 1, 3, x, 0);
        x = Tell.coast("sw4h3o9v1;px2;p;ck3");
        x.hang(0);
        way("to the right, not down", 1, 3, x, 0);
        x = Tell.coast("sw5h5o9v1;px2y2;p;ck9y1;ck9y2;ck9y3");
        hangAll(x);
        way("two up, not two down", 2, 2, x, 0);
    }

    private static void outFewestSteps() {
        SmokedSecrets x = Tell.coast("sw6h5o99v1;p;px5y4;px3y2;ck9;ck9y1;ck9y2;ck9y3");
        hangAll(x);
        way("four down", 4, 24, x, 0);
        way("there already", 0, 29, x, 1);
        way("two down", 2, 27, x, 2);
        // All but one corner: nine steps.
        x = Tell.coast("sw6h5o99v1;p;px5y4;ck9;ck9y1;ck9y2;ck9y3;ck9y4");
        hangAll(x);
        due("all in smoke", 30, x.most(7));
        Tell.obey(x, "y:f<5?1;y:0");
        way("five to the right", 5, 5, x, 0);
        way("there already", 0, 29, x, 1);
        x = Tell.coast("sw6h5o99v1;p;px5y4;ck9;ck9y1;ck9y2;ck9y3;cy4k5");
        hangAll(x);
        way("the far corner", 9, 29, x, 0);
        way("it is his", 0, 29, x, 1);
    }

    // ---- promise 33

    private static void games() {
        CHECK.sentence("33 game", "HIDDEN: no such ones, alike, out of bounds.", BoundaryAnswersTest::gameBounds);
        CHECK.sentence("33 game", "HIDDEN: no such ones, alike, out of bounds.", BoundaryAnswersTest::gameAlike);
        CHECK.sentence("Terms 3", "out of the COAST: he stays", BoundaryAnswersTest::gameOutOfTheCoast);
        CHECK.sentence("Terms 3", "1 less, if he did not choose 4", BoundaryAnswersTest::gameOneLess);
        CHECK.sentence("Terms 3", "5 more, if they are in one CELL then", BoundaryAnswersTest::gameInOneCell);
        CHECK.sentence("Terms 3", "9 less AIR in his CELL then", BoundaryAnswersTest::gameAir);
    }

    private static void gameBounds() {
        for (int what = 0; what < 2; what++) {
            due("without a COAST", -1000000, new SmokedSecrets().game(0, 1, 4, 4, what));
        }
        SmokedSecrets x = Tell.coast(SMALL);
        for (int one : new int[] {-1, 3, 4, 6, MIN, MAX}) {
            due("one " + one, -1000000, x.game(one, 0, 4, 4, 0));
            due("other " + one, -1000000, x.game(0, one, 4, 4, 0));
            due("both " + one, -1000000, x.game(one, one, 4, 4, 0));
        }
        for (int way : new int[] {-1, 5, 6, MIN, MAX}) {
            due("x " + way, -1000000, x.game(0, 1, way, 4, 0));
            due("y " + way, -1000000, x.game(0, 1, 4, way, 1));
        }
        for (int what : new int[] {-1, 2, 3, MIN, MAX}) {
            due("what " + what, -1000000, x.game(0, 1, 4, 4, what));
        }
        for (int way = 0; way <= 4; way++) {
            due("x " + way, way == 4 ? 9 : 8, x.game(2, 0, way, 4, 0));
            due("y " + way, way == 4 ? 9 : 8, x.game(0, 2, 4, way, 1));
        }
    }

    private static void gameAlike() {
        SmokedSecrets x = Tell.coast("p;p;c");
        due("0 and 0", -1000000, x.game(0, 0, 4, 4, 0));
        due("1 and 1", -1000000, x.game(1, 1, 4, 4, 1));
        due("0 and 1", 14, x.game(0, 1, 4, 4, 0));
        due("1 and 0", 14, x.game(1, 0, 4, 4, 1));
    }

    private static void gameOutOfTheCoast() {
        SmokedSecrets x = Tell.coast("sw2h2o9v1;p;px1y1;c;cx1y1k5");
        x.hang(0);
        due("up, out: he stays in smoke, and 1 less", 5, x.game(0, 1, 0, 4, 0));
        due("to the left, out", 5, x.game(0, 1, 3, 4, 0));
        due("to the right, in less smoke", 6, x.game(0, 1, 1, 4, 0));
        due("down, out of smoke", 8, x.game(0, 1, 2, 4, 0));
        x.hang(1);
        due("the other down, out", 3, x.game(0, 1, 4, 2, 1));
        due("the other to the right, out", 3, x.game(0, 1, 4, 1, 1));
        due("the other up", 6, x.game(0, 1, 4, 0, 1));
        due("the other to the left", 8, x.game(0, 1, 4, 3, 1));
        x = Tell.coast("sw3h2;px2;py1;c");
        due("not round the edge to the other", 8, x.game(0, 1, 1, 4, 0));
        due("nor back", 8, x.game(0, 1, 4, 3, 1));
        due("both stay apart", 9, x.game(0, 1, 1, 4, 1));
    }

    private static void gameOneLess() {
        SmokedSecrets x = Tell.coast("sw3h3;px1y1;p;c");
        for (int way = 0; way < 4; way++) {
            due("he goes", 8, x.game(0, 1, way, 4, 0));
            due("the other one's is not less", 9, x.game(0, 1, way, 4, 1));
        }
        due("he stays", 9, x.game(0, 1, 4, 4, 0));
        due("out of the COAST he stays, but did not choose 4", 8, x.game(1, 0, 0, 4, 0));
    }

    private static void gameInOneCell() {
        SmokedSecrets x = Tell.coast("sw3h3;px1y1;p;c");
        due("both to 1", 13, x.game(0, 1, 0, 1, 0));
        due("both to 1, the other", 13, x.game(0, 1, 0, 1, 1));
        due("both to 3", 13, x.game(0, 1, 3, 2, 0));
        due("past each other", 8, x.game(0, 1, 0, 2, 0));
        x.moves(1, 1);
        due("one comes to the other", 13, x.game(0, 1, 0, 4, 0));
        due("the other stays", 14, x.game(0, 1, 0, 4, 1));
        due("they change places", 8, x.game(0, 1, 0, 2, 0));
        due("they change places, the other", 8, x.game(0, 1, 0, 2, 1));
    }

    private static void gameAir() {
        SmokedSecrets x = Tell.coast("sw2h2o9k9;p;py1;ck9;ck9;ck9;ck9;ck9;ck9");
        hangAll(x);
        due("54 of AIR", -45, x.game(0, 1, 4, 4, 0));
        due("54 of AIR, and 1 less", -46, x.game(0, 1, 0, 4, 0));
        due("54 of AIR, both there, and 1 less", -41, x.game(0, 1, 4, 0, 1));
        due("both out of it", 14, x.game(0, 1, 2, 4, 1));
        due("what does not HANG does not count", 9, Tell.coast("p;py1;ck9").game(0, 1, 4, 4, 0));
    }

    // ---- promise 34

    private static void rests() {
        CHECK.sentence("34 rests", "NONE: no such one, no such PERSONS, alike.", BoundaryAnswersTest::restsBounds);
        CHECK.sentence("34 rests", "how many (i NONE), the i-th", BoundaryAnswersTest::restsNoSuchOne);
        CHECK.sentence("Terms 3", "10 times x and y by which neither has more by another of its own",
            BoundaryAnswersTest::restsOfTwo);
        CHECK.sentence("Terms 3", "by which neither has more by another of its own",
            BoundaryAnswersTest::restsByOneWay);
    }

    private static void restsBounds() {
        due("without a COAST", -1, new SmokedSecrets().rests(0, 1, -1));
        due("without a COAST", -1, new SmokedSecrets().rests(0, 1, 0));
        SmokedSecrets x = Tell.coast(SMALL);
        for (int one : new int[] {-1, 3, 4, 6, MIN, MAX}) {
            due("one " + one, -1, x.rests(one, 0, -1));
            due("other " + one, -1, x.rests(0, one, -1));
            due("both " + one, -1, x.rests(one, one, 0));
        }
        for (int one = 0; one < 3; one++) {
            due("alike " + one, -1, x.rests(one, one, -1));
            due("alike " + one, -1, x.rests(one, one, 0));
        }
        due("the last and the first", 1, x.rests(2, 0, -1));
    }

    private static void restsNoSuchOne() {
        SmokedSecrets x = Tell.coast(SMALL);
        due("how many", 2, x.rests(0, 1, -1));
        due("the first", 13, x.rests(0, 1, 0));
        due("the second", 44, x.rests(0, 1, 1));
        for (int i : new int[] {-2, -3, 2, 3, 25, MIN, MAX}) {
            due("no such one " + i, -1, x.rests(0, 1, i));
        }
    }

    private static void restsOfTwo() {
        // Far from each other: each stays.
        SmokedSecrets x = Tell.coast("sw6h5;p;px5y4;c");
        due("how many", 1, x.rests(0, 1, -1));
        due("both stay", 44, x.rests(0, 1, 0));
        // Beside each other: one comes to the other, or both to where each is alone; 14 by staying is best.
        x = Tell.coast("sw6h5;px2y2;px3y2;c");
        due("how many", 2, x.rests(0, 1, -1));
        due("the other one comes", 14, x.rests(0, 1, 0));
        due("he comes", 43, x.rests(0, 1, 1));
        // In one CELL in the midst: all that keeps them together.
        x = Tell.coast("sw6h5;px2y2;px2y2;c");
        int[] together = {0, 11, 22, 33, 44};
        due("how many", 5, x.rests(0, 1, -1));
        for (int i = 0; i < 5; i++) {
            due("together " + i, together[i], x.rests(0, 1, i));
        }
        // In the corner: out of the COAST both stay, and staying has more.
        x = Tell.coast("sw2h2;p;p;c");
        due("in the corner", 3, x.rests(0, 1, -1));
        due("both to the right", 11, x.rests(0, 1, 0));
        due("both down", 22, x.rests(0, 1, 1));
        due("both stay", 44, x.rests(0, 1, 2));
    }

    /** He is in smoke, and just one way leads out of it; the other one is far off. */
    private static void oneWayOut(String told, int rest, int turned) {
        SmokedSecrets x = Tell.coast(told);
        x.hang(0);
        due("how many of " + told, 1, x.rests(0, 1, -1));
        due("the rest of " + told, rest, x.rests(0, 1, 0));
        due("how many, told the other way", 1, x.rests(1, 0, -1));
        due("the rest, told the other way", turned, x.rests(1, 0, 0));
    }

    private static void restsByOneWay() {
        oneWayOut("sw4h2v1;py1;px3;cy1k9", 4, 40);
        oneWayOut("sw2h4v2;p;px1y3;ck9", 14, 41);
        oneWayOut("sw4h2v1;p;px3y1;ck9", 24, 42);
        oneWayOut("sw2h4v2;px1;py3;cx1k9", 34, 43);
    }

    // ---- promise 35

    private static void odds() {
        CHECK.sentence("35 odds", "NONE: no such ones, out of bounds.", BoundaryAnswersTest::oddsNoSuchOnes);
        CHECK.sentence("35 odds", "NONE: no such ones, out of bounds.", BoundaryAnswersTest::oddsOutOfBounds);
        CHECK.sentence("Terms 3", "n (0 .. 6) NIGHTS", BoundaryAnswersTest::oddsOfNoNight);
        CHECK.sentence("Terms 3", "a chance (0 .. 100)", BoundaryAnswersTest::oddsOfSureChances);
        CHECK.sentence("Terms 3", "the WIND turns one further by chance (0, 1, 2, 3, 0 ..)",
            BoundaryAnswersTest::oddsGoRound);
        CHECK.sentence("Terms 3", "(of each part chance 100ths, cut, turned)", BoundaryAnswersTest::oddsCut);
        CHECK.sentence("Terms 3", "ahead of each NIGHT the WIND turns one further",
            BoundaryAnswersTest::oddsAheadOfEach);
    }

    private static void oddsNoSuchOnes() {
        due("without a COAST", -1, new SmokedSecrets().odds(0, 0, 0, 0));
        SmokedSecrets x = Tell.coast(SMALL);
        for (int one : new int[] {-1, 3, 4, 6, MIN, MAX}) {
            due("person " + one, -1, x.odds(one, 0, 1, 50));
            due("secret " + one, -1, x.odds(0, one, 1, 50));
        }
        due("the last ones", ALL, x.odds(2, 2, 1, 50));
    }

    private static void oddsOutOfBounds() {
        SmokedSecrets x = Tell.coast(SMALL);
        for (int n : new int[] {-1, -2, 7, 8, MIN, MAX}) {
            due("n " + n, -1, x.odds(0, 0, n, 50));
        }
        for (int chance : new int[] {-1, -2, 101, 102, MIN, MAX}) {
            due("chance " + chance, -1, x.odds(0, 0, 1, chance));
            due("chance " + chance + " of no NIGHT", -1, x.odds(0, 0, 0, chance));
        }
        due("0 and 0", ALL, x.odds(0, 0, 0, 0));
        due("6 and 100", ALL, x.odds(0, 0, 6, 100));
        due("6 and 0", ALL, x.odds(0, 0, 6, 0));
        due("0 and 100", ALL, x.odds(0, 0, 0, 100));
    }

    private static void oddsOfNoNight() {
        SmokedSecrets x = Tell.coast("sw3h2o9;p;px1n2;ca0k3");
        x.hang(0);
        due("he does not KNOW it", 0, x.odds(1, 0, 0, 50));
        due("it is his own", ALL, x.odds(0, 0, 0, 50));
        x.nights(1);
        due("he KNOWS it", ALL, x.odds(1, 0, 0, 50));
        due("and behind six", ALL, x.odds(1, 0, 6, 7));
    }

    /** He lives in its SHED, NOSE as told; a NIGHT of STRENGTH 1 if the WIND is so as the LAW says, else 0. */
    private static SmokedSecrets shedByWind(int wind, int nose, String law) {
        SmokedSecrets x = Tell.coast("sw2h2o99v" + wind + ";py1;pn" + nose + ";ca0k9");
        Tell.obey(x, law);
        x.hang(0);
        return x;
    }

    private static void oddsOfSureChances() {
        SmokedSecrets x = shedByWind(0, 1, "y:v=0?1;y:0");
        due("never turned", ALL, x.odds(1, 0, 1, 0));
        due("always turned", 0, x.odds(1, 0, 1, 100));
        due("always turned, not back yet", 0, x.odds(1, 0, 3, 100));
        due("always turned, back by the fourth", ALL, x.odds(1, 0, 4, 100));
        x = shedByWind(0, 6, "y:v=0?1;y:0");
        due("six, never turned", ALL, x.odds(1, 0, 6, 0));
        due("five are not enough", 0, x.odds(1, 0, 5, 0));
        due("six, turned by 1 of 100 at most", true, x.odds(1, 0, 6, 1) < ALL);
    }

    private static void due(String what, boolean want, boolean got) {
        CHECK.due(what, want, got);
    }

    private static void oddsGoRound() {
        for (int wind = 0; wind < 4; wind++) {
            int next = (wind + 1) % 4;
            SmokedSecrets x = shedByWind(wind, 1, "y:v=" + next + "?1;y:0");
            due("one further than " + wind, 300000000, x.odds(1, 0, 1, 30));
            x = shedByWind(wind, 1, "y:v=" + wind + "?1;y:0");
            due("not turned from " + wind, 700000000, x.odds(1, 0, 1, 30));
            x = shedByWind(wind, 1, "y:v=" + (wind + 2) % 4 + "?1;y:0");
            due("two further than " + wind + " not by one", 0, x.odds(1, 0, 1, 30));
            due("two further than " + wind, 90000000, x.odds(1, 0, 2, 30));
        }
    }

    private static void oddsCut() {
        SmokedSecrets x = shedByWind(0, 5, "y:v=0?1;y:0");
        // Not turned of 960596010: less 9605960.1, cut.
        due("five not turned by 1", 950990050, x.odds(1, 0, 5, 1));
        x = shedByWind(0, 5, "y:n=0&v=1|n=1&v=2|n=2&v=3|n=3&v=0|n=4&v=1?1;y:0");
        // Turned of 960596010: 950990049.9, cut.
        due("five turned by 99", 950990049, x.odds(1, 0, 5, 99));
        due("five turned by 100", ALL, x.odds(1, 0, 5, 100));
        due("five turned by 50", 31250000, x.odds(1, 0, 5, 50));
        due("and any sixth", 31250000, x.odds(1, 0, 6, 50));
        // 10000000, 100000, 1000, 10, 0.1: cut.
        due("five turned by 1", 0, x.odds(1, 0, 5, 1));
        x = shedByWind(0, 4, "y:n=0&v=1|n=1&v=2|n=2&v=3|n=3&v=0?1;y:0");
        due("four turned by 1", 10, x.odds(1, 0, 4, 1));
        due("four turned by 1, and a fifth: both parts", 10, x.odds(1, 0, 5, 1));
        due("four turned by 1, and two more", 10, x.odds(1, 0, 6, 1));
        x = shedByWind(0, 1, "y:0");
        due("none of all parts", 0, x.odds(1, 0, 6, 33));
        x = shedByWind(0, 1, "y:1");
        due("all of all parts", ALL, x.odds(1, 0, 6, 33));
        due("all of all parts by 1", ALL, x.odds(1, 0, 6, 1));
        due("all of all parts by 99", ALL, x.odds(1, 0, 6, 99));
    }

    private static void oddsAheadOfEach() {
        SmokedSecrets x = shedByWind(3, 2, "y:v=0?1;y:0");
        // 0 in two of two: turned, then not.
        due("turned, then not", 400000000 / 10 * 6, x.odds(1, 0, 2, 40));
        // In two of three: turned, not, any; not, turned, not.
        due("of three", 240000000 + 144000000, x.odds(1, 0, 3, 40));
        due("WIND is as it was", 3, x.most(11));
    }

    // ---- promise 36

    private static void shares() {
        CHECK.sentence("36 shares", "NONE: no such PERSON, out of bounds.", BoundaryAnswersTest::sharesBounds);
        CHECK.sentence("Terms 3", "cut (none: 0)", BoundaryAnswersTest::sharesOfNone);
        CHECK.sentence("Terms 3", "for a PERSON c times his by that of all, cut", BoundaryAnswersTest::sharesCut);
        CHECK.sentence("Terms 3", "by BREATH (of all SECRETS)", BoundaryAnswersTest::sharesOfAllSecrets);
    }

    private static void sharesBounds() {
        due("without a COAST", -1, new SmokedSecrets().shares(0, 0));
        SmokedSecrets x = Tell.coast(SMALL);
        x.hang(0);
        x.nights(1);
        for (int person : new int[] {-1, 3, 4, 6, MIN, MAX}) {
            due("person " + person, -1, x.shares(person, 1));
        }
        for (int c : new int[] {-1, -2, 1000, 1001, MIN, MAX}) {
            due("c " + c, -1, x.shares(0, c));
        }
        due("of 0", 0, x.shares(0, 0));
        due("of 999", 749, x.shares(0, 999));
        due("the last one's", 0, x.shares(2, 999));
    }

    private static void sharesOfNone() {
        SmokedSecrets x = Tell.coast(SMALL);
        due("no BREATH at all", 0, x.shares(0, 999));
        due("no BREATH at all, of 0", 0, x.shares(0, 0));
        due("c out of bounds even so", -1, x.shares(0, 1000));
    }

    private static void sharesCut() {
        SmokedSecrets x = Tell.coast("sw3h2o99;p;px1;px2;ca0k3;ca1k1x1");
        hangAll(x);
        x.nights(1);
        // SECRET 0: 3, 2, 1; SECRET 1: 1 for 1. All 7.
        int[] his = {3, 3, 1};
        for (int c : new int[] {0, 1, 2, 3, 6, 7, 8, 14, 999}) {
            for (int person = 0; person < 3; person++) {
                due("of " + c + " for " + person, c * his[person] / 7, x.shares(person, c));
            }
        }
        // One alone has all.
        x = Tell.coast("sw3h2o99;p;px1y1;ca0k1");
        x.hang(0);
        x.nights(1);
        due("all of 999", 999, x.shares(0, 999));
        due("nothing of 999", 0, x.shares(1, 999));
    }

    private static void sharesOfAllSecrets() {
        SmokedSecrets x = Tell.coast("sw3h2o99v1;p;px2y1;px1y1;c;c;c;c;c;ca0k3");
        x.hang(5);
        x.nights(1);
        due("of the last SECRET all is his", 999, x.shares(0, 999));
        due("nothing is the next one's", 0, x.shares(1, 999));
        due("he is FULLEST", 0, x.most(2));
        x = Tell.coast("sw3h2o99v1;py1;p;px2y1;c;c;c;c;c;c");
        hangAll(x);
        x.nights(1);
        due("of all six, the first included, all is his", 999, x.shares(1, 999));
        due("nothing is the one's ahead of him", 0, x.shares(0, 999));
        due("nor the next one's", 0, x.shares(2, 999));
        due("he is FULLEST", 1, x.most(2));
    }

    // ---- promise 37

    private static void most() {
        CHECK.sentence("37 most", "NONE: no COAST, no such what.", BoundaryAnswersTest::mostBounds);
        CHECK.sentence("Terms 3", "(of several the lowest, all)", BoundaryAnswersTest::mostTheLowest);
        CHECK.sentence("Terms 3", "WISEST: the PERSON who KNOWS most SECRETS", BoundaryAnswersTest::mostWisest);
        CHECK.sentence("Terms 3", "KEENEST: with the least NOSE", BoundaryAnswersTest::mostKeenest);
        CHECK.sentence("Terms 3", "FULLEST: with most BREATH of all together", BoundaryAnswersTest::mostFullest);
        CHECK.sentence("Terms 3", "KEPT MOST: the SECRET KNOWN to the fewest", BoundaryAnswersTest::mostKept);
        CHECK.sentence("Terms 3", "HEAVIEST", BoundaryAnswersTest::mostHeaviest);
        CHECK.sentence("Terms 3", "HANGING: SECRETS (bits); CURED: bits", BoundaryAnswersTest::mostHangingCured);
        CHECK.sentence("Terms 3", "FOUL: how many CELLS have AIR", BoundaryAnswersTest::mostFoul);
        CHECK.sentence("Terms 3", "TABLES: how many two PERSONS are in one CELL", BoundaryAnswersTest::mostTables);
        CHECK.sentence("Terms 3", "LACKS: NIGHTS that all RAW ones lack together", BoundaryAnswersTest::mostLacks);
        CHECK.sentence("Terms 3", "SAFE: PERSONS (bits) in CELLS with no AIR", BoundaryAnswersTest::mostSafe);
    }

    private static void mostBounds() {
        for (int what = -1; what <= 12; what++) {
            due("without a COAST " + what, -1, new SmokedSecrets().most(what));
        }
        SmokedSecrets x = Tell.coast(SMALL);
        for (int what : new int[] {-1, -2, 12, 13, MIN, MAX}) {
            due("most " + what, -1, x.most(what));
        }
        due("the first", 0, x.most(0));
        due("the last", 1, x.most(11));
    }

    private static void mostTheLowest() {
        SmokedSecrets x = Tell.coast("p;px1;px2;ca2k4;ca0k4;ca1k4");
        for (int what = 0; what < 5; what++) {
            due("all alike " + what, 0, x.most(what));
        }
        x = Tell.coast("pn3;px1n2;px2n2;ca2k4;ca1k5;ca0k5");
        due("KEENEST of two", 1, x.most(1));
        due("HEAVIEST of two", 1, x.most(4));
        x = Tell.coast("p;px1;px2;ca1;ca2");
        due("WISEST of two", 1, x.most(0));
        x = Tell.coast("sw3h2o9v1;py1;px1;px1;ca0k2");
        x.hang(0);
        x.veers(0);
        x.nights(1);
        due("FULLEST: nobody in the WIND", 0, x.most(2));
        x = Tell.coast("sw3h2o9v1;py1;px1;px1;ca0k3");
        x.hang(0);
        x.nights(1);
        due("FULLEST of two with 2 each", 1, x.most(2));
    }

    private static void mostWisest() {
        SmokedSecrets x = Tell.coast("p;px1;px2;ca2;ca1;ca2");
        due("two of three", 2, x.most(0));
        x = Tell.coast("p;px1;ca1;c");
        due("one each", 0, x.most(0));
        x = Tell.coast("p;p;p;p;p;px1;ca5;ca5;ca5;ca5;ca5;ca5");
        due("all of the last", 5, x.most(0));
    }

    private static void mostKeenest() {
        due("NOSE 1 at last", 5, Tell.coast("pn9;pn8;pn7;pn3;pn2;pn1;c").most(1));
        due("NOSE 1 at first", 0, Tell.coast("pn1;pn2;pn1;c").most(1));
        due("NOSE 9 and 9", 0, Tell.coast("pn9;pn9;c").most(1));
    }

    private static void mostFullest() {
        // He has 2 and 2, the first has 3 of one alone.
        SmokedSecrets x = Tell.coast("sw3h2o9v1;p;px1;ca0k3;ca0k3");
        due("no BREATH", 0, x.most(2));
        x.hang(0);
        x.nights(1);
        due("3 above 2", 0, x.most(2));
        x = Tell.coast("sw3h2o9v1;p;px1;ca0k3;ca0k2x1;ca0k1x2y1");
        hangAll(x);
        x.nights(1);
        due("2 and 2 above 3", 1, x.most(2));
    }

    private static void mostKept() {
        SmokedSecrets x = Tell.coast("sw2h2o9;p;pn1;px1;ca0k9;ca1k9;ca2k9");
        due("one each", 0, x.most(3));
        x.nights(1);
        due("0 is KNOWN to two", 1, x.most(3));
        x = Tell.coast("sw2h2o9;p;pn1;pn1;px1;ca0k9;ca1k9;ca3k9");
        x.nights(1);
        due("0 to three, 1 to two, 2 to one", 2, x.most(3));
    }

    private static void mostHeaviest() {
        due("9 at last", 5, Tell.coast("p;p;ck1;ck2;ck3;ck4;ck8;ck9").most(4));
        due("9 at first", 0, Tell.coast("p;p;ck9;ck8;ck9").most(4));
        due("one alone", 0, Tell.coast("p;p;ck1").most(4));
    }

    private static void mostHangingCured() {
        SmokedSecrets x = Tell.coast("so99;p;p;ck1;ck1;ck1;ck1;ck1;ck2");
        due("none HANGS", 0, x.most(5));
        due("none is CURED", 0, x.most(6));
        hangAll(x);
        due("all HANG", 63, x.most(5));
        x.nights(1);
        due("the last HANGS", 32, x.most(5));
        due("five CURED", 31, x.most(6));
        x.nights(1);
        due("none HANGS any more", 0, x.most(5));
        due("all CURED", 63, x.most(6));
    }

    private static void mostFoul() {
        SmokedSecrets x = Tell.coast("sw6h5o99v1;p;p;ck9;ck9y1;ck9y2;ck9y3;ck9y4;ck1");
        due("none", 0, x.most(7));
        x.hang(5);
        due("one", 1, x.most(7));
        for (int i = 0; i < 5; i++) {
            x.hang(i);
            due("ROWS", 6 * (i + 1), x.most(7));
        }
        Tell.obey(x, "y:0");
        due("none by a LAW", 0, x.most(7));
    }

    private static void mostTables() {
        due("none", 0, Tell.coast("p;px1;py1;c").most(8));
        due("two: one", 1, Tell.coast("p;p;c").most(8));
        due("three: three", 3, Tell.coast("p;p;p;c").most(8));
        due("six: fifteen", 15, Tell.coast("p;p;p;p;p;p;c").most(8));
        due("two and two: two", 2, Tell.coast("p;px1;p;px1;py1;c").most(8));
        due("three and three: six", 6, Tell.coast("px4y3;p;px4y3;p;px4y3;p;c").most(8));
    }

    private static void mostLacks() {
        SmokedSecrets x = Tell.coast("so99;p;p;ck1;ck9;ck9;ck9;ck9;ck9");
        due("all", 46, x.most(9));
        hangAll(x);
        x.nights(1);
        due("one less each, one CURED", 40, x.most(9));
        x.hang(1);
        x.nights(7);
        due("one DOWN", 8 + 4, x.most(9));
        x.nights(1);
        due("one is RAW", 8, x.most(9));
        x.hang(1);
        x.nights(8);
        due("none", 0, x.most(9));
    }

    private static void mostSafe() {
        SmokedSecrets x = Tell.coast("sw6h2o99v1;p;px1;px2;px3;py1;px5y1;ck3");
        due("all", 63, x.most(10));
        x.hang(0);
        due("without 0, 1, 2", 56, x.most(10));
        Tell.obey(x, "y:9");
        due("two in the other ROW", 48, x.most(10));
        x = Tell.coast("sw2h2o0v1;p;px1;ck9");
        x.hang(0);
        due("none", 0, x.most(10));
    }

    // ---- promise 40

    private static void counts() {
        CHECK.sentence("40 count", "HIDDEN for others.", BoundaryAnswersTest::countBounds);
        CHECK.sentence("The public face", "`NONE = -1`: None; refused.", BoundaryAnswersTest::constants);
        CHECK.sentence("The public face", "`HIDDEN = -1000000`: Not told.", BoundaryAnswersTest::constants);
    }

    private static void countBounds() {
        SmokedSecrets x = new SmokedSecrets();
        for (int what : new int[] {-1, -2, 11, 12, MIN, MAX}) {
            due("count " + what, -1000000, x.count(what));
        }
        x = Tell.coast("sw6h5o99k99;p;p;p;p;p;p;c;c;c;c;c;c");
        for (int i = 0; i < 4; i++) {
            Tell.text(x, 1, "y:" + i);
        }
        x.law(3);
        x.gusts(9);
        for (int i = 0; i < 10; i++) {
            x.noted(0, 0, true);
        }
        toLastNight(x);
        Tell.feed(x, " ".repeat(240));
        int[] want = {30, 6, 6, 4, 240, 3, 999, 9, 10, 60, 40};
        for (int i = 0; i < want.length; i++) {
            due("count " + i, want[i], x.count(i));
        }
        for (int what : new int[] {-1, 11, MIN, MAX}) {
            due("count " + what, -1000000, x.count(what));
        }
    }

    private static void constants() {
        due("NONE", -1, SmokedSecrets.NONE);
        due("HIDDEN", -1000000, SmokedSecrets.HIDDEN);
    }
}
