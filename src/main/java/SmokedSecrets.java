import java.util.NoSuchElementException;

public final class SmokedSecrets {
    public static final int NONE = -1;
    public static final int HIDDEN = -1000000;

    private static final int MOST_BYTES = 240;
    private static final int MOST_PERSONS = 6;
    private static final int MOST_SECRETS = 6;
    private static final int MOST_LAWS = 4;
    private static final int WAYS = 4;
    private static final int STAYS = 4;
    private static final int LAST_NIGHT = 999;
    private static final int MOST_OAK = 999;
    private static final int MOST_COINS = 999;
    private static final int MOST_NIGHTS_A_CALL = 60;

    private static final int COAST_TEXT = 0;
    private static final int LAW_TEXT = 1;

    /** Why an ACT was refused, as STATUS numbers it. */
    private static final int NO_SUCH_ONE = 0;
    private static final int OUT_OF_BOUNDS = 1;
    private static final int IS_SO = 2;
    private static final int TOO_FEW = 3;
    private static final int TOO_LATE = 4;
    private static final int REASONS = 5;

    private final Tape tape;
    private final Coast coast;
    private final CoastReader coastReader;
    private final LawReader lawReader;
    private final Law[] laws;
    private final Row refused;
    private final State now;
    private final Past past;
    private final World world;
    private final Foresight foresight;
    private final Counsel counsel;
    private int lawCount;
    private int lawHeld;
    private int gustsNow;
    private long drawn;

    public SmokedSecrets() {
        tape = new Tape();
        coast = new Coast();
        coastReader = new CoastReader(tape);
        lawReader = new LawReader(tape);
        laws = new Law[MOST_LAWS];
        for (int i = 0; i < laws.length; i++) {
            laws[i] = new Law();
        }
        refused = new Row(REASONS);
        now = new State();
        past = new Past();
        world = new World(coast);
        foresight = new Foresight(coast, world);
        counsel = new Counsel(coast, world);
        lawCount = 0;
        lawHeld = NONE;
        gustsNow = 5;
        drawn = 0;
    }

    // ---- texts

    public int feed(int a, int b, int c, int d, int e) {
        int more = Tape.bytesIn(a) + Tape.bytesIn(b) + Tape.bytesIn(c) + Tape.bytesIn(d) + Tape.bytesIn(e);
        if (tape.length() + more > MOST_BYTES) {
            return NONE;
        }
        tape.addBytesOf(a);
        tape.addBytesOf(b);
        tape.addBytesOf(c);
        tape.addBytesOf(d);
        tape.addBytesOf(e);
        return tape.length();
    }

    public boolean end(int n) {
        if (n < 0 || n > tape.length()) {
            return false;
        }
        tape.cutTo(n);
        return true;
    }

    public int fault(int sort) {
        if (sort == COAST_TEXT) {
            return coastReader.read();
        }
        return sort == LAW_TEXT ? lawReader.read() : -2;
    }

    public int text(int sort) {
        if (sort == COAST_TEXT && coastReader.read() == NONE) {
            return takeCoast();
        }
        if (sort == LAW_TEXT && lawReader.read() == NONE) {
            return takeLaw();
        }
        return NONE;
    }

    private int takeCoast() {
        tape.cutTo(0);
        coast.become(coastReader.draft());
        world.begin(now);
        past.forget();
        counsel.forget(now);
        return coast.cells();
    }

    private int takeLaw() {
        Law free = lawAt(lawCount);
        if (free == null) {
            return NONE;
        }
        tape.cutTo(0);
        free.become(lawReader.draft());
        lawCount++;
        return lawCount - 1;
    }

    private Law lawAt(int i) {
        return i >= 0 && i < laws.length ? laws[i] : null;
    }

    public boolean law(int law) {
        Law asked = law < lawCount ? lawAt(law) : null;
        if (asked == null && law != NONE) {
            return false;
        }
        lawHeld = law;
        world.obey(asked);
        return true;
    }

    // ---- what is, as now

    public int rule(int what) {
        if (!coast.isTold()) {
            return NONE;
        }
        switch (what) {
            case 0: return coast.wide();
            case 1: return coast.rows();
            case 2: return now.oakLeft;
            case 3: return now.coins;
            default: return NONE;
        }
    }

    public int person(int person, int what) throws NoSuchElementException {
        if (!coast.hasPerson(person) || what < 0 || what > 2) {
            throw new NoSuchElementException();
        }
        switch (what) {
            case 0: return now.where.get(person);
            case 1: return coast.nose(person);
            default: return now.knownBy(person);
        }
    }

    public int secret(int secret, int what) {
        if (!coast.hasSecret(secret)) {
            return NONE;
        }
        switch (what) {
            case 0: return coast.owner(secret);
            case 1: return coast.heavy(secret);
            case 2: return coast.shed(secret);
            case 3: return now.hangs(secret) ? 1 : 0;
            case 4: return now.smoked.get(secret);
            case 5: return now.isCured(secret) ? 1 : 0;
            case 6: return now.known.get(secret);
            default: return NONE;
        }
    }

    public int breath(int person, int secret) {
        return coast.hasBoth(person, secret) ? now.breathOf(person, secret) : NONE;
    }

    public int strength(int secret, int cell) {
        if (!coast.hasSecret(secret) || !coast.hasCell(cell)) {
            return NONE;
        }
        return world.strengthAt(now, secret, cell, coast.heavy(secret));
    }

    public int smells(int secret) {
        return coast.hasSecret(secret) ? world.smellingCells(now, secret) : NONE;
    }

    public int air(int cell) {
        return coast.hasCell(cell) ? world.airAt(now, cell) : NONE;
    }

    public int shares(int person, int c) {
        if (!coast.hasPerson(person) || c < 0 || c > 999) {
            return NONE;
        }
        int all = 0;
        for (int i = 0; i < coast.persons(); i++) {
            all += now.breathsOf(i);
        }
        return all == 0 ? 0 : c * now.breathsOf(person) / all;
    }

    public int most(int what) {
        if (!coast.isTold()) {
            return NONE;
        }
        switch (what) {
            case 0:
            case 1:
            case 2: return firstOfMost(what, coast.persons());
            case 3:
            case 4: return firstOfMost(what, coast.secrets());
            case 5: return now.hanging;
            case 6: return now.curedOnes;
            case 7: return world.foulCells(now);
            case 8: return world.tables(now);
            case 9: return world.lackedByAll(now);
            case 10: return world.safePersons(now);
            case 11: return now.wind;
            default: return NONE;
        }
    }

    private int firstOfMost(int what, int those) {
        int first = 0;
        for (int i = 1; i < those; i++) {
            if (measure(what, i) > measure(what, first)) {
                first = i;
            }
        }
        return first;
    }

    private int measure(int what, int i) {
        switch (what) {
            case 0: return Integer.bitCount(now.knownBy(i));
            case 1: return -coast.nose(i);
            case 2: return now.breathsOf(i);
            case 3: return -Integer.bitCount(now.known.get(i));
            default: return coast.heavy(i);
        }
    }

    public int count(int what) {
        switch (what) {
            case 0: return coast.cells();
            case 1: return coast.persons();
            case 2: return coast.secrets();
            case 3: return lawCount;
            case 4: return tape.length();
            case 5: return lawHeld;
            case 6: return now.night;
            case 7: return gustsNow;
            case 8: return counsel.notes();
            case 9: return past.logLength(now);
            case 10: return past.acts();
            default: return HIDDEN;
        }
    }

    // ---- ACTS

    private int refuse(int reason) {
        refused.add(reason, 1);
        return NONE;
    }

    private void passNight() {
        int wiser = world.pass(now, World.ALL);
        past.write(now, wiser);
    }

    public int nights(int n) {
        if (!coast.isTold()) {
            return refuse(NO_SUCH_ONE);
        }
        if (n < 1 || n > MOST_NIGHTS_A_CALL) {
            return refuse(OUT_OF_BOUNDS);
        }
        if (now.night + n > LAST_NIGHT) {
            return refuse(TOO_LATE);
        }
        for (int i = 0; i < n; i++) {
            past.remember(now);
            passNight();
        }
        return now.night;
    }

    public int hang(int secret) {
        if (!coast.hasSecret(secret)) {
            return refuse(NO_SUCH_ONE);
        }
        if (now.isCured(secret)) {
            return refuse(IS_SO);
        }
        if (now.coins < 1) {
            return refuse(TOO_FEW);
        }
        past.remember(now);
        now.coins--;
        now.turnHanging(secret);
        return now.hangs(secret) ? 1 : 0;
    }

    public int veers(int way) {
        if (!coast.isTold()) {
            return refuse(NO_SUCH_ONE);
        }
        if (way < 0 || way >= WAYS) {
            return refuse(OUT_OF_BOUNDS);
        }
        if (way == now.wind) {
            return refuse(IS_SO);
        }
        past.remember(now);
        int was = now.wind;
        now.wind = way;
        return was;
    }

    public int moves(int person, int way) {
        if (!coast.hasPerson(person)) {
            return refuse(NO_SUCH_ONE);
        }
        int cell = coast.beside(now.where.get(person), way);
        if (cell == NONE) {
            return refuse(OUT_OF_BOUNDS);
        }
        if (now.coins < 2) {
            return refuse(TOO_FEW);
        }
        past.remember(now);
        now.coins -= 2;
        now.where.set(person, cell);
        return cell;
    }

    public int oak(int n) {
        if (!coast.isTold()) {
            return refuse(NO_SUCH_ONE);
        }
        if (n < 1 || n > 30) {
            return refuse(OUT_OF_BOUNDS);
        }
        int cost = (n + 1) / 2;
        if (now.coins < cost || now.oakLeft + n > MOST_OAK) {
            return refuse(TOO_FEW);
        }
        past.remember(now);
        now.coins -= cost;
        now.oakLeft += n;
        return now.oakLeft;
    }

    public int give(int n) {
        if (!coast.isTold()) {
            return refuse(NO_SUCH_ONE);
        }
        if (n < 1 || n > 50 || now.coins + n > MOST_COINS) {
            return refuse(OUT_OF_BOUNDS);
        }
        past.remember(now);
        now.coins += n;
        return now.coins;
    }

    public boolean gusts(int v) {
        if (v < 0 || v > 9 || v == gustsNow) {
            return false;
        }
        gustsNow = v;
        return true;
    }

    public int years(int n, long seed) {
        if (!coast.isTold() || n < 1 || n > MOST_NIGHTS_A_CALL || now.night + n > LAST_NIGHT) {
            return NONE;
        }
        drawn = seed;
        for (int i = 0; i < n; i++) {
            past.remember(now);
            drawWhatIsAhead();
            passNight();
        }
        return now.night;
    }

    private void drawWhatIsAhead() {
        if (draw(10) < gustsNow) {
            now.wind = draw(WAYS);
        }
        int secret = draw(coast.secrets());
        if (!now.isCured(secret)) {
            now.turnHanging(secret);
        }
        int person = draw(coast.persons());
        int cell = coast.beside(now.where.get(person), draw(WAYS));
        if (cell != NONE) {
            now.where.set(person, cell);
        }
        now.oakLeft = Math.min(MOST_OAK, now.oakLeft + 1);
    }

    private int draw(int j) {
        drawn = drawn * 6364136223846793005L + 1442695040888963407L;
        return j < 1 ? 0 : (int) ((drawn >>> 33) % j);
    }

    public int status(int what) {
        return what >= 0 && what < REASONS ? refused.get(what) : NONE;
    }

    public int undo() {
        return past.recall(now) ? past.acts() : NONE;
    }

    public int log(int i, int what) {
        return past.read(now, i, what);
    }

    public int image() {
        if (!coast.isTold()) {
            return NONE;
        }
        past.picture(now);
        return now.night;
    }

    public int back() {
        return past.restore(now) ? now.night : NONE;
    }

    // ---- apart, from as it is now

    public int soon(int person, int secret) {
        return coast.hasBoth(person, secret) ? foresight.nightsTillKnown(now, person, secret) : NONE;
    }

    public int ready(int secret) {
        return coast.hasSecret(secret) ? foresight.nightsTillCured(now, secret) : NONE;
    }

    public int kept(int secret, int persons, int what) {
        if (!coast.hasSecret(secret) || !coast.hasPersons(persons) || what < 0 || what > 1) {
            return NONE;
        }
        boolean ownerAmong = (persons >> coast.owner(secret) & 1) != 0;
        if (ownerAmong || now.isCured(secret) || world.lacks(now, secret) > Foresight.MOST_NIGHTS) {
            return NONE;
        }
        return foresight.rowsOfWinds(now, secret, persons, what == 0);
    }

    public int odds(int person, int secret, int n, int chance) {
        if (!coast.hasBoth(person, secret) || n < 0 || n > Foresight.MOST_NIGHTS || chance < 0 || chance > 100) {
            return NONE;
        }
        return foresight.partsThatKnow(now, person, secret, n, chance);
    }

    public int noted(int secret, int cell, boolean is) {
        if (!coast.hasSecret(secret) || !coast.hasCell(cell)) {
            return NONE;
        }
        return counsel.note(secret, cell, is);
    }

    public int heavies(int secret, int i) {
        return coast.hasSecret(secret) ? counsel.fittingHeavy(secret, i) : NONE;
    }

    public int ask(int secret) {
        return coast.hasSecret(secret) ? counsel.cellToAsk(secret) : NONE;
    }

    public int worthwhile(int what) {
        if (!coast.isTold() || what < 0 || what > 1) {
            return NONE;
        }
        int best = counsel.worthiest(now);
        return what == 0 ? best : counsel.heavyTogether(best);
    }

    public int out(int person, int what) {
        if (!coast.hasPerson(person) || what < 0 || what > 1) {
            return NONE;
        }
        int from = now.where.get(person);
        int cell = counsel.nearestPure(now, from);
        if (cell == NONE) {
            return NONE;
        }
        return what == 0 ? coast.steps(from, cell) : cell;
    }

    public int game(int one, int other, int x, int y, int what) {
        if (!coast.hasTwo(one, other) || x < 0 || x > STAYS || y < 0 || y > STAYS || what < 0 || what > 1) {
            return HIDDEN;
        }
        int of = now.where.get(one);
        int ofOther = now.where.get(other);
        return what == 0 ? counsel.gain(now, of, ofOther, x, y) : counsel.gain(now, ofOther, of, y, x);
    }

    public int rests(int one, int other, int i) {
        return coast.hasTwo(one, other) ? counsel.rest(now, one, other, i) : NONE;
    }

    /** Numbers in a row; each index is looked at here, so that it need not be where it is used. */
    private static final class Row {
        private final int[] numbers;

        Row(int size) {
            numbers = new int[size < 0 ? 0 : size];
        }

        int get(int i) {
            return i >= 0 && i < numbers.length ? numbers[i] : 0;
        }

        void set(int i, int value) {
            if (i >= 0 && i < numbers.length) {
                numbers[i] = value;
            }
        }

        void add(int i, int more) {
            if (i >= 0 && i < numbers.length) {
                numbers[i] += more;
            }
        }

        void clear() {
            for (int i = 0; i < numbers.length; i++) {
                numbers[i] = 0;
            }
        }

        void become(Row other) {
            System.arraycopy(other.numbers, 0, numbers, 0, Math.min(numbers.length, other.numbers.length));
        }
    }

    /** The bytes fed, and a place in them at which a reader reads. */
    private static final class Tape {
        /** Stands for the end: a byte of 0 never comes to the TAPE. */
        static final int END = 0;

        private final int[] bytes = new int[MOST_BYTES];
        private int length;
        private int place;

        static int bytesIn(int number) {
            int bytes = 0;
            for (int shift = 24; shift >= 0; shift -= 8) {
                if ((number >>> shift & 255) != 0) {
                    bytes++;
                }
            }
            return bytes;
        }

        void addBytesOf(int number) {
            for (int shift = 24; shift >= 0; shift -= 8) {
                int one = number >>> shift & 255;
                if (one != 0 && length >= 0 && length < bytes.length) {
                    bytes[length] = one;
                    length++;
                }
            }
        }

        int length() {
            return length;
        }

        void cutTo(int n) {
            length = n;
        }

        void rewind() {
            place = 0;
        }

        int place() {
            return place;
        }

        void skip() {
            place++;
        }

        void stepBack() {
            place--;
        }

        private int here() {
            return place >= 0 && place < length && place < bytes.length ? bytes[place] : END;
        }

        /** The next sign that is no blank, the place then at it. */
        int next() {
            for (int i = place; i >= 0 && i < length && i < bytes.length; i++) {
                if (bytes[i] != ' ') {
                    place = i;
                    return bytes[i];
                }
            }
            place = length;
            return END;
        }

        boolean take(int sign) {
            if (next() != sign) {
                return false;
            }
            place++;
            return true;
        }

        static boolean isDigit(int sign) {
            return sign >= '0' && sign <= '9';
        }

        /**
         * The number that stands here, the place then behind it. NONE: no number, or too long a one, the place then
         * where it is wrong.
         */
        int number(int mostDigits) {
            int value = 0;
            int digits = 0;
            for (int i = 0; i <= mostDigits && isDigit(here()); i++) {
                if (digits == mostDigits) {
                    return NONE;
                }
                value = value * 10 + here() - '0';
                digits++;
                place++;
            }
            return digits == 0 ? NONE : value;
        }
    }

    /** A COAST as it was told. */
    private static final class Coast {
        static final int RULE_ITEMS = 5;
        static final int PERSON_ITEMS = 3;
        static final int SECRET_ITEMS = 4;
        static final int FIRST_PERSON = RULE_ITEMS;
        static final int FIRST_SECRET = FIRST_PERSON + PERSON_ITEMS * MOST_PERSONS;
        static final int ITEMS = FIRST_SECRET + SECRET_ITEMS * MOST_SECRETS;

        /** The ITEMS' numbers, in the document's order: of the RULES, then of each PERSON, then of each SECRET. */
        final Row told = new Row(ITEMS);
        private int wide;
        private int persons;
        private int secrets;

        void clear() {
            told.clear();
            wide = 0;
            persons = 0;
            secrets = 0;
        }

        void become(Coast other) {
            told.become(other.told);
            wide = told.get(0);
            persons = other.persons;
            secrets = other.secrets;
        }

        /** A PERSON more: where its ITEMS go. */
        int addPerson() {
            persons++;
            return FIRST_PERSON + PERSON_ITEMS * (persons - 1);
        }

        int addSecret() {
            secrets++;
            return FIRST_SECRET + SECRET_ITEMS * (secrets - 1);
        }

        boolean isTold() {
            return persons > 0;
        }

        int wide() {
            return wide;
        }

        int rows() {
            return told.get(1);
        }

        int oakTold() {
            return told.get(2);
        }

        int coinsTold() {
            return told.get(3);
        }

        int windTold() {
            return told.get(4);
        }

        int cells() {
            return wide * rows();
        }

        int persons() {
            return persons;
        }

        int secrets() {
            return secrets;
        }

        boolean hasCell(int cell) {
            return cell >= 0 && cell < cells();
        }

        boolean hasPerson(int person) {
            return person >= 0 && person < persons;
        }

        boolean hasSecret(int secret) {
            return secret >= 0 && secret < secrets;
        }

        boolean hasBoth(int person, int secret) {
            return hasPerson(person) && hasSecret(secret);
        }

        boolean hasTwo(int one, int other) {
            return hasPerson(one) && hasPerson(other) && one != other;
        }

        boolean hasPersons(int bits) {
            return isTold() && bits >= 0 && bits >> persons == 0;
        }

        int home(int person) {
            int at = FIRST_PERSON + PERSON_ITEMS * person;
            return told.get(at + 1) * wide + told.get(at);
        }

        int nose(int person) {
            return told.get(FIRST_PERSON + PERSON_ITEMS * person + 2);
        }

        int owner(int secret) {
            return told.get(FIRST_SECRET + SECRET_ITEMS * secret);
        }

        int heavy(int secret) {
            return told.get(FIRST_SECRET + SECRET_ITEMS * secret + 1);
        }

        int shed(int secret) {
            int at = FIRST_SECRET + SECRET_ITEMS * secret;
            return told.get(at + 3) * wide + told.get(at + 2);
        }

        /** What only the whole TEXT shows: enough of all, each in the COAST, each SECRET of one that is told. */
        boolean stands() {
            boolean good = persons >= 2 && secrets >= 1;
            for (int i = 0; i < persons; i++) {
                good &= isWithin(FIRST_PERSON + PERSON_ITEMS * i);
            }
            for (int i = 0; i < secrets; i++) {
                good &= isWithin(FIRST_SECRET + SECRET_ITEMS * i + 2) && owner(i) < persons;
            }
            return good;
        }

        private boolean isWithin(int at) {
            return told.get(at) < told.get(0) && told.get(at + 1) < told.get(1);
        }

        int rowOf(int cell) {
            return wide < 1 ? 0 : cell / wide;
        }

        int placeOf(int cell) {
            return wide < 1 ? 0 : cell % wide;
        }

        /** The CELL that lies that way; NONE: none does. */
        int beside(int cell, int way) {
            switch (way) {
                case 0: return rowOf(cell) > 0 ? cell - wide : NONE;
                case 1: return placeOf(cell) < wide - 1 ? cell + 1 : NONE;
                case 2: return rowOf(cell) < rows() - 1 ? cell + wide : NONE;
                case 3: return placeOf(cell) > 0 ? cell - 1 : NONE;
                default: return NONE;
            }
        }

        int steps(int from, int to) {
            return Math.abs(rowOf(from) - rowOf(to)) + Math.abs(placeOf(from) - placeOf(to));
        }

        /** How many CELLS straight that way from the SHED the CELL lies; NONE: it does not. */
        int away(int shed, int cell, int way) {
            int down = rowOf(cell) - rowOf(shed);
            int right = placeOf(cell) - placeOf(shed);
            boolean upright = way == 0 || way == 2;
            if ((upright ? right : down) != 0) {
                return NONE;
            }
            int along = upright ? down : right;
            int off = way == 0 || way == 3 ? -along : along;
            return off < 0 ? NONE : off;
        }
    }

    /** Reads the TAPE as a COAST. */
    private static final class CoastReader {
        /** Of each ITEM: letter, least, most, and what it is without. */
        private static final int[] ITEM = {
            'w', 2, 6, 5, 'h', 2, 5, 4, 'o', 0, 99, 30, 'k', 0, 99, 20, 'v', 0, 3, 1,
            'x', 0, 5, 0, 'y', 0, 4, 0, 'n', 1, 9, 3,
            'a', 0, 5, 0, 'k', 1, 9, 3, 'x', 0, 5, 0, 'y', 0, 4, 0,
        };
        private static final int LETTER = 0;
        private static final int LEAST = 1;
        private static final int MOST = 2;
        private static final int WITHOUT = 3;
        private static final int OF_EACH = 4;

        private static final int PERSON_ITEM = Coast.RULE_ITEMS;
        private static final int SECRET_ITEM = PERSON_ITEM + Coast.PERSON_ITEMS;

        private final Tape tape;
        private final Coast draft = new Coast();
        private boolean rulesTold;

        CoastReader(Tape tape) {
            this.tape = tape;
        }

        Coast draft() {
            return draft;
        }

        /** The FAULT; NONE: none, and the draft is the COAST. */
        int read() {
            tape.rewind();
            draft.clear();
            rulesTold = false;
            fillIn(0, Coast.RULE_ITEMS, 0);
            boolean good = clause();
            for (int i = 0; good && i < MOST_BYTES && tape.take(';'); i++) {
                good = clause();
            }
            return good && tape.next() == Tape.END && draft.stands() ? NONE : tape.place();
        }

        private static int item(int i, int what) {
            int at = i * OF_EACH + what;
            return at >= 0 && at < ITEM.length ? ITEM[at] : 0;
        }

        /** In these methods false says: the TAPE's place is the FAULT. */
        private boolean clause() {
            switch (tape.next()) {
                case 's':
                    if (rulesTold) {
                        return false;
                    }
                    rulesTold = true;
                    return items(0, Coast.RULE_ITEMS, 0);
                case 'p':
                    if (draft.persons() >= MOST_PERSONS) {
                        return false;
                    }
                    return items(PERSON_ITEM, Coast.PERSON_ITEMS, draft.addPerson());
                case 'c':
                    if (draft.secrets() >= MOST_SECRETS) {
                        return false;
                    }
                    return items(SECRET_ITEM, Coast.SECRET_ITEMS, draft.addSecret());
                default:
                    return false;
            }
        }

        private void fillIn(int first, int many, int at) {
            for (int i = 0; i < many; i++) {
                draft.told.set(at + i, item(first + i, WITHOUT));
            }
        }

        private boolean items(int first, int many, int at) {
            tape.skip();
            fillIn(first, many, at);
            int seen = 0;
            for (int i = 0; i <= many; i++) {
                int which = find(first, many, tape.next());
                if (which == NONE) {
                    return true;
                }
                if ((seen >> which & 1) != 0) {
                    return false;
                }
                seen |= 1 << which;
                tape.skip();
                if (!number(first + which, at + which)) {
                    return false;
                }
            }
            return true;
        }

        private static int find(int first, int many, int letter) {
            for (int i = 0; i < many; i++) {
                if (item(first + i, LETTER) == letter) {
                    return i;
                }
            }
            return NONE;
        }

        private boolean number(int item, int at) {
            tape.next();
            int value = tape.number(2);
            if (value == NONE) {
                return false;
            }
            if (value < item(item, LEAST) || value > item(item, MOST)) {
                tape.stepBack();
                return false;
            }
            draft.told.set(at, value);
            return true;
        }
    }

    /**
     * A LAW, ready to be worked out: a number stands for itself, a letter for -1 less its place in LETTERS,
     * another sign for itself made negative, each behind what it works on.
     */
    private static final class Law {
        static final String LETTERS = "kfnvto";
        private static final int MOST_CODES = 256;
        private static final int MOST_OPEN = 64;
        private static final int MOST_NUMBER = 1000000;

        private final Row codes = new Row(MOST_CODES);
        private final Row open = new Row(MOST_OPEN);
        private int length;

        void clear() {
            length = 0;
        }

        void become(Law other) {
            codes.become(other.codes);
            length = other.length;
        }

        void add(int code) {
            if (length < MOST_CODES) {
                codes.set(length, code);
                length++;
            }
        }

        /** A CONDITION ends: the place for where to go on, if it does not hold. */
        int addLeap() {
            add(-'?');
            add(0);
            return length - 1;
        }

        void landHere(int leap) {
            codes.set(leap, length);
        }

        /** WORTH, not yet held within 0 .. 9. */
        int worth(Row letters) {
            int top = 0;
            for (int at = 0; at < length; at++) {
                int code = codes.get(at);
                if (code >= 0) {
                    open.set(top, code);
                    top++;
                } else if (code >= -LETTERS.length()) {
                    open.set(top, letters.get(-1 - code));
                    top++;
                } else if (code == -';') {
                    return open.get(top - 1);
                } else if (code == -'!') {
                    open.set(top - 1, open.get(top - 1) == 0 ? 1 : 0);
                } else if (code == -'?') {
                    top--;
                    at++;
                    if (open.get(top) == 0) {
                        at = Math.max(at, codes.get(at) - 1);
                    }
                } else {
                    top--;
                    open.set(top - 1, workOut(-code, open.get(top - 1), open.get(top)));
                }
            }
            return 0;
        }

        private static int workOut(int sign, int a, int b) {
            long result;
            switch (sign) {
                case '+': result = a + b; break;
                case '-': result = a - b; break;
                case '*': result = (long) a * b; break;
                case '/': result = b == 0 ? 0 : a / b; break;
                case '=': result = a == b ? 1 : 0; break;
                case '<': result = a < b ? 1 : 0; break;
                case '>': result = a > b ? 1 : 0; break;
                case '&': result = a & b; break;
                default: result = a | b; break;
            }
            if (result > MOST_NUMBER) {
                return MOST_NUMBER;
            }
            return result < -MOST_NUMBER ? -MOST_NUMBER : (int) result;
        }
    }

    /** Reads the TAPE as a LAW. */
    private static final class LawReader {
        private static final int MOST_DEPTH = 6;

        private final Tape tape;
        private final Law draft = new Law();

        LawReader(Tape tape) {
            this.tape = tape;
        }

        Law draft() {
            return draft;
        }

        /** The FAULT; NONE: none, and the draft is the LAW. */
        int read() {
            tape.rewind();
            draft.clear();
            boolean good = clause();
            for (int i = 0; good && i < MOST_BYTES && tape.take(';'); i++) {
                good = clause();
            }
            return good && tape.next() == Tape.END ? NONE : tape.place();
        }

        /** In these methods false says: the TAPE's place is the FAULT. */
        private boolean clause() {
            if (!tape.take('y') || !tape.take(':')) {
                return false;
            }
            int sign = tape.next();
            if (sign == '!' || sign == '(') {
                return condition(0) && conditional();
            }
            if (!sum(0)) {
                return false;
            }
            if (isComparing(tape.next())) {
                return comparison(0) && moreUnits(0) && moreTruths(0) && conditional();
            }
            draft.add(-';');
            return true;
        }

        private boolean conditional() {
            if (!tape.take('?')) {
                return false;
            }
            int leap = draft.addLeap();
            if (!sum(0)) {
                return false;
            }
            draft.add(-';');
            draft.landHere(leap);
            return true;
        }

        private boolean condition(int depth) {
            return unit(depth) && moreUnits(depth) && moreTruths(depth);
        }

        private boolean moreTruths(int depth) {
            for (int i = 0; i < MOST_BYTES && tape.take('|'); i++) {
                if (!unit(depth) || !moreUnits(depth)) {
                    return false;
                }
                draft.add(-'|');
            }
            return true;
        }

        private boolean moreUnits(int depth) {
            for (int i = 0; i < MOST_BYTES && tape.take('&'); i++) {
                if (!unit(depth)) {
                    return false;
                }
                draft.add(-'&');
            }
            return true;
        }

        private boolean unit(int depth) {
            int sign = tape.next();
            if (sign != '!' && sign != '(') {
                return sum(depth) && comparison(depth);
            }
            if (depth >= MOST_DEPTH) {
                return false;
            }
            tape.skip();
            if (sign == '(') {
                return condition(depth + 1) && tape.take(')');
            }
            if (!unit(depth + 1)) {
                return false;
            }
            draft.add(-'!');
            return true;
        }

        private static boolean isComparing(int sign) {
            return sign == '=' || sign == '<' || sign == '>';
        }

        private boolean comparison(int depth) {
            int sign = tape.next();
            if (!isComparing(sign)) {
                return false;
            }
            tape.skip();
            if (!sum(depth)) {
                return false;
            }
            draft.add(-sign);
            return true;
        }

        private boolean sum(int depth) {
            boolean good = term(depth);
            for (int i = 0; good && i < MOST_BYTES; i++) {
                int sign = tape.next();
                if (sign != '+' && sign != '-') {
                    break;
                }
                tape.skip();
                good = term(depth);
                draft.add(-sign);
            }
            return good;
        }

        private boolean term(int depth) {
            boolean good = atom(depth);
            for (int i = 0; good && i < MOST_BYTES; i++) {
                int sign = tape.next();
                if (sign != '*' && sign != '/') {
                    break;
                }
                tape.skip();
                good = atom(depth);
                draft.add(-sign);
            }
            return good;
        }

        private boolean atom(int depth) {
            int sign = tape.next();
            if (sign == '[') {
                if (depth >= MOST_DEPTH) {
                    return false;
                }
                tape.skip();
                return sum(depth + 1) && tape.take(']');
            }
            if (Tape.isDigit(sign)) {
                int value = tape.number(4);
                draft.add(value);
                return value != NONE;
            }
            int letter = Law.LETTERS.indexOf((char) sign);
            if (letter < 0) {
                return false;
            }
            tape.skip();
            draft.add(-1 - letter);
            return true;
        }
    }

    /** How it is at a time. */
    private static final class State {
        private static final int MOST_BREATH = 99;

        final Row where = new Row(MOST_PERSONS);
        final Row smoked = new Row(MOST_SECRETS);
        /** Of each SECRET who KNOWS it (bits): kept beside the BREATHS, as each NIGHT asks for it often. */
        final Row known = new Row(MOST_SECRETS);
        private final Row breaths = new Row(MOST_PERSONS * MOST_SECRETS);
        int hanging;
        int curedOnes;
        int wind;
        int oakLeft;
        int coins;
        int night;
        /** How many rows the LOG ever got, those UNDONE less. */
        int logged;

        void become(State other) {
            where.become(other.where);
            smoked.become(other.smoked);
            known.become(other.known);
            breaths.become(other.breaths);
            hanging = other.hanging;
            curedOnes = other.curedOnes;
            wind = other.wind;
            oakLeft = other.oakLeft;
            coins = other.coins;
            night = other.night;
            logged = other.logged;
        }

        void clear() {
            where.clear();
            smoked.clear();
            known.clear();
            breaths.clear();
            hanging = 0;
            curedOnes = 0;
            night = 0;
            logged = 0;
        }

        static State pick(State[] states, int i) {
            return i >= 0 && i < states.length ? states[i] : null;
        }

        boolean hangs(int secret) {
            return (hanging >> secret & 1) != 0;
        }

        boolean isCured(int secret) {
            return (curedOnes >> secret & 1) != 0;
        }

        void turnHanging(int secret) {
            hanging ^= 1 << secret;
        }

        boolean knows(int person, int secret) {
            return (known.get(secret) >> person & 1) != 0;
        }

        void learn(int person, int secret) {
            known.set(secret, known.get(secret) | 1 << person);
        }

        int knownBy(int person) {
            int bits = 0;
            for (int i = 0; i < MOST_SECRETS; i++) {
                if (knows(person, i)) {
                    bits |= 1 << i;
                }
            }
            return bits;
        }

        int breathOf(int person, int secret) {
            return breaths.get(person * MOST_SECRETS + secret);
        }

        int breathsOf(int person) {
            int sum = 0;
            for (int i = 0; i < MOST_SECRETS; i++) {
                sum += breathOf(person, i);
            }
            return sum;
        }

        void breathe(int person, int secret, int more, int nose) {
            int at = person * MOST_SECRETS + secret;
            int breath = Math.min(MOST_BREATH, breaths.get(at) + more);
            breaths.set(at, breath);
            if (breath >= nose) {
                known.set(secret, known.get(secret) | 1 << person);
            }
        }
    }

    /** What smokes where, and how a NIGHT goes. */
    private static final class World {
        /** All SECRETS, as bits. */
        static final int ALL = (1 << MOST_SECRETS) - 1;
        private static final int MOST_STRENGTH = 9;

        private final Coast coast;
        private final Row letters = new Row(6);
        private final Row knownAhead = new Row(MOST_SECRETS);
        private final Row knownBehindCuring = new Row(MOST_SECRETS);
        /** null: no LAW holds. */
        private Law held;

        World(Coast coast) {
            this.coast = coast;
        }

        void obey(Law law) {
            held = law;
        }

        void begin(State state) {
            state.clear();
            state.wind = coast.windTold();
            state.oakLeft = coast.oakTold();
            state.coins = coast.coinsTold();
            for (int i = 0; i < coast.persons(); i++) {
                state.where.set(i, coast.home(i));
            }
            for (int i = 0; i < coast.secrets(); i++) {
                state.learn(coast.owner(i), i);
            }
        }

        /** STRENGTH of the SECRET, if it were so HEAVY. */
        int strengthAt(State state, int secret, int cell, int heavy) {
            int off = coast.away(coast.shed(secret), cell, state.wind);
            if (off == NONE) {
                return 0;
            }
            int worth = heavy - off;
            if (held != null) {
                letters.set(0, heavy);
                letters.set(1, off);
                letters.set(2, state.smoked.get(secret));
                letters.set(3, state.wind);
                letters.set(4, state.night % 100);
                letters.set(5, state.oakLeft);
                worth = held.worth(letters);
            }
            return Math.max(0, Math.min(MOST_STRENGTH, worth));
        }

        int smellingCells(State state, int secret) {
            int bits = 0;
            for (int i = 0; i < coast.cells(); i++) {
                if (strengthAt(state, secret, i, coast.heavy(secret)) > 0) {
                    bits |= 1 << i;
                }
            }
            return bits;
        }

        int airAt(State state, int cell) {
            int sum = 0;
            for (int i = 0; i < coast.secrets(); i++) {
                if (state.hangs(i)) {
                    sum += strengthAt(state, i, cell, coast.heavy(i));
                }
            }
            return sum;
        }

        int foulCells(State state) {
            int many = 0;
            for (int i = 0; i < coast.cells(); i++) {
                if (airAt(state, i) > 0) {
                    many++;
                }
            }
            return many;
        }

        int safePersons(State state) {
            int bits = 0;
            for (int i = 0; i < coast.persons(); i++) {
                if (airAt(state, state.where.get(i)) == 0) {
                    bits |= 1 << i;
                }
            }
            return bits;
        }

        int tables(State state) {
            int many = 0;
            for (int one = 0; one < coast.persons(); one++) {
                for (int other = one + 1; other < coast.persons(); other++) {
                    if (state.where.get(one) == state.where.get(other)) {
                        many++;
                    }
                }
            }
            return many;
        }

        int lacks(State state, int secret) {
            return state.isCured(secret) ? 0 : coast.heavy(secret) - state.smoked.get(secret);
        }

        int lackedByAll(State state) {
            int sum = 0;
            for (int i = 0; i < coast.secrets(); i++) {
                sum += lacks(state, i);
            }
            return sum;
        }

        /**
         * A NIGHT goes by, the LOG apart: who KNOWS of one more of these SECRETS (bits) at least, as bits. Of others
         * no BREATH is added: none hangs on another's, and what is tried on copies asks for one SECRET's alone.
         */
        int pass(State state, int secrets) {
            knownAhead.become(state.known);
            smoke(state, secrets);
            int cured = cure(state);
            tell(state, secrets);
            state.coins = Math.min(MOST_COINS, state.coins + 2 * cured);
            state.night++;
            int wiser = 0;
            for (int i = 0; i < coast.secrets(); i++) {
                wiser |= state.known.get(i) & ~knownAhead.get(i);
            }
            return wiser;
        }

        /** OAK goes down behind all of it alone: LAWS see what there was as the NIGHT began. */
        private void smoke(State state, int secrets) {
            int oakLeft = state.oakLeft;
            for (int secret = 0; secret < coast.secrets(); secret++) {
                if (!state.hangs(secret) || oakLeft < 1) {
                    continue;
                }
                oakLeft--;
                int breathing = (secrets >> secret & 1) != 0 ? coast.persons() : 0;
                for (int i = 0; i < breathing; i++) {
                    int strength = strengthAt(state, secret, state.where.get(i), coast.heavy(secret));
                    if (strength > 0) {
                        state.breathe(i, secret, strength, coast.nose(i));
                    }
                }
                state.smoked.add(secret, 1);
            }
            state.oakLeft = oakLeft;
        }

        private int cure(State state) {
            int cured = 0;
            for (int i = 0; i < coast.secrets(); i++) {
                if (!state.isCured(i) && state.smoked.get(i) >= coast.heavy(i)) {
                    state.curedOnes |= 1 << i;
                    state.hanging &= ~(1 << i);
                    cured++;
                }
            }
            return cured;
        }

        private void tell(State state, int secrets) {
            knownBehindCuring.become(state.known);
            for (int one = 0; one < coast.persons(); one++) {
                for (int other = one + 1; other < coast.persons(); other++) {
                    if (state.where.get(one) == state.where.get(other)) {
                        tellAtTable(state, one, other, secrets & ~state.curedOnes);
                    }
                }
            }
        }

        private void tellAtTable(State state, int one, int other, int secrets) {
            for (int i = 0; i < coast.secrets(); i++) {
                boolean oneKnows = (knownBehindCuring.get(i) >> one & 1) != 0;
                boolean otherKnows = (knownBehindCuring.get(i) >> other & 1) != 0;
                if ((secrets >> i & 1) != 0 && oneKnows != otherKnows) {
                    int hears = oneKnows ? other : one;
                    state.breathe(hears, i, 1, coast.nose(hears));
                }
            }
        }
    }

    /** What NIGHTS would bring, tried on copies. */
    private static final class Foresight {
        static final int MOST_NIGHTS = 6;
        private static final int FARTHEST = 99;
        private static final int ALL_PARTS = 1000000000;

        private final Coast coast;
        private final World world;
        /** How it is behind so many NIGHTS of a row: a row that begins alike goes on from there. */
        private final State[] behind = new State[MOST_NIGHTS + 1];
        private final Row parts = new Row(MOST_NIGHTS + 1);
        private final State trial = new State();

        Foresight(Coast coast, World world) {
            this.coast = coast;
            this.world = world;
            for (int i = 0; i < behind.length; i++) {
                behind[i] = new State();
            }
        }

        int nightsTillKnown(State now, int person, int secret) {
            trial.become(now);
            for (int i = 0; i <= FARTHEST; i++) {
                if (trial.knows(person, secret)) {
                    return i;
                }
                world.pass(trial, 1 << secret);
            }
            return NONE;
        }

        int nightsTillCured(State now, int secret) {
            trial.become(now);
            for (int i = 0; i <= FARTHEST; i++) {
                if (trial.isCured(secret)) {
                    return i;
                }
                world.pass(trial, 0);
            }
            return NONE;
        }

        /** KEPT: the least row, or how many rows. */
        int rowsOfWinds(State now, int secret, int persons, boolean least) {
            int nights = Math.min(MOST_NIGHTS, world.lacks(now, secret));
            State first = State.pick(behind, 0);
            State last = State.pick(behind, nights);
            if (first == null || last == null) {
                return NONE;
            }
            first.become(now);
            first.hanging |= 1 << secret;
            int rows = 1 << 2 * nights;
            int many = 0;
            for (int row = 0; row < rows; row++) {
                int gone = passTillKnown(row, nights, secret, persons);
                if (gone <= nights) {
                    // Who KNOWS it never forgets: no row that begins so does.
                    row |= (1 << 2 * (nights - gone)) - 1;
                } else if (last.isCured(secret)) {
                    if (least) {
                        return digits(row, nights);
                    }
                    many++;
                }
            }
            return least ? NONE : many;
        }

        /** Behind how many NIGHTS of the row one of these KNOWS it; one more than all: none does. */
        private int passTillKnown(int row, int nights, int secret, int persons) {
            for (int i = firstNew(row, nights, 2); i < nights; i++) {
                State ahead = State.pick(behind, i);
                State then = State.pick(behind, i + 1);
                if (ahead == null || then == null) {
                    return i;
                }
                then.become(ahead);
                then.wind = row >> 2 * (nights - 1 - i) & 3;
                world.pass(then, 1 << secret);
                if ((then.known.get(secret) & persons) != 0) {
                    return i + 1;
                }
            }
            return nights + 1;
        }

        /** The first NIGHT of a row in which it differs from the one ahead of it, a NIGHT being so many bits. */
        private static int firstNew(int row, int nights, int bits) {
            int same = nights - 1;
            for (int i = 0; i < nights && same > 0 && (row >> bits * i & (1 << bits) - 1) == 0; i++) {
                same--;
            }
            return Math.max(0, same);
        }

        private static int digits(int row, int nights) {
            int value = 0;
            for (int i = nights - 1; i >= 0; i--) {
                value = value * 10 + (row >> 2 * i & 3);
            }
            return value;
        }

        /** ODDS: a row has a bit for each NIGHT, set if the WIND turned ahead of it. */
        int partsThatKnow(State now, int person, int secret, int nights, int chance) {
            State first = State.pick(behind, 0);
            State last = State.pick(behind, nights);
            if (first == null || last == null) {
                return NONE;
            }
            first.become(now);
            parts.set(0, ALL_PARTS);
            int sum = 0;
            for (int row = 0; row < 1 << nights; row++) {
                for (int i = firstNew(row, nights, 1); i < nights; i++) {
                    boolean turns = (row >> nights - 1 - i & 1) != 0;
                    State then = stepByChance(i, turns, chance);
                    if (then != null) {
                        world.pass(then, 1 << secret);
                    }
                }
                if (last.knows(person, secret)) {
                    sum += parts.get(nights);
                }
            }
            return sum;
        }

        /** The way that begins so goes on with the WIND turned or not: as it is then, its part set. */
        private State stepByChance(int night, boolean turns, int chance) {
            State ahead = State.pick(behind, night);
            State then = State.pick(behind, night + 1);
            if (ahead == null || then == null) {
                return null;
            }
            int whole = parts.get(night);
            int turned = (int) ((long) whole * chance / 100);
            parts.set(night + 1, turns ? turned : whole - turned);
            then.become(ahead);
            then.wind = turns ? (ahead.wind + 1) % WAYS : ahead.wind;
            return then;
        }
    }

    /** What may be so, and what to do about it. */
    private static final class Counsel {
        private static final int MOST_NOTES = 10;
        private static final int HEAVIEST = 9;
        private static final int CHOICES = STAYS + 1;

        private final Coast coast;
        private final World world;
        private final State asTold = new State();
        private final Row noteSecret = new Row(MOST_NOTES);
        private final Row noteCell = new Row(MOST_NOTES);
        private final Row noteIs = new Row(MOST_NOTES);
        private final Row gains = new Row(CHOICES * CHOICES);
        private final Row otherGains = new Row(CHOICES * CHOICES);
        private int notes;

        Counsel(Coast coast, World world) {
            this.coast = coast;
            this.world = world;
        }

        void forget(State told) {
            asTold.become(told);
            notes = 0;
        }

        int notes() {
            return notes;
        }

        int note(int secret, int cell, boolean is) {
            if (notes >= MOST_NOTES) {
                return NONE;
            }
            noteSecret.set(notes, secret);
            noteCell.set(notes, cell);
            noteIs.set(notes, is ? 1 : 0);
            notes++;
            return notes;
        }

        private boolean smellsAsTold(int secret, int cell, int heavy) {
            return world.strengthAt(asTold, secret, cell, heavy) > 0;
        }

        private boolean fits(int secret, int heavy) {
            for (int i = 0; i < notes; i++) {
                if (noteSecret.get(i) == secret
                        && smellsAsTold(secret, noteCell.get(i), heavy) != (noteIs.get(i) != 0)) {
                    return false;
                }
            }
            return true;
        }

        /** HEAVIES, as bits. */
        private int fitting(int secret) {
            int bits = 0;
            for (int heavy = 1; heavy <= HEAVIEST; heavy++) {
                if (fits(secret, heavy)) {
                    bits |= 1 << heavy;
                }
            }
            return bits;
        }

        int fittingHeavy(int secret, int i) {
            int bits = fitting(secret);
            if (i == NONE) {
                return Integer.bitCount(bits);
            }
            int left = i;
            for (int heavy = 1; heavy <= HEAVIEST && left >= 0; heavy++) {
                if ((bits >> heavy & 1) != 0) {
                    if (left == 0) {
                        return heavy;
                    }
                    left--;
                }
            }
            return NONE;
        }

        int cellToAsk(int secret) {
            int bits = fitting(secret);
            if (bits == 0) {
                return NONE;
            }
            int best = NONE;
            int least = 0;
            for (int cell = 0; cell < coast.cells(); cell++) {
                int apart = apart(secret, cell, bits);
                if (best == NONE || apart < least) {
                    best = cell;
                    least = apart;
                }
            }
            return best;
        }

        private int apart(int secret, int cell, int bits) {
            int more = 0;
            for (int heavy = 1; heavy <= HEAVIEST; heavy++) {
                if ((bits >> heavy & 1) != 0) {
                    more += smellsAsTold(secret, cell, heavy) ? 1 : -1;
                }
            }
            return Math.abs(more);
        }

        int heavyTogether(int set) {
            int sum = 0;
            for (int i = 0; i < coast.secrets(); i++) {
                if ((set >> i & 1) != 0) {
                    sum += coast.heavy(i);
                }
            }
            return sum;
        }

        /** WORTHWHILE, as bits; sets come rising, so the least of equals is the one that came first. */
        int worthiest(State now) {
            int best = 0;
            for (int set = 1; set < 1 << coast.secrets(); set++) {
                if ((set & now.curedOnes) != 0 || lackedBy(now, set) > now.oakLeft) {
                    continue;
                }
                int more = heavyTogether(set) - heavyTogether(best);
                if (more > 0 || more == 0 && Integer.bitCount(set) < Integer.bitCount(best)) {
                    best = set;
                }
            }
            return best;
        }

        private int lackedBy(State now, int set) {
            int sum = 0;
            for (int i = 0; i < coast.secrets(); i++) {
                if ((set >> i & 1) != 0) {
                    sum += world.lacks(now, i);
                }
            }
            return sum;
        }

        int nearestPure(State now, int from) {
            int best = NONE;
            for (int cell = 0; cell < coast.cells(); cell++) {
                if (world.airAt(now, cell) == 0
                        && (best == NONE || coast.steps(from, cell) < coast.steps(from, best))) {
                    best = cell;
                }
            }
            return best;
        }

        private int goes(int cell, int choice) {
            int then = coast.beside(cell, choice);
            return then == NONE ? cell : then;
        }

        /** What one has who is in that CELL and chooses so, by where the other is and what he chooses. */
        int gain(State now, int cell, int otherCell, int choice, int otherChoice) {
            int then = goes(cell, choice);
            int gain = 9 - world.airAt(now, then);
            if (then == goes(otherCell, otherChoice)) {
                gain += 5;
            }
            return choice == STAYS ? gain : gain - 1;
        }

        int rest(State now, int one, int other, int i) {
            int cell = now.where.get(one);
            int otherCell = now.where.get(other);
            for (int x = 0; x < CHOICES; x++) {
                for (int y = 0; y < CHOICES; y++) {
                    gains.set(x * CHOICES + y, gain(now, cell, otherCell, x, y));
                    otherGains.set(x * CHOICES + y, gain(now, otherCell, cell, y, x));
                }
            }
            int many = 0;
            for (int pair = 0; pair < CHOICES * CHOICES; pair++) {
                if (!isRest(pair / CHOICES, pair % CHOICES)) {
                    continue;
                }
                if (many == i) {
                    return pair / CHOICES * 10 + pair % CHOICES;
                }
                many++;
            }
            return i == NONE ? many : NONE;
        }

        private boolean isRest(int x, int y) {
            int has = gains.get(x * CHOICES + y);
            int otherHas = otherGains.get(x * CHOICES + y);
            for (int i = 0; i < CHOICES; i++) {
                if (gains.get(i * CHOICES + y) > has || otherGains.get(x * CHOICES + i) > otherHas) {
                    return false;
                }
            }
            return true;
        }
    }

    /** The LOG, the ACTS that can be UNDONE, the IMAGE. */
    private static final class Past {
        private static final int MOST_ACTS = 40;
        private static final int LOG_LENGTH = 60;
        /** Behind the LOG stand the rows that come back to it when ACTS are UNDONE. */
        private static final int ROWS_KEPT = LOG_LENGTH + MOST_ACTS;
        private static final int OF_EACH = 3;

        private final State[] ahead = new State[MOST_ACTS];
        private final Row rows = new Row(ROWS_KEPT * OF_EACH);
        private final Row imageRows = new Row(ROWS_KEPT * OF_EACH);
        private final State imaged = new State();
        private boolean hasImage;
        private int nextAct;
        private int acts;

        Past() {
            for (int i = 0; i < ahead.length; i++) {
                ahead[i] = new State();
            }
        }

        void forget() {
            hasImage = false;
            acts = 0;
        }

        int acts() {
            return acts;
        }

        void remember(State now) {
            State kept = State.pick(ahead, nextAct);
            if (kept == null) {
                return;
            }
            kept.become(now);
            nextAct = (nextAct + 1) % MOST_ACTS;
            acts = Math.min(MOST_ACTS, acts + 1);
        }

        boolean recall(State now) {
            int latest = (nextAct + MOST_ACTS - 1) % MOST_ACTS;
            State kept = State.pick(ahead, latest);
            if (acts < 1 || kept == null) {
                return false;
            }
            now.become(kept);
            nextAct = latest;
            acts--;
            return true;
        }

        void write(State now, int wiser) {
            int at = now.logged % ROWS_KEPT * OF_EACH;
            rows.set(at, wiser);
            rows.set(at + 1, Integer.bitCount(now.curedOnes));
            rows.set(at + 2, now.oakLeft);
            now.logged++;
        }

        int logLength(State now) {
            return Math.min(LOG_LENGTH, now.logged);
        }

        int read(State now, int i, int what) {
            if (i < 0 || i >= logLength(now) || what < 0 || what >= OF_EACH) {
                return NONE;
            }
            return rows.get((now.logged - 1 - i) % ROWS_KEPT * OF_EACH + what);
        }

        void picture(State now) {
            imaged.become(now);
            imageRows.become(rows);
            hasImage = true;
        }

        boolean restore(State now) {
            if (!hasImage) {
                return false;
            }
            now.become(imaged);
            rows.become(imageRows);
            acts = 0;
            return true;
        }
    }
}
