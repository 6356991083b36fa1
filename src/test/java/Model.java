import java.util.ArrayList;
import java.util.List;

/**
 * The document once more, in the plainest form and by other ways than the class (copies, recursion, trees):
 * what random runs are compared with. It is given its COAST and LAWS as data, not as text.
 */
final class Model {
    static final int NONE = -1;
    static final int HIDDEN = -1000000;
    static final int NO_SUCH = -77;

    /** A LAW's CLAUSES: conditions (null: none) and sums. */
    interface Sum {
        long value(int[] letters);
    }

    static final class Clause {
        Sum condition;
        Sum sum;
    }

    static final class Coast {
        int wide = 5, rows = 4, oak = 30, coins = 20, wind = 1;
        int[] x, y, nose;
        int[] owner, heavy, shedX, shedY;
    }

    static final class State {
        int[] where;
        int[][] breath;
        boolean[] hangs, cured;
        int[] smoked;
        int wind, oak, coins, night;
        List<int[]> log = new ArrayList<>();

        State copy() {
            State s = new State();
            s.where = where.clone();
            s.breath = new int[breath.length][];
            for (int i = 0; i < breath.length; i++) s.breath[i] = breath[i].clone();
            s.hangs = hangs.clone();
            s.cured = cured.clone();
            s.smoked = smoked.clone();
            s.wind = wind;
            s.oak = oak;
            s.coins = coins;
            s.night = night;
            s.log = new ArrayList<>(log);
            return s;
        }
    }

    Coast coast;
    State now;
    State told;
    State image;
    final List<State> acts = new ArrayList<>();
    final List<int[]> notes = new ArrayList<>();
    final List<List<Clause>> laws = new ArrayList<>();
    int held = NONE;
    int gusts = 5;
    final int[] status = new int[5];

    int persons() { return coast == null ? 0 : coast.x.length; }
    int secrets() { return coast == null ? 0 : coast.owner.length; }
    int cells() { return coast == null ? 0 : coast.wide * coast.rows; }
    boolean p(int i) { return i >= 0 && i < persons(); }
    boolean c(int i) { return i >= 0 && i < secrets(); }
    boolean cell(int i) { return i >= 0 && i < cells(); }

    int tell(Coast coast) {
        this.coast = coast;
        now = new State();
        now.where = new int[persons()];
        now.breath = new int[persons()][secrets()];
        for (int i = 0; i < persons(); i++) now.where[i] = coast.y[i] * coast.wide + coast.x[i];
        now.hangs = new boolean[secrets()];
        now.cured = new boolean[secrets()];
        now.smoked = new int[secrets()];
        now.wind = coast.wind;
        now.oak = coast.oak;
        now.coins = coast.coins;
        told = now.copy();
        image = null;
        acts.clear();
        notes.clear();
        return cells();
    }

    boolean law(int law) {
        if (law < NONE || law >= laws.size()) return false;
        held = law;
        return true;
    }

    boolean knows(State s, int person, int secret) {
        return coast.owner[secret] == person || s.breath[person][secret] >= coast.nose[person];
    }

    int knows(State s, int person) {
        int bits = 0;
        for (int i = 0; i < secrets(); i++) if (knows(s, person, i)) bits += 1 << i;
        return bits;
    }

    int known(State s, int secret) {
        int bits = 0;
        for (int i = 0; i < persons(); i++) if (knows(s, i, secret)) bits += 1 << i;
        return bits;
    }

    static final int[] DOWN = {-1, 0, 1, 0};
    static final int[] RIGHT = {0, 1, 0, -1};

    int strength(State s, int oak, int secret, int cell, int heavy) {
        int x = coast.shedX[secret];
        int y = coast.shedY[secret];
        for (int f = 0; f < 6; f++) {
            int cx = x + f * RIGHT[s.wind];
            int cy = y + f * DOWN[s.wind];
            if (cx < 0 || cy < 0 || cx >= coast.wide || cy >= coast.rows) return 0;
            if (cy * coast.wide + cx != cell) continue;
            long worth = heavy - f;
            if (held >= 0) {
                worth = 0;
                int[] letters = {heavy, f, s.smoked[secret], s.wind, s.night % 100, oak};
                for (Clause clause : laws.get(held)) {
                    if (clause.condition == null || clause.condition.value(letters) != 0) {
                        worth = clause.sum.value(letters);
                        break;
                    }
                }
            }
            return (int) (worth < 0 ? 0 : worth > 9 ? 9 : worth);
        }
        return 0;
    }

    int strength(State s, int secret, int cell) {
        return strength(s, s.oak, secret, cell, coast.heavy[secret]);
    }

    int air(State s, int cell) {
        int sum = 0;
        for (int i = 0; i < secrets(); i++) if (s.hangs[i]) sum += strength(s, i, cell);
        return sum;
    }

    void pass(State s) {
        int[] ahead = new int[persons()];
        for (int i = 0; i < persons(); i++) ahead[i] = knows(s, i);
        int began = s.oak;
        for (int i = 0; i < secrets(); i++) {
            if (!s.hangs[i] || s.oak == 0) continue;
            s.oak--;
            for (int j = 0; j < persons(); j++) {
                s.breath[j][i] = Math.min(99, s.breath[j][i] + strength(s, began, i, s.where[j], coast.heavy[i]));
            }
            s.smoked[i]++;
        }
        int cured = 0;
        for (int i = 0; i < secrets(); i++) {
            if (!s.cured[i] && s.smoked[i] == coast.heavy[i]) {
                s.cured[i] = true;
                s.hangs[i] = false;
                cured++;
            }
        }
        State behind = s.copy();
        for (int one = 0; one < persons(); one++) {
            for (int other = 0; other < persons(); other++) {
                if (one == other || s.where[one] != s.where[other]) continue;
                for (int i = 0; i < secrets(); i++) {
                    if (!s.cured[i] && knows(behind, one, i) && !knows(behind, other, i)) {
                        s.breath[other][i] = Math.min(99, s.breath[other][i] + 1);
                    }
                }
            }
        }
        int wiser = 0;
        for (int i = 0; i < persons(); i++) if (knows(s, i) != ahead[i]) wiser |= 1 << i;
        int all = 0;
        for (boolean one : s.cured) if (one) all++;
        s.log.add(0, new int[] {wiser, all, s.oak});
        if (s.log.size() > 60) s.log.remove(60);
        s.coins = Math.min(999, s.coins + 2 * cured);
        s.night++;
    }

    int refuse(int why) {
        status[why]++;
        return NONE;
    }

    void act() {
        acts.add(now.copy());
        if (acts.size() > 40) acts.remove(0);
    }

    int nights(int n) {
        if (coast == null) return refuse(0);
        if (n < 1 || n > 60) return refuse(1);
        if (now.night + n > 999) return refuse(4);
        for (int i = 0; i < n; i++) {
            act();
            pass(now);
        }
        return now.night;
    }

    int hang(int secret) {
        if (!c(secret)) return refuse(0);
        if (now.cured[secret]) return refuse(2);
        if (now.coins == 0) return refuse(3);
        act();
        now.coins--;
        now.hangs[secret] = !now.hangs[secret];
        return now.hangs[secret] ? 1 : 0;
    }

    int veers(int way) {
        if (coast == null) return refuse(0);
        if (way < 0 || way > 3) return refuse(1);
        if (way == now.wind) return refuse(2);
        act();
        int was = now.wind;
        now.wind = way;
        return was;
    }

    int beside(int cell, int way) {
        if (way < 0 || way > 3) return NONE;
        int x = cell % coast.wide + RIGHT[way];
        int y = cell / coast.wide + DOWN[way];
        return x < 0 || y < 0 || x >= coast.wide || y >= coast.rows ? NONE : y * coast.wide + x;
    }

    int moves(int person, int way) {
        if (!p(person)) return refuse(0);
        int to = beside(now.where[person], way);
        if (to == NONE) return refuse(1);
        if (now.coins < 2) return refuse(3);
        act();
        now.coins -= 2;
        now.where[person] = to;
        return to;
    }

    int oak(int n) {
        if (coast == null) return refuse(0);
        if (n < 1 || n > 30) return refuse(1);
        int cost = n / 2 + n % 2;
        if (cost > now.coins || now.oak + n > 999) return refuse(3);
        act();
        now.coins -= cost;
        now.oak += n;
        return now.oak;
    }

    int give(int n) {
        if (coast == null) return refuse(0);
        if (n < 1 || n > 50 || now.coins + n > 999) return refuse(1);
        act();
        now.coins += n;
        return now.coins;
    }

    boolean gusts(int v) {
        if (v < 0 || v > 9 || v == gusts) return false;
        gusts = v;
        return true;
    }

    private java.math.BigInteger x;

    private int draw(int j) {
        java.math.BigInteger round = java.math.BigInteger.ONE.shiftLeft(64);
        x = x.multiply(new java.math.BigInteger("6364136223846793005"))
            .add(new java.math.BigInteger("1442695040888963407")).mod(round);
        return x.shiftRight(33).mod(java.math.BigInteger.valueOf(j)).intValue();
    }

    int years(int n, long seed) {
        if (coast == null || n < 1 || n > 60 || now.night + n > 999) return NONE;
        x = java.math.BigInteger.valueOf(seed).mod(java.math.BigInteger.ONE.shiftLeft(64));
        for (int i = 0; i < n; i++) {
            act();
            if (draw(10) < gusts) now.wind = draw(4);
            int secret = draw(secrets());
            if (!now.cured[secret]) now.hangs[secret] = !now.hangs[secret];
            int person = draw(persons());
            int to = beside(now.where[person], draw(4));
            if (to != NONE) now.where[person] = to;
            now.oak = Math.min(999, now.oak + 1);
            pass(now);
        }
        return now.night;
    }

    int undo() {
        if (acts.isEmpty()) return NONE;
        now = acts.remove(acts.size() - 1);
        return acts.size();
    }

    int log(int i, int what) {
        if (coast == null || i < 0 || i >= now.log.size() || what < 0 || what > 2) return NONE;
        return now.log.get(i)[what];
    }

    int image() {
        if (coast == null) return NONE;
        image = now.copy();
        return now.night;
    }

    int back() {
        if (image == null) return NONE;
        now = image.copy();
        acts.clear();
        return now.night;
    }

    int rule(int what) {
        if (coast == null || what < 0 || what > 3) return NONE;
        return new int[] {coast.wide, coast.rows, now.oak, now.coins}[what];
    }

    int person(int person, int what) {
        if (!p(person) || what < 0 || what > 2) return NO_SUCH;
        return new int[] {now.where[person], coast.nose[person], knows(now, person)}[what];
    }

    int secret(int secret, int what) {
        if (!c(secret) || what < 0 || what > 6) return NONE;
        return new int[] {coast.owner[secret], coast.heavy[secret],
            coast.shedY[secret] * coast.wide + coast.shedX[secret], now.hangs[secret] ? 1 : 0,
            now.smoked[secret], now.cured[secret] ? 1 : 0, known(now, secret)}[what];
    }

    int breath(int person, int secret) {
        return p(person) && c(secret) ? now.breath[person][secret] : NONE;
    }

    int smells(int secret) {
        if (!c(secret)) return NONE;
        int bits = 0;
        for (int i = 0; i < cells(); i++) if (strength(now, secret, i) > 0) bits |= 1 << i;
        return bits;
    }

    int soon(int person, int secret) {
        if (!p(person) || !c(secret)) return NONE;
        State s = now.copy();
        for (int i = 0; i < 100; i++, pass(s)) if (knows(s, person, secret)) return i;
        return NONE;
    }

    int ready(int secret) {
        if (!c(secret)) return NONE;
        State s = now.copy();
        for (int i = 0; i < 100; i++, pass(s)) if (s.cured[secret]) return i;
        return NONE;
    }

    private void rows(State s, int left, int row, int secret, int persons, List<Integer> found) {
        if (left == 0) {
            if (s.cured[secret] && (known(s, secret) & persons) == 0) found.add(row);
            return;
        }
        for (int way = 0; way < 4; way++) {
            State then = s.copy();
            then.wind = way;
            pass(then);
            rows(then, left - 1, row * 10 + way, secret, persons, found);
        }
    }

    int kept(int secret, int persons, int what) {
        if (!c(secret) || persons < 0 || persons >= 1 << persons() || what < 0 || what > 1) return NONE;
        int lacks = coast.heavy[secret] - now.smoked[secret];
        if (now.cured[secret] || lacks > 6 || (persons & 1 << coast.owner[secret]) != 0) return NONE;
        State s = now.copy();
        s.hangs[secret] = true;
        List<Integer> found = new ArrayList<>();
        rows(s, lacks, 0, secret, persons, found);
        if (what == 1) return found.size();
        return found.stream().mapToInt(i -> i).min().orElse(NONE);
    }

    int noted(int secret, int cell, boolean is) {
        if (!c(secret) || !cell(cell) || notes.size() == 10) return NONE;
        notes.add(new int[] {secret, cell, is ? 1 : 0});
        return notes.size();
    }

    List<Integer> heavies(int secret) {
        List<Integer> fit = new ArrayList<>();
        for (int heavy = 1; heavy < 10; heavy++) {
            boolean good = true;
            for (int[] note : notes) {
                if (note[0] != secret) continue;
                boolean smelt = strength(told, told.oak, secret, note[1], heavy) > 0;
                if (smelt != (note[2] == 1)) good = false;
            }
            if (good) fit.add(heavy);
        }
        return fit;
    }

    int heavies(int secret, int i) {
        if (!c(secret)) return NONE;
        List<Integer> fit = heavies(secret);
        if (i == NONE) return fit.size();
        return i < 0 || i >= fit.size() ? NONE : fit.get(i);
    }

    int ask(int secret) {
        if (!c(secret)) return NONE;
        List<Integer> fit = heavies(secret);
        if (fit.isEmpty()) return NONE;
        int best = 0;
        int least = 100;
        for (int i = 0; i < cells(); i++) {
            int smelt = 0;
            for (int heavy : fit) if (strength(told, told.oak, secret, i, heavy) > 0) smelt++;
            int apart = Math.abs(smelt - (fit.size() - smelt));
            if (apart < least) {
                least = apart;
                best = i;
            }
        }
        return best;
    }

    int worthwhile(int what) {
        if (coast == null || what < 0 || what > 1) return NONE;
        int best = 0;
        int much = 0;
        for (int set = 0; set < 1 << secrets(); set++) {
            int need = 0;
            int heavy = 0;
            boolean raw = true;
            for (int i = 0; i < secrets(); i++) {
                if ((set & 1 << i) == 0) continue;
                raw &= !now.cured[i];
                need += coast.heavy[i] - now.smoked[i];
                heavy += coast.heavy[i];
            }
            if (!raw || need > now.oak) continue;
            if (heavy > much || heavy == much && Integer.bitCount(set) < Integer.bitCount(best)) {
                best = set;
                much = heavy;
            }
        }
        return what == 0 ? best : much;
    }

    int out(int person, int what) {
        if (!p(person) || what < 0 || what > 1) return NONE;
        int[] steps = new int[cells()];
        java.util.Arrays.fill(steps, 1000);
        java.util.ArrayDeque<Integer> next = new java.util.ArrayDeque<>();
        next.add(now.where[person]);
        steps[now.where[person]] = 0;
        while (!next.isEmpty()) {
            int from = next.remove();
            for (int way = 0; way < 4; way++) {
                int to = beside(from, way);
                if (to != NONE && steps[to] == 1000) {
                    steps[to] = steps[from] + 1;
                    next.add(to);
                }
            }
        }
        int best = NONE;
        for (int i = cells() - 1; i >= 0; i--) {
            if (air(now, i) == 0 && (best == NONE || steps[i] <= steps[best])) best = i;
        }
        return best == NONE ? NONE : what == 0 ? steps[best] : best;
    }

    int game(int one, int other, int x, int y, int what) {
        if (!p(one) || !p(other) || one == other || x < 0 || y < 0 || x > 4 || y > 4 || what < 0 || what > 1) {
            return HIDDEN;
        }
        int a = beside(now.where[one], x) == NONE ? now.where[one] : beside(now.where[one], x);
        int b = beside(now.where[other], y) == NONE ? now.where[other] : beside(now.where[other], y);
        int together = a == b ? 5 : 0;
        return what == 0 ? 9 - air(now, a) + together - (x != 4 ? 1 : 0) : 9 - air(now, b) + together - (y != 4 ? 1 : 0);
    }

    int rests(int one, int other, int i) {
        if (!p(one) || !p(other) || one == other) return NONE;
        List<Integer> found = new ArrayList<>();
        for (int x = 0; x < 5; x++) {
            for (int y = 0; y < 5; y++) {
                boolean good = true;
                for (int z = 0; z < 5; z++) {
                    good &= game(one, other, z, y, 0) <= game(one, other, x, y, 0);
                    good &= game(one, other, x, z, 1) <= game(one, other, x, y, 1);
                }
                if (good) found.add(10 * x + y);
            }
        }
        if (i == NONE) return found.size();
        return i < 0 || i >= found.size() ? NONE : found.get(i);
    }

    private long parts(State s, long part, int left, int chance, int person, int secret) {
        if (left == 0) return knows(s, person, secret) ? part : 0;
        long turned = part * chance / 100;
        State straight = s.copy();
        pass(straight);
        State other = s.copy();
        other.wind = (other.wind + 1) % 4;
        pass(other);
        return parts(straight, part - turned, left - 1, chance, person, secret)
            + parts(other, turned, left - 1, chance, person, secret);
    }

    int odds(int person, int secret, int n, int chance) {
        if (!p(person) || !c(secret) || n < 0 || n > 6 || chance < 0 || chance > 100) return NONE;
        return (int) parts(now, 1000000000L, n, chance, person, secret);
    }

    int breathOfAll(int person) {
        int sum = 0;
        for (int one : now.breath[person]) sum += one;
        return sum;
    }

    int shares(int person, int c) {
        if (!p(person) || c < 0 || c > 999) return NONE;
        int all = 0;
        for (int i = 0; i < persons(); i++) all += breathOfAll(i);
        return all == 0 ? 0 : c * breathOfAll(person) / all;
    }

    int most(int what) {
        if (coast == null || what < 0 || what > 11) return NONE;
        int best = 0;
        int bits = 0;
        int many = 0;
        switch (what) {
            case 0:
                for (int i = 0; i < persons(); i++) {
                    if (Integer.bitCount(knows(now, i)) > Integer.bitCount(knows(now, best))) best = i;
                }
                return best;
            case 1:
                for (int i = 0; i < persons(); i++) if (coast.nose[i] < coast.nose[best]) best = i;
                return best;
            case 2:
                for (int i = 0; i < persons(); i++) if (breathOfAll(i) > breathOfAll(best)) best = i;
                return best;
            case 3:
                for (int i = 0; i < secrets(); i++) {
                    if (Integer.bitCount(known(now, i)) < Integer.bitCount(known(now, best))) best = i;
                }
                return best;
            case 4:
                for (int i = 0; i < secrets(); i++) if (coast.heavy[i] > coast.heavy[best]) best = i;
                return best;
            case 5:
                for (int i = 0; i < secrets(); i++) if (now.hangs[i]) bits |= 1 << i;
                return bits;
            case 6:
                for (int i = 0; i < secrets(); i++) if (now.cured[i]) bits |= 1 << i;
                return bits;
            case 7:
                for (int i = 0; i < cells(); i++) if (air(now, i) > 0) many++;
                return many;
            case 8:
                for (int i = 0; i < persons(); i++) {
                    for (int j = 0; j < i; j++) if (now.where[i] == now.where[j]) many++;
                }
                return many;
            case 9:
                for (int i = 0; i < secrets(); i++) if (!now.cured[i]) many += coast.heavy[i] - now.smoked[i];
                return many;
            case 10:
                for (int i = 0; i < persons(); i++) if (air(now, now.where[i]) == 0) bits |= 1 << i;
                return bits;
            default:
                return now.wind;
        }
    }

    int count(int what, int tape) {
        switch (what) {
            case 0: return cells();
            case 1: return persons();
            case 2: return secrets();
            case 3: return laws.size();
            case 4: return tape;
            case 5: return held;
            case 6: return coast == null ? 0 : now.night;
            case 7: return gusts;
            case 8: return notes.size();
            case 9: return coast == null ? 0 : now.log.size();
            case 10: return acts.size();
            default: return HIDDEN;
        }
    }
}
