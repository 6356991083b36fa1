import java.lang.reflect.InvocationTargetException;
import java.lang.reflect.Method;
import java.lang.reflect.Modifier;
import java.util.ArrayList;
import java.util.List;
import java.util.NoSuchElementException;
import java.util.Set;
import java.util.TreeSet;

/**
 * Every call of the face, with arguments near and far, on objects in some states: it throws nothing but what the
 * document says; what only looks changes nothing; what is refused changes nothing but STATUS, and that by one, if it
 * is an ACT. Changes are sought beside a twin that was not called, now and behind an ACT UNDONE and an IMAGE brought
 * back.
 */
public final class RefusedTest {
    private static final Check CHECK = new Check("RefusedTest");

    private static final int[] NEAR_AND_FAR = {
        Integer.MIN_VALUE, -1000000, -2, -1, 0, 1, 2, 3, 4, 5, 6, 7, 9, 10, 11, 12, 30, 31, 32, 50, 51, 60, 61, 63, 64,
        100, 101, 240, 241, 999, 1000, Integer.MAX_VALUE,
    };
    private static final int[] FEW = {Integer.MIN_VALUE, -1, 0, 1, 2, 4, 5, 6, 7, 64, 101, Integer.MAX_VALUE};
    private static final int[] FEWEST = {Integer.MIN_VALUE, -1, 0, 1, 4, 5, Integer.MAX_VALUE};
    private static final long[] SEEDS = {Long.MIN_VALUE, -1, 0, 1, Long.MAX_VALUE};

    /** Calls that change something beside STATUS, if they are not refused. */
    private static final Set<String> CHANGES = Set.of("feed", "end", "text", "law", "nights", "hang", "veers", "moves",
        "oak", "give", "gusts", "years", "undo", "noted", "image", "back");
    /** Calls that STATUS counts. */
    private static final Set<String> COUNTED = Set.of("nights", "hang", "veers", "moves", "oak", "give");

    private static final int STATES = 6;
    private static final int MOST_CALLS = 512;
    private static final int NO_SUCH = -77;

    private int calls;

    private RefusedTest() {
    }

    public static void main(String[] args) throws IllegalAccessException {
        Set<String> refused = new TreeSet<>();
        for (Method method : SmokedSecrets.class.getDeclaredMethods()) {
            if (!Modifier.isPublic(method.getModifiers())) {
                continue;
            }
            for (Object[] arguments : all(method.getParameterTypes())) {
                for (int state = 0; state < STATES; state++) {
                    if (new RefusedTest().go(method, arguments, state)) {
                        refused.add(method.getName());
                    }
                }
            }
        }
        CHECK.due("each method refused one of these at least: " + refused, 40 - 1, refused.size());
        CHECK.end();
    }

    private static List<Object[]> all(Class<?>[] types) {
        List<Object[]> rows = new ArrayList<>();
        fill(types, new Object[types.length], 0, rows);
        return rows;
    }

    private static void fill(Class<?>[] types, Object[] row, int at, List<Object[]> rows) {
        if (at == types.length) {
            rows.add(row.clone());
            return;
        }
        if (types[at] == boolean.class) {
            for (boolean one : new boolean[] {false, true}) {
                row[at] = one;
                fill(types, row, at + 1, rows);
            }
        } else if (types[at] == long.class) {
            for (long one : SEEDS) {
                row[at] = one;
                fill(types, row, at + 1, rows);
            }
        } else {
            for (int one : types.length > 3 ? FEWEST : types.length > 1 ? FEW : NEAR_AND_FAR) {
                row[at] = one;
                fill(types, row, at + 1, rows);
            }
        }
    }

    /** Whether the call was refused. */
    private boolean go(Method method, Object[] arguments, int state) throws IllegalAccessException {
        SmokedSecrets x = made(state);
        SmokedSecrets twin = made(state);
        String what = method.getName() + List.of(arguments) + " in state " + state;
        int[] statusAhead = statusOf(x);
        long answer;
        boolean threw = false;
        try {
            calls++;
            Object given = method.invoke(x, arguments);
            answer = given instanceof Boolean ? ((Boolean) given ? 1 : 0) : ((Number) given).longValue();
        } catch (InvocationTargetException e) {
            threw = true;
            answer = NO_SUCH;
            CHECK.due(what + " threw " + e.getCause(), true,
                method.getName().equals("person") && e.getCause() instanceof NoSuchElementException);
        }
        boolean refused = threw || isRefusal(method, answer);
        if (refused || !CHANGES.contains(method.getName())) {
            int[] status = statusOf(x);
            int more = 0;
            for (int i = 0; i < status.length; i++) {
                more += Math.abs(status[i] - statusAhead[i]);
            }
            CHECK.due(what + " in STATUS", refused && COUNTED.contains(method.getName()) ? 1 : 0, more);
            sameAs(twin, x, what);
        }
        return refused;
    }

    private static boolean isRefusal(Method method, long answer) {
        if (method.getReturnType() == boolean.class) {
            return answer == 0;
        }
        if (method.getName().equals("game") || method.getName().equals("count")) {
            return answer == SmokedSecrets.HIDDEN;
        }
        return answer == SmokedSecrets.NONE || method.getName().equals("fault") && answer == -2;
    }

    private void sameAs(SmokedSecrets twin, SmokedSecrets x, String what) {
        same(seen(twin), seen(x), what);
        CHECK.due(what + ", then undo", twin.undo(), x.undo());
        same(seen(twin), seen(x), what + ", then undo");
        CHECK.due(what + ", then back", twin.back(), x.back());
        same(seen(twin), seen(x), what + ", then back");
        calls += 2;
        // Counted for x and the twin together; x was called some eleven times more than the twin.
        CHECK.due(what + " calls", true, calls / 2 <= MOST_CALLS - 11);
    }

    private static void same(List<Integer> want, List<Integer> got, String what) {
        CHECK.due(what + " changes what is seen: " + (want.equals(got) ? "" : want + " to " + got), true,
            want.equals(got));
    }

    private int[] statusOf(SmokedSecrets x) {
        int[] status = new int[5];
        for (int i = 0; i < status.length; i++) {
            status[i] = x.status(i);
        }
        calls += status.length;
        return status;
    }

    /** All that can be seen of it but STATUS. */
    private List<Integer> seen(SmokedSecrets x) {
        List<Integer> seen = new ArrayList<>();
        for (int i = 0; i <= 10; i++) {
            seen.add(x.count(i));
        }
        seen.add(x.fault(0));
        seen.add(x.fault(1));
        seen.add(x.rule(2));
        seen.add(x.rule(3));
        seen.add(x.most(5));
        seen.add(x.most(6));
        seen.add(x.most(11));
        int persons = x.count(1);
        int secrets = x.count(2);
        for (int person = 0; person < persons; person++) {
            seen.add(Tell.person(x, person, 0));
            seen.add(Tell.person(x, person, 2));
        }
        for (int secret = 0; secret < secrets; secret++) {
            seen.add(x.secret(secret, 4));
            seen.add(x.heavies(secret, -1));
            seen.add(x.smells(secret));
            for (int person = 0; person < persons; person++) {
                seen.add(x.breath(person, secret));
            }
        }
        for (int i = 0; i < 3; i++) {
            for (int what = 0; what < 3; what++) {
                seen.add(x.log(i, what));
            }
        }
        calls += 2 + seen.size();
        return seen;
    }

    private SmokedSecrets made(int state) {
        SmokedSecrets x = new SmokedSecrets();
        switch (state) {
            case 0:
                return x;
            case 1:
                Tell.feed(x, "sw4h3o9k9v1;p;px2n2;px3y1n4;ca0k3;ca1k2x1;ca2k1x3y2");
                calls += 3;
                return x;
            case 2:
                Tell.text(x, Tell.COAST, "sw4h3o1k1v1;p;px2n2;px3y1n4;ca0k3;ca1k2x1;ca2k1x3y2");
                x.image();
                x.hang(0);
                calls += 7;
                return x;
            case 3:
                Tell.text(x, Tell.COAST, "sw3h3o50k9v2;px1y1;px1y1n5;cx1k4;ca1x1y1k2;ca1k9");
                Tell.text(x, Tell.LAW, "y:f<2&n<3?k+n-v;y:o/20");
                x.law(0);
                x.hang(0);
                x.hang(1);
                x.nights(2);
                x.image();
                x.moves(0, 2);
                x.noted(1, 4, true);
                x.nights(1);
                Tell.feed(x, "y:k");
                calls += 19;
                return x;
            case 4:
                return late(x);
            default:
                return full(x);
        }
    }

    /** The last NIGHT; no IMAGE. */
    private SmokedSecrets late(SmokedSecrets x) {
        Tell.text(x, Tell.COAST, "so99k0;p;pn1;c;ck9");
        for (int i = 0; i < 16; i++) {
            x.years(60, i);
        }
        x.nights(38);
        x.nights(1);
        calls += 22;
        return x;
    }

    /** As much of all as there can be. */
    private SmokedSecrets full(SmokedSecrets x) {
        Tell.text(x, Tell.COAST, "so99k99;p;pn1;c;ck9");
        for (int i = 0; i < 4; i++) {
            Tell.text(x, Tell.LAW, "y:" + (i + 1));
        }
        x.law(3);
        for (int i = 0; i < 10; i++) {
            x.noted(1, i, true);
        }
        for (int i = 0; i < 18; i++) {
            x.give(50);
        }
        for (int i = 0; i < 30; i++) {
            x.oak(30);
        }
        for (int i = 0; i < 9; i++) {
            x.give(50);
        }
        x.image();
        Tell.feed(x, "y:" + "k+".repeat(118) + "k ");
        calls += 14 + 10 + 18 + 30 + 9 + 14;
        return x;
    }
}
