import java.util.ArrayList;
import java.util.HashMap;
import java.util.HashSet;
import java.util.List;
import java.util.Map;
import java.util.Random;
import java.util.Set;

/**
 * FAULT against the grammar itself: all ways to go on are followed at once, as stacks of what is still to come;
 * the first byte that none of them can take is the FAULT.
 */
public final class FaultTest {
    private static final Check CHECK = new Check("FaultTest");
    private static final Map<String, List<String[]>> RULES = new HashMap<>();

    private FaultTest() {
    }

    private static void rule(String name, String... symbols) {
        RULES.computeIfAbsent(name, n -> new ArrayList<>()).add(symbols);
    }

    /** A terminal is 't' and the characters that it takes; a sign may have blanks ahead. */
    private static String sign(String any) {
        String name = "sign" + any;
        if (!RULES.containsKey(name)) {
            rule(name, "blanks", "t" + any);
        }
        return name;
    }

    private static void lawRules() {
        rule("blanks");
        rule("blanks", "t ", "blanks");
        rule("law", "clause", "laws", "blanks");
        rule("laws");
        rule("laws", sign(";"), "clause", "laws");
        rule("clause", sign("y"), sign(":"), "sum0");
        rule("clause", sign("y"), sign(":"), "cond0", sign("?"), "sum0");
        for (int d = 0; d <= 6; d++) {
            rule("cond" + d, "truth" + d, "conds" + d);
            rule("conds" + d);
            rule("conds" + d, sign("|"), "truth" + d, "conds" + d);
            rule("truth" + d, "unit" + d, "truths" + d);
            rule("truths" + d);
            rule("truths" + d, sign("&"), "unit" + d, "truths" + d);
            rule("unit" + d, "sum" + d, sign("=<>"), "sum" + d);
            rule("sum" + d, "term" + d, "sums" + d);
            rule("sums" + d);
            rule("sums" + d, sign("+-"), "term" + d, "sums" + d);
            rule("term" + d, "atom" + d, "terms" + d);
            rule("terms" + d);
            rule("terms" + d, sign("*/"), "atom" + d, "terms" + d);
            rule("atom" + d, sign("kfnvto"));
            String digit = "t0123456789";
            rule("atom" + d, "blanks", digit);
            rule("atom" + d, "blanks", digit, digit);
            rule("atom" + d, "blanks", digit, digit, digit);
            rule("atom" + d, "blanks", digit, digit, digit, digit);
            if (d < 6) {
                rule("unit" + d, sign("!"), "unit" + (d + 1));
                rule("unit" + d, sign("("), "cond" + (d + 1), sign(")"));
                rule("atom" + d, sign("["), "sum" + (d + 1), sign("]"));
            }
        }
    }

    private static final String[] LETTERS = {"whokv", "xyn", "akxy"};
    private static final int[][] LEAST = {{2, 2, 0, 0, 0}, {0, 0, 1}, {0, 1, 0, 0}};
    private static final int[][] MOST = {{6, 5, 99, 99, 3}, {5, 4, 9}, {5, 9, 5, 4}};
    private static final int[][] WITHOUT = {{5, 4, 30, 20, 1}, {0, 0, 3}, {0, 3, 0, 0}};

    /** The names carry what was told already: how many s, p, c, and of a CLAUSE which letters. */
    private static void coastRules() {
        for (int s = 0; s <= 1; s++) {
            for (int p = 0; p <= 6; p++) {
                for (int c = 0; c <= 6; c++) {
                    int[] told = {s, p, c};
                    for (int kind = 0; kind < 3; kind++) {
                        if (told[kind] == new int[] {1, 6, 6}[kind]) {
                            continue;
                        }
                        int[] then = told.clone();
                        then[kind]++;
                        rule("coast" + s + p + c, sign("" + "spc".charAt(kind)), "items" + kind + ".0",
                            "rest" + then[0] + then[1] + then[2]);
                    }
                    rule("rest" + s + p + c, "blanks");
                    rule("rest" + s + p + c, sign(";"), "coast" + s + p + c);
                }
            }
        }
        // Behind the last CLAUSE that can be, a ; is still taken: the document finds the one more wrong at its letter.
        rule("coast166", "blanks", "t" + (char) 1);
        for (int kind = 0; kind < 3; kind++) {
            for (int seen = 0; seen < 1 << LETTERS[kind].length(); seen++) {
                rule("items" + kind + "." + seen);
                for (int i = 0; i < LETTERS[kind].length(); i++) {
                    if ((seen & 1 << i) == 0) {
                        rule("items" + kind + "." + seen, sign("" + LETTERS[kind].charAt(i)),
                            "value" + kind + "." + i, "items" + kind + "." + (seen | 1 << i));
                    }
                }
            }
            for (int i = 0; i < LETTERS[kind].length(); i++) {
                for (int v = LEAST[kind][i]; v <= MOST[kind][i]; v++) {
                    rule("value" + kind + "." + i, "blanks", "t" + v / 10, "t" + v % 10);
                    if (v < 10) {
                        rule("value" + kind + "." + i, "blanks", "t" + v);
                    }
                }
            }
        }
    }

    /** All stacks (names with blanks behind each) with a terminal, or nothing, on top. */
    private static void open(String stack, Set<String> into, Set<String> seen) {
        if (!seen.add(stack)) {
            return;
        }
        if (stack.isEmpty() || stack.charAt(0) == 't' && !RULES.containsKey(top(stack))) {
            into.add(stack);
            return;
        }
        String top = top(stack);
        String below = stack.substring(top.length() + 1);
        for (String[] symbols : RULES.get(top)) {
            StringBuilder then = new StringBuilder();
            for (String symbol : symbols) {
                then.append(symbol).append('\n');
            }
            open(then + below, into, seen);
        }
    }

    private static String top(String stack) {
        return stack.substring(0, stack.indexOf('\n'));
    }

    /** The first byte that cannot be; the length: it ends too early; -1: none. */
    private static int wrongAt(String start, String text) {
        Set<String> stacks = new HashSet<>();
        open(start + "\n", stacks, new HashSet<>());
        for (int i = 0; i < text.length(); i++) {
            Set<String> then = new HashSet<>();
            Set<String> seen = new HashSet<>();
            for (String stack : stacks) {
                if (!stack.isEmpty() && top(stack).indexOf(text.charAt(i), 1) > 0) {
                    open(stack.substring(top(stack).length() + 1), then, seen);
                }
            }
            if (then.isEmpty()) {
                return i;
            }
            stacks = then;
        }
        return stacks.contains("") ? -1 : text.length();
    }

    private static int coastFault(String text) {
        int at = wrongAt("coast000", text);
        if (at >= 0 && at < text.length() && Character.isDigit(text.charAt(at))) {
            return numberFault(text, at);
        }
        // A 0 that could have gone on as 01 .. 09, but did not, is a number out of bounds.
        if (at > 0 && text.charAt(at - 1) == '0' && wrongAt("coast000", text.substring(0, at) + ";") == at) {
            return at - 1;
        }
        return at == -1 && !stands(text) ? text.length() : at;
    }

    /** Out of bounds is wrong at the last digit; a third digit itself. No digits where no number may be: the first. */
    private static int numberFault(String text, int at) {
        int first = at;
        while (first > 0 && Character.isDigit(text.charAt(first - 1))) {
            first--;
        }
        int ahead = first;
        while (ahead > 0 && text.charAt(ahead - 1) == ' ') {
            ahead--;
        }
        boolean mayBe = ahead > 0 && Character.isLetter(text.charAt(ahead - 1)) && wrongAt("coast000",
            text.substring(0, ahead)) == ahead;
        if (!mayBe) {
            return at;
        }
        int end = first;
        while (end < text.length() && Character.isDigit(text.charAt(end))) {
            end++;
        }
        return end - first >= 3 ? first + 2 : end - 1;
    }

    private static boolean stands(String text) {
        int[] rules = WITHOUT[0].clone();
        List<int[]> persons = new ArrayList<>();
        List<int[]> secrets = new ArrayList<>();
        for (String clause : text.replace(" ", "").split(";")) {
            int kind = "spc".indexOf(clause.charAt(0));
            int[] values = kind == 0 ? rules : WITHOUT[kind].clone();
            java.util.regex.Matcher m = java.util.regex.Pattern.compile("([a-z])(\\d+)").matcher(clause.substring(1));
            while (m.find()) {
                values[LETTERS[kind].indexOf(m.group(1))] = Integer.parseInt(m.group(2));
            }
            if (kind > 0) {
                (kind == 1 ? persons : secrets).add(values);
            }
        }
        boolean good = persons.size() >= 2 && secrets.size() >= 1;
        for (int[] p : persons) {
            good &= p[0] < rules[0] && p[1] < rules[1];
        }
        for (int[] c : secrets) {
            good &= c[2] < rules[0] && c[3] < rules[1] && c[0] < persons.size();
        }
        return good;
    }

    private static String mutated(Random random, String text, String signs) {
        StringBuilder s = new StringBuilder(text);
        for (int n = random.nextInt(4); n > 0; n--) {
            int at = random.nextInt(s.length() + 1);
            char sign = signs.charAt(random.nextInt(signs.length()));
            switch (random.nextInt(5)) {
                case 0:
                    s.insert(at, sign);
                    break;
                case 1:
                    if (at < s.length()) {
                        s.setCharAt(at, sign);
                    }
                    break;
                case 2:
                    if (at < s.length()) {
                        s.deleteCharAt(at);
                    }
                    break;
                case 3:
                    s.setLength(at);
                    break;
                default:
                    int to = Math.min(s.length(), at + random.nextInt(12));
                    s.insert(at, s.substring(at, to));
                    break;
            }
        }
        return s.length() > 240 ? s.substring(0, 240) : s.toString();
    }

    private static final String[] COASTS = {
        "sw5h4o30k20v1;px1y2n3;px2;ca0k9x1y1;ck2", "p;p;c", "ca5;p;p;p;p;p;px5;sw6", "p;p;p;p;p;p;c;c;c;c;c;c",
        " s v 3 ; p n 9;c y 4 x 5;s", "so00k01w05;px05;p;ck10;ck09", "p;p;sw2h2;cx1y1", "px2;sw2;p;c",
        "p;py3;sh3;c", "p;p;ca1;ca2", "c;p;s;p;p;p;p;p;c;c;c;c;c", "p;px12;pn10;c", "p;p;cx99y123", "sk99o99;p;p;c",
    };
    private static final String[] LAWS = {
        "y:k", "y:k-f", "y:!(k>1)?[n-n*2]/9;y:v+t-o", "y:k=1&n<2|!t>3?1;y:9999",
        "y:((((((k=1))))))?1", "y:!!!!!!k=1?[[[[[[k]]]]]]", "y:[[[[[[1]]]]]]=1?2", "y : ( ! [ k ] = 3 ) & ( n < 4 ) ? 5 ",
        "y:k+1*2/3-4=5?6", "y:!([!k", "y:(k=1|k=2)&![k+[f]]<3?[k]*[f];y:o/0", "y:12345", "y:k=1=2?3", "y:(k)?1",
        "y:((([[[k]]]=1)))?1;y:!!!([[[0]]]<1)?7", "y:k?1", "y:![[[[[[k]]]]]]=1?2",
    };

    public static void main(String[] args) {
        lawRules();
        coastRules();
        SmokedSecrets x = new SmokedSecrets();
        Random random = new Random(7);
        int many = args.length > 0 ? Integer.parseInt(args[0]) : 15000;
        for (int i = 0; i < many; i++) {
            if (i % 50 == 0) {
                x = new SmokedSecrets();
            }
            String coast = COASTS[i % COASTS.length];
            coast = i < COASTS.length ? coast : mutated(random, coast, "spcwhokvxyna;0123456789 ,");
            CHECK.due("fault(0) of '" + coast + "'", coastFault(coast), Tell.fault(x, Tell.COAST, coast));
            String law = LAWS[i % LAWS.length];
            law = i < LAWS.length ? law : mutated(random, law, "y:kfnvto[]()!&|?=<>+-*/;0123456789 a");
            CHECK.due("fault(1) of '" + law + "'", wrongAt("law", law), Tell.fault(x, Tell.LAW, law));
        }
        CHECK.end();
    }
}
