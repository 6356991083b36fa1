import java.util.ArrayList;
import java.util.List;
import java.util.Random;

/** Random runs, each answer compared with the Model's. */
public final class RandomRunsTest {
    private static final int RUNS = 1500;
    private static final Check CHECK = new Check("RandomRunsTest");

    private final Random random;
    private final SmokedSecrets x = new SmokedSecrets();
    private final Model model = new Model();
    private final int run;
    private int calls;

    private RandomRunsTest(int run) {
        this.run = run;
        random = new Random(run);
    }

    public static void main(String[] args) {
        int runs = args.length > 0 ? Integer.parseInt(args[0]) : RUNS;
        for (int i = 0; i < runs && CHECK.wrong() == 0; i++) {
            new RandomRunsTest(i).go();
        }
        CHECK.end();
    }

    private int pick(int n) {
        return random.nextInt(n);
    }

    /** Mostly 0 .. n - 1, now and then beyond. */
    private int near(int n) {
        if (pick(25) == 0) {
            return new int[] {-1, n, n + 1, -2, Integer.MAX_VALUE, Integer.MIN_VALUE}[pick(6)];
        }
        return n < 1 ? 0 : pick(n);
    }

    private void due(String what, long want, long got) {
        calls++;
        CHECK.due("run " + run + " call " + calls + " " + what, want, got);
    }

    private void go() {
        if (pick(3) == 0) {
            tellLaw();
        }
        if (pick(20) != 0) {
            tellCoast();
        }
        // One run in four goes on long, so that LOG, ACTS and NIGHTS come to their bounds.
        boolean longRun = pick(4) == 0;
        while (calls < 500 && CHECK.wrong() == 0) {
            int kind = pick(100);
            if (kind < (longRun ? 45 : 35)) {
                act(longRun);
            } else if (kind < 97) {
                look();
            } else if (kind < 99) {
                tellLaw();
            } else if (pick(4) == 0) {
                tellCoast();
            }
        }
    }

    private String blanks() {
        return pick(8) == 0 ? " ".repeat(1 + pick(2)) : "";
    }

    private String item(char letter, int value, int without) {
        if (value == without && pick(3) != 0) {
            return "";
        }
        return blanks() + letter + blanks() + (value < 10 && pick(10) == 0 ? "0" : "") + value + blanks();
    }

    private void tellCoast() {
        Model.Coast c = new Model.Coast();
        c.wide = 2 + pick(5);
        c.rows = 2 + pick(4);
        c.oak = pick(3) == 0 ? pick(12) : pick(100);
        c.coins = pick(100);
        c.wind = pick(4);
        int persons = 2 + pick(5);
        int secrets = 1 + pick(6);
        c.x = new int[persons];
        c.y = new int[persons];
        c.nose = new int[persons];
        c.owner = new int[secrets];
        c.heavy = new int[secrets];
        c.shedX = new int[secrets];
        c.shedY = new int[secrets];
        List<String> clauses = new ArrayList<>();
        clauses.add("s" + item('w', c.wide, 5) + item('h', c.rows, 4) + item('o', c.oak, 30)
            + item('k', c.coins, 20) + item('v', c.wind, 1));
        for (int i = 0; i < persons; i++) {
            c.x[i] = pick(c.wide);
            c.y[i] = pick(c.rows);
            c.nose[i] = 1 + pick(9);
            clauses.add("p" + item('y', c.y[i], 0) + item('n', c.nose[i], 3) + item('x', c.x[i], 0));
        }
        for (int i = 0; i < secrets; i++) {
            c.owner[i] = pick(persons);
            c.heavy[i] = 1 + pick(pick(2) == 0 ? 9 : 4);
            c.shedX[i] = pick(c.wide);
            c.shedY[i] = pick(c.rows);
            clauses.add("c" + item('k', c.heavy[i], 3) + item('x', c.shedX[i], 0) + item('a', c.owner[i], 0)
                + item('y', c.shedY[i], 0));
        }
        // Where the RULES stand is free; PERSONS and SECRETS are numbered as they come.
        clauses.add(pick(clauses.size()), clauses.remove(0));
        String text = String.join(";" + blanks(), clauses);
        if (text.length() > 240) {
            return;
        }
        x.end(0);
        Tell.feed(x, text);
        due("fault of " + text, -1, x.fault(0));
        due("text(0) of " + text, model.tell(c), x.text(0));
    }

    // ---- LAWS: each made as text and as tree at once

    private static long hold(long value) {
        return Math.max(-1000000, Math.min(1000000, value));
    }

    private static final class Part {
        String text;
        Model.Sum sum;

        Part(String text, Model.Sum sum) {
            this.text = text;
            this.sum = sum;
        }
    }

    private Part atom(int depth) {
        int kind = pick(depth < 6 ? 8 : 6);
        if (kind < 2) {
            int value = pick(5) == 0 ? pick(10000) : pick(10);
            return new Part("" + value, l -> value);
        }
        if (kind < 6) {
            int letter = pick(6);
            return new Part("" + "kfnvto".charAt(letter), l -> l[letter]);
        }
        Part inner = sum(depth + 1);
        return new Part("[" + blanks() + inner.text + "]", inner.sum);
    }

    private Part term(int depth) {
        Part all = atom(depth);
        for (int i = pick(4); i >= 3 || i == 1 && pick(2) == 0; i--) {
            Model.Sum a = all.sum;
            Part next = atom(depth);
            Model.Sum b = next.sum;
            boolean times = pick(2) == 0;
            all = new Part(all.text + blanks() + (times ? "*" : "/") + next.text, times
                ? l -> hold(a.value(l) * b.value(l))
                : l -> b.value(l) == 0 ? 0 : a.value(l) / b.value(l));
        }
        return all;
    }

    private Part sum(int depth) {
        Part all = term(depth);
        for (int i = pick(4); i > 1; i--) {
            Model.Sum a = all.sum;
            Part next = term(depth);
            Model.Sum b = next.sum;
            boolean plus = pick(2) == 0;
            all = new Part(all.text + (plus ? "+" : "-") + blanks() + next.text, plus
                ? l -> hold(a.value(l) + b.value(l))
                : l -> hold(a.value(l) - b.value(l)));
        }
        return all;
    }

    private Part unit(int depth) {
        int kind = pick(depth < 6 ? 6 : 4);
        if (kind == 4) {
            Part inner = unit(depth + 1);
            return new Part("!" + inner.text, l -> inner.sum.value(l) == 0 ? 1 : 0);
        }
        if (kind == 5) {
            Part inner = condition(depth + 1);
            return new Part("(" + inner.text + blanks() + ")", inner.sum);
        }
        Part one = sum(depth);
        Part other = sum(depth);
        int sign = pick(3);
        return new Part(one.text + "=<>".charAt(sign) + other.text, l -> {
            int way = Long.compare(one.sum.value(l), other.sum.value(l));
            return way == (sign == 0 ? 0 : sign == 1 ? -1 : 1) ? 1 : 0;
        });
    }

    private Part condition(int depth) {
        Part any = null;
        for (int i = pick(4) / 2; i >= 0; i--) {
            Part all = unit(depth);
            for (int j = pick(4) / 2; j > 0; j--) {
                Part next = unit(depth);
                Model.Sum a = all.sum;
                all = new Part(all.text + "&" + blanks() + next.text, l -> a.value(l) * next.sum.value(l));
            }
            if (any == null) {
                any = all;
            } else {
                Model.Sum a = any.sum;
                Part next = all;
                any = new Part(any.text + blanks() + "|" + next.text, l -> Math.max(a.value(l), next.sum.value(l)));
            }
        }
        return any;
    }

    private void tellLaw() {
        List<Model.Clause> law = new ArrayList<>();
        StringBuilder text = new StringBuilder();
        for (int i = pick(3); i >= 0; i--) {
            Model.Clause clause = new Model.Clause();
            Part condition = pick(4) == 0 ? null : condition(0);
            Part sum = pick(2) == 0 ? sum(0) : new Part("k-f+n", l -> l[0] - l[1] + l[2]);
            clause.condition = condition == null ? null : condition.sum;
            clause.sum = sum.sum;
            law.add(clause);
            text.append(text.length() == 0 ? "" : ";").append("y").append(blanks()).append(":");
            text.append(condition == null ? "" : condition.text + "?").append(blanks()).append(sum.text);
        }
        if (text.length() > 240) {
            return;
        }
        x.end(0);
        Tell.feed(x, text.toString());
        due("fault of " + text, -1, x.fault(1));
        if (model.laws.size() < 4) {
            model.laws.add(law);
            due("text(1) of " + text, model.laws.size() - 1, x.text(1));
        } else {
            due("text(1) of a fifth", -1, x.text(1));
        }
        int law2 = near(model.laws.size());
        due("law " + law2, model.law(law2) ? 1 : 0, x.law(law2) ? 1 : 0);
    }

    // ---- calls

    private void act(boolean longRun) {
        int a = near(model.secrets());
        int b = near(model.persons());
        int n = 1 + near(longRun ? 60 : 4);
        int way = near(4);
        switch (pick(longRun ? 10 : 12)) {
            case 0: due("nights " + n, model.nights(n), x.nights(n)); break;
            case 1:
            case 10: due("hang " + a, model.hang(a), x.hang(a)); break;
            case 2: due("veers " + way, model.veers(way), x.veers(way)); break;
            case 3:
            case 11: due("moves " + b + " " + way, model.moves(b, way), x.moves(b, way)); break;
            case 4: {
                int m = 1 + near(30);
                due("oak " + m, model.oak(m), x.oak(m));
                break;
            }
            case 5: {
                int m = 1 + near(50);
                due("give " + m, model.give(m), x.give(m));
                break;
            }
            case 6: {
                int m = near(10);
                due("gusts " + m, model.gusts(m) ? 1 : 0, x.gusts(m) ? 1 : 0);
                break;
            }
            case 7: {
                long seed = random.nextLong();
                due("years " + n + " " + seed, model.years(n, seed), x.years(n, seed));
                break;
            }
            case 8:
                for (int i = pick(longRun ? 50 : 4); i >= 0; i--) {
                    due("undo", model.undo(), x.undo());
                }
                break;
            default:
                if (pick(2) == 0) {
                    due("image", model.image(), x.image());
                } else {
                    due("back", model.back(), x.back());
                }
                break;
        }
    }

    private void look() {
        int a = near(model.secrets());
        int b = near(model.persons());
        int other = near(model.persons());
        int cell = near(model.cells());
        switch (pick(24)) {
            case 0: lookAt(near(4), x::rule, model::rule, "rule"); break;
            case 1: {
                int what = near(3);
                due("person " + b + " " + what, model.person(b, what), Tell.person(x, b, what));
                break;
            }
            case 2: {
                int what = near(7);
                due("secret " + a + " " + what, model.secret(a, what), x.secret(a, what));
                break;
            }
            case 3:
                due("breath " + b + " " + a, model.breath(b, a), x.breath(b, a));
                break;
            case 4:
                if (model.c(a) && model.cell(cell)) {
                    due("strength " + a + " " + cell, model.strength(model.now, a, cell), x.strength(a, cell));
                } else {
                    due("strength " + a + " " + cell, -1, x.strength(a, cell));
                }
                break;
            case 5: lookAt(a, x::smells, model::smells, "smells"); break;
            case 6:
                due("air " + cell, model.cell(cell) ? model.air(model.now, cell) : -1, x.air(cell));
                break;
            case 7:
                due("soon " + b + " " + a, model.soon(b, a), x.soon(b, a));
                break;
            case 8: lookAt(a, x::ready, model::ready, "ready"); break;
            case 9: {
                if (pick(3) != 0) {
                    break;
                }
                int persons = near(1 << model.persons());
                if (pick(3) != 0 && model.c(a)) {
                    persons &= ~(1 << model.coast.owner[a]);
                }
                int what = near(2);
                due("kept " + a + " " + persons + " " + what, model.kept(a, persons, what), x.kept(a, persons, what));
                break;
            }
            case 10: {
                boolean is = pick(2) == 0;
                due("noted " + a + " " + cell + " " + is, model.noted(a, cell, is), x.noted(a, cell, is));
                break;
            }
            case 11:
            case 12: {
                int i = pick(2) == 0 ? -1 : near(9);
                due("heavies " + a + " " + i, model.heavies(a, i), x.heavies(a, i));
                break;
            }
            case 13: lookAt(a, x::ask, model::ask, "ask"); break;
            case 14: lookAt(near(2), x::worthwhile, model::worthwhile, "worthwhile"); break;
            case 15: {
                int what = near(2);
                due("out " + b + " " + what, model.out(b, what), x.out(b, what));
                break;
            }
            case 16: {
                int way = near(5);
                int way2 = near(5);
                int what = near(2);
                due("game " + b + " " + other + " " + way + " " + way2 + " " + what,
                    model.game(b, other, way, way2, what), x.game(b, other, way, way2, what));
                break;
            }
            case 17: {
                int i = pick(2) == 0 ? -1 : near(4);
                due("rests " + b + " " + other + " " + i, model.rests(b, other, i), x.rests(b, other, i));
                break;
            }
            case 18: {
                int n = near(7);
                int chance = near(101);
                due("odds " + b + " " + a + " " + n + " " + chance, model.odds(b, a, n, chance),
                    x.odds(b, a, n, chance));
                break;
            }
            case 19: {
                int c = near(1000);
                due("shares " + b + " " + c, model.shares(b, c), x.shares(b, c));
                break;
            }
            case 20: lookAt(near(12), x::most, model::most, "most"); break;
            case 21: {
                int what = near(5);
                due("status " + what, what < 0 || what > 4 ? -1 : model.status[what], x.status(what));
                break;
            }
            case 22: {
                int i = near(60);
                int what = near(3);
                due("log " + i + " " + what, model.log(i, what), x.log(i, what));
                break;
            }
            default: {
                int what = near(11);
                due("count " + what, model.count(what, x.count(4)), x.count(what));
                break;
            }
        }
    }

    private void lookAt(int arg, java.util.function.IntUnaryOperator got, java.util.function.IntUnaryOperator want,
            String name) {
        due(name + " " + arg, want.applyAsInt(arg), got.applyAsInt(arg));
    }
}
