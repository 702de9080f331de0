import java.util.ArrayList;
import java.util.List;
import java.util.Random;
import java.util.TreeMap;

/** Promises 4, 8, 9, 10 and 11 with random packs: a walk over tokens tells the place, trees tell the numbers. */
public final class PackOracleTest {
    static final String[] VALUES = {"sort", "below", "tincture", "number", "attitude", "duties", "kind", "place", "next"};
    private static final String SHIELD = "gules, a bend or charged with two stags passant vert attired or, a rose azure seeded vert, "
        + "a chief ermine charged with a eagle close sable armed or crowned vert, within a bordure vair, for difference a label or";

    static int begun;

    /** A tree: a leaf with a word or number, or a sign with two branches. */
    record Tree(String sign, Tree left, Tree right) {
        String text(Random random) {
            if (left == null) {
                return sign;
            }
            String blank = random.nextInt(3) == 0 ? " " : "";
            return "(" + left.text(random) + blank + sign + right.text(random) + ")" + blank;
        }
    }

    public static void main(String[] args) {
        Random random = new Random(99);
        for (int i = 0; i < 1500; i++) {
            numbers(random);
        }
        for (int i = 0; i < 8000; i++) {
            places(random);
        }
        Kit.end();
    }

    static Tree tree(Random random, int depth) {
        if (depth == 0 || random.nextInt(3) == 0) {
            String leaf = random.nextInt(4) == 0 ? "" + random.nextInt(10000) : random.nextInt(3) == 0 ? "next" : Kit.pick(random, VALUES);
            return new Tree(leaf, null, null);
        }
        return new Tree(Kit.pick(random, "+", "-", "*", "=", "<", ">"), tree(random, depth - 1), tree(random, depth - 1));
    }

    private static void numbers(Random random) {
        HeraldDesk desk = new HeraldDesk();
        Kit.due("the shield", Kit.read(desk, SHIELD), 0);
        TreeMap<Integer, Tree> own = new TreeMap<>();
        StringBuilder text = new StringBuilder();
        for (int i = 0; i < 12; i++) {
            int rule = random.nextInt(4);
            int kind = random.nextInt(2) == 0 ? random.nextInt(7) : random.nextInt(31);
            Tree tree = tree(random, 3);
            String body = "rule " + rule + " for " + Kit.KINDS[kind] + ":" + tree.text(random) + ";";
            if (!own.containsKey(rule * 32 + kind) && text.length() + body.length() <= 240) {
                own.put(rule * 32 + kind, tree);
                text.append(body);
            }
        }
        int office = random.nextInt(4);
        Kit.due(text.toString(), Kit.pack(desk, office, text.toString()), own.size());
        Kit.due("BODIES", desk.count(3 + office), own.size());
        for (int rule = 0; rule < 4; rule++) {
            int sum = 0;
            int all = 0;
            for (int p = 0; p < 7; p++) {
                begun = 0;
                int want = ask(values(desk, p), rule, own, desk.look(0, 10 + 8 * p), true);
                Kit.due(text + " rule " + rule + " part " + p, desk.part(0, p, rule, office), want);
                Kit.due("begun", desk.ran(), begun);
                sum += want;
                all += begun;
            }
            Kit.due("judge", desk.judge(0, rule, office), sum);
            Kit.due("begun", desk.ran(), all);
            for (int kind = 0; kind < 31; kind++) {
                Kit.due("chosen", desk.chosen(kind, rule, office), choice(own, kind, rule));
            }
        }
    }

    private static Tree common(int rule, int kind) {
        Tree sort = new Tree("sort", null, null);
        Tree below = new Tree("below", null, null);
        return switch (rule * 32 + kind) {
            case 0 -> new Tree("*", sort, new Tree("=", sort, below));
            case 34 -> new Tree(">", new Tree("number", null, null), new Tree("3", null, null));
            case 64 -> new Tree("0", null, null);
            case 79 -> new Tree("<", below, new Tree("1", null, null));
            case 96 -> new Tree("1", null, null);
            case 97 -> new Tree("+", new Tree("next", null, null), new Tree("1", null, null));
            default -> null;
        };
    }

    static int choice(TreeMap<Integer, Tree> own, int kind, int rule) {
        for (int k = kind; k >= 0; k = Kit.FAMILY[k]) {
            if (own.containsKey(rule * 32 + k)) {
                return k + 32;
            }
            if (common(rule, k) != null) {
                return k;
            }
        }
        return HeraldDesk.NONE;
    }

    /** What the words ahead of next give for part p of the shield. */
    private static int[] values(HeraldDesk desk, int p) {
        int[] sorts = {1, 1, 2, 2, 2, 2, 2, 0, 0};
        int[] below = {2, 1, 2, 2, 0, 2, 2};
        int from = 10 + 8 * p;
        int tincture = desk.look(0, from + 1);
        return new int[] {sorts[tincture], below[p], tincture, desk.look(0, from + 2), desk.look(0, from + 3), desk.look(0, from + 5), desk.look(0, from), desk.look(0, from + 4)};
    }

    /** The number of a part that has these values, asked for from a kind on, with the office's own body of it or without. */
    static int ask(int[] values, int rule, TreeMap<Integer, Tree> own, int kind, boolean withOwn) {
        boolean ownToo = withOwn;
        for (int k = kind; k >= 0; k = Kit.FAMILY[k]) {
            if (ownToo && own.containsKey(rule * 32 + k)) {
                begun++;
                return value(own.get(rule * 32 + k), values, rule, own, k, false);
            }
            ownToo = true;
            if (common(rule, k) != null) {
                begun++;
                return value(common(rule, k), values, rule, own, Kit.FAMILY[k], true);
            }
        }
        return 0;
    }

    /** A tree's value; next is asked for from a kind on. */
    private static int value(Tree tree, int[] values, int rule, TreeMap<Integer, Tree> own, int nextKind, boolean withOwn) {
        if (tree.left() == null) {
            int word = List.of(VALUES).indexOf(tree.sign());
            if (word < 0) {
                return Integer.parseInt(tree.sign());
            }
            return word < values.length ? values[word] : ask(values, rule, own, nextKind, withOwn);
        }
        int left = value(tree.left(), values, rule, own, nextKind, withOwn);
        int right = value(tree.right(), values, rule, own, nextKind, withOwn);
        return switch (tree.sign()) {
            case "+" -> left + right;
            case "-" -> left - right;
            case "*" -> left * right;
            case "=" -> left == right ? 1 : 0;
            case "<" -> left < right ? 1 : 0;
            default -> left > right ? 1 : 0;
        };
    }

    private static void places(Random random) {
        Laid laid = laid(random);
        if (laid.text().length() <= 240) {
            HeraldDesk desk = new HeraldDesk();
            int want = laid.refused() < 0 ? laid.bodies() : -2 - laid.refused();
            Kit.due("[" + laid.text() + "]", Kit.pack(desk, 1, laid.text()), want);
        }
    }

    /** A text that is a pack or nearly one: the place at which it is refused (below 0: none), and how often it has the word rule. */
    record Laid(String text, int refused, int bodies) {
    }

    static Laid laid(Random random) {
        List<String> tokens = new ArrayList<>();
        int bodies = random.nextInt(4);
        for (int i = 0; i < bodies; i++) {
            tokens.addAll(List.of("rule", "" + random.nextInt(4), "for", Kit.KINDS[random.nextInt(5)], ":"));
            expression(tokens, random, 2);
            tokens.add(";");
        }
        int changes = random.nextInt(3);
        String[] others = {"rule", "for", "lion", "part", ":", ";", "(", ")", "+", "-", "*", "=", "<", ">", "sort", "next", "0", "3", "4", "12", "9999", "10000", ",", "!", "kinds"};
        for (int i = 0; i < changes && !tokens.isEmpty(); i++) {
            int at = random.nextInt(tokens.size());
            switch (random.nextInt(4)) {
                case 0 -> tokens.remove(at);
                case 1 -> tokens.add(at, Kit.pick(random, others));
                case 2 -> tokens.set(at, Kit.pick(random, others));
                default -> tokens.subList(at, tokens.size()).clear();
            }
        }
        StringBuilder text = new StringBuilder();
        List<Integer> starts = new ArrayList<>();
        for (String token : tokens) {
            text.append(random.nextInt(5) == 0 ? "  " : " ");
            starts.add(text.length());
            text.append(token);
        }
        starts.add(text.length());
        int refused = refusedToken(tokens);
        int told = (int) tokens.stream().filter("rule"::equals).count();
        return new Laid(text.toString(), refused < 0 ? refused : starts.get(refused), told);
    }

    private static void expression(List<String> tokens, Random random, int depth) {
        int factors = 1 + random.nextInt(3);
        for (int i = 0; i < factors; i++) {
            if (i > 0) {
                tokens.add(Kit.pick(random, "+", "-", "*", "=", "<", ">"));
            }
            if (depth > 0 && random.nextInt(3) == 0) {
                tokens.add("(");
                expression(tokens, random, depth - 1);
                tokens.add(")");
            } else {
                tokens.add(random.nextBoolean() ? Kit.pick(random, VALUES) : "" + random.nextInt(10000));
            }
        }
    }

    /** A walk over states: 0 rule, 1 digit, 2 for, 3 name, 4 colon, 5 a factor is due, 6 a factor was there. */
    private static int refusedToken(List<String> tokens) {
        int state = 0;
        int open = 0;
        String rule = "";
        List<String> seen = new ArrayList<>();
        for (int i = 0; i < tokens.size(); i++) {
            String token = tokens.get(i);
            boolean fits = switch (state) {
                case 0 -> token.equals("rule") && seen.size() < 12;
                case 1 -> token.matches("[0-3]");
                case 2 -> token.equals("for");
                case 3 -> List.of(Kit.KINDS).contains(token) && !seen.contains(rule + token);
                case 4 -> token.equals(":");
                case 5 -> token.matches("[0-9]{1,4}") || List.of(VALUES).contains(token) || token.equals("(") && open < 9;
                default -> token.matches("[-+*=<>]") || token.equals(")") && open > 0 || token.equals(";") && open == 0;
            };
            if (!fits) {
                return i;
            }
            rule = state == 1 ? token : rule;
            if (state == 3) {
                seen.add(rule + token);
            }
            open += token.equals("(") ? 1 : token.equals(")") ? -1 : 0;
            if (state < 5) {
                state++;
            } else if (state == 5) {
                state = token.equals("(") ? 5 : 6;
            } else {
                state = token.equals(";") ? 0 : token.equals(")") ? 6 : 5;
            }
        }
        return state == 0 ? -1 : tokens.size();
    }
}
