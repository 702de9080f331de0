/** Promises 4, 8, 9, 10 and 11: packs, and what offices make of shields. */
public final class RulesTest {
    private static final String FULL = "quarterly argent and or, a fess vert charged with three mullets or, "
        + "four lions rampant azure armed gules crowned or, a chief purpure charged with a rose argent seeded or, "
        + "within a bordure ermine, for difference a label vair";

    public static void main(String[] args) {
        commonBodies();
        words();
        signs();
        nextOnes();
        choosing();
        packsTaken();
        packsRefused();
        limits();
        wrongInputs();
        Kit.end();
    }

    private static void commonBodies() {
        HeraldDesk desk = new HeraldDesk();
        Kit.read(desk, FULL);
        int[][] parts = {{0, 0, 0, 0, 0, 0, 0}, {0, 0, 1, 0, 0, 0, 0}, {0, 0, 0, 0, 0, 0, 0}, {2, 1, 1, 2, 1, 2, 1}};
        int[][] begun = {{1, 1, 1, 1, 1, 1, 1}, {0, 1, 1, 0, 1, 0, 1}, {1, 1, 1, 1, 1, 1, 1}, {2, 1, 1, 2, 1, 2, 1}};
        for (int rule = 0; rule < 4; rule++) {
            int sum = 0;
            int ran = 0;
            for (int p = 0; p < 7; p++) {
                Kit.due("part " + p + " by rule " + rule, desk.part(0, p, rule, 0), parts[rule][p]);
                Kit.due("begun for it", desk.ran(), begun[rule][p]);
                sum += parts[rule][p];
                ran += begun[rule][p];
            }
            Kit.due("judge by rule " + rule, desk.judge(0, rule, 3), sum);
            Kit.due("begun for it", desk.ran(), ran);
        }
        due(desk, "or, a fess argent", 0, 1);
        due(desk, "azure, a lion rampant gules", 0, 2);
        due(desk, "azure, a lion rampant or", 0, 0);
        due(desk, "ermine, a lion rampant vair", 0, 0);
        due(desk, "per pale or and azure, a lion rampant gules", 0, 0);
        due(desk, "per pale gules and azure, a lion rampant gules", 0, 2);
        due(desk, "or, a fess gules charged with a rose azure", 0, 2);
        due(desk, "or, a chief gules charged with a rose argent", 0, 0);
        due(desk, "gules, a chief or charged with a rose argent", 0, 1);
        due(desk, "or, three roses vert", 1, 0);
        due(desk, "or, four roses vert", 1, 1);
        due(desk, "or, a fess or charged with six roses vert, five roses or", 1, 2);
        due(desk, "ermine, within a bordure or", 2, 1);
        due(desk, "per pale or and vert, within a bordure or", 2, 1);
        due(desk, "or, within a bordure or", 2, 0);
        due(desk, "or", 3, 0);
    }

    private static void due(HeraldDesk desk, String text, int rule, int want) {
        Kit.due(text + " by rule " + rule, desk.judge(Kit.read(desk, text), rule, 0), want);
    }

    private static void words() {
        HeraldDesk desk = new HeraldDesk();
        Kit.read(desk, FULL);
        String[] words = {"sort", "below", "tincture", "number", "attitude", "duties", "kind", "place", "next"};
        int[][] want = {{2, 1, 2, 2, 1, 0, 0}, {1, 2, 1, 1, 2, 1, 1}, {5, 0, 3, 6, 1, 7, 8}, {1, 3, 4, 1, 1, 1, 1}, {0, 0, 1, 0, 0, 0, 0},
            {0, 0, 2, 0, 1, 0, 0}, {9, 24, 16, 7, 21, 15, 30}, {0, 1, 2, 3, 4, 5, 6}, {0, 0, 0, 0, 0, 0, 0}};
        for (int w = 0; w < words.length; w++) {
            Kit.due("pack", Kit.pack(desk, 2, "rule 1 for part:" + words[w] + ";"), 1);
            int sum = 0;
            for (int p = 0; p < 7; p++) {
                boolean charges = p == 1 || p == 2 || p == 4 || p == 6;
                int number = charges ? (p == 2 ? 1 : 0) : want[w][p];
                Kit.due(words[w] + " of part " + p, desk.part(0, p, 1, 2), number);
                sum += number;
            }
            Kit.due("judge", desk.judge(0, 1, 2), sum);
            Kit.pack(desk, 1, "rule 1 for charge:" + words[w] + ";");
            for (int p : new int[] {1, 2, 4, 6}) {
                int next = p == 2 ? 1 : 0;
                Kit.due(words[w] + " of part " + p, desk.part(0, p, 1, 1), w == 8 ? next : want[w][p]);
            }
        }
    }

    private static void signs() {
        String[] bodies = {"1+2*3", "(1+2)*3", "2*3=6", "6=2*3", "1-2-3", "1-(2-3)", "9<8<1", "9>8=1*5", "0007", "9999*9999*9999", "0-9999*9999*99", "((((((((( 5 )))))))))",
            "1<2+1<2", "3=3=3", "2>1>0", "5-5=0", "9999", "10-1=1+1"};
        int[] want = {7, 9, 1, 0, -4, 2, 1, 5, 7, 9999 * 9999 * 9999, -9999 * 9999 * 99, 5, 2, 0, 1, 5, 9999, 10};
        for (int i = 0; i < bodies.length; i++) {
            HeraldDesk desk = new HeraldDesk();
            Kit.read(desk, "or, a fess or");
            Kit.due(bodies[i] + " read", Kit.pack(desk, 0, "rule 2 for fess:" + bodies[i] + ";"), 1);
            Kit.due(bodies[i], desk.judge(0, 2, 0), want[i]);
        }
        HeraldDesk desk = new HeraldDesk();
        Kit.read(desk, "or, a fess or, a chief or");
        Kit.pack(desk, 0, "rule 2 for ordinary:9999*9999*21;");
        Kit.due("the sum wraps", desk.judge(0, 2, 0), 2 * (9999 * 9999 * 21));
    }

    private static void nextOnes() {
        HeraldDesk desk = new HeraldDesk();
        Kit.read(desk, "or, a lion rampant or");
        Kit.read(desk, "or, a bend or");
        Kit.pack(desk, 1, "rule 3 for lion: next * 10 + 1; rule 3 for beast: next + next; rule 3 for charge: next + 3; rule 3 for part: next + 100;");
        Kit.due("along the families", desk.part(0, 0, 3, 1), (101 + 3) * 2 * 10 + 1);
        Kit.due("begun", desk.ran(), 1 + 1 + 2 * 3);
        Kit.due("ordinary, common between", desk.part(1, 0, 3, 1), 102);
        Kit.due("begun", desk.ran(), 3);
        Kit.pack(desk, 1, "rule 3 for ordinary: next * 0 * next + 7; rule 3 for bend: 2 * next; rule 1 for part: next + 4;");
        Kit.due("own ahead of the common one", desk.part(1, 0, 3, 1), 14);
        Kit.due("begun", desk.ran(), 1 + 1 + 2 * 2);
        Kit.due("next without", desk.part(1, 0, 1, 1), 4);
        Kit.due("begun", desk.ran(), 1);
        Kit.due("of a charge the common one is nearer", desk.part(0, 0, 1, 1), 0);
        Kit.due("begun", desk.ran(), 1);
        Kit.due("another office", desk.part(1, 0, 3, 0), 2);
        String much = "rule 0for lion:next" + "+next".repeat(8) + ";rule 0for beast:next" + "+next".repeat(8) + ";rule 0for charge:next" + "+next".repeat(8)
            + ";rule 0for part:next" + "+next".repeat(7) + ";";
        Kit.due("much", Kit.pack(desk, 2, much), 4);
        Kit.due("many nexts", desk.part(0, 0, 0, 2), 9 * 9 * 9 * 8);
        Kit.due("begun", desk.ran(), 1 + 9 + 81 + 729 + 729 * 8);
    }

    private static void choosing() {
        HeraldDesk desk = new HeraldDesk();
        int[] ofRule = {0, -1, 0, 0};
        for (int kind = 0; kind < 31; kind++) {
            for (int rule = 0; rule < 4; rule++) {
                int want = ofRule[rule];
                boolean charge = kind == 2 || kind >= 3 && kind <= 6 || kind >= 16;
                boolean ordinary = kind == 1 || kind >= 7 && kind <= 15;
                want = rule == 1 && charge ? 2 : rule == 2 && kind == 15 ? 15 : rule == 3 && ordinary ? 1 : want;
                Kit.due("chosen(" + kind + ", " + rule + ", 0)", desk.chosen(kind, rule, 0), want);
            }
        }
        Kit.pack(desk, 2, "rule 0 for beast: 1; rule 1 for part: 2; rule 3 for chief: 3; rule 2 for bordure: next;");
        int[][] rows = {{16, 0, 35}, {3, 0, 35}, {19, 0, 0}, {2, 0, 0}, {16, 1, 2}, {9, 1, 32}, {0, 1, 32}, {7, 3, 39}, {8, 3, 1}, {15, 2, 47}, {30, 3, 0}};
        for (int[] row : rows) {
            Kit.due("chosen(" + row[0] + ", " + row[1] + ", 2)", desk.chosen(row[0], row[1], 2), row[2]);
        }
        int[][] wrong = {{-1, 0, 0}, {31, 0, 0}, {0, -1, 0}, {0, 4, 0}, {0, 0, -1}, {0, 0, 4}, {Integer.MAX_VALUE, 0, 0}, {9, 1, 1}};
        for (int[] row : wrong) {
            Kit.due("chosen(" + row[0] + ", " + row[1] + ", " + row[2] + ")", desk.chosen(row[0], row[1], row[2]), -1);
        }
    }

    private static void packsTaken() {
        HeraldDesk desk = new HeraldDesk();
        Kit.due("empty", Kit.pack(desk, 0, ""), 0);
        Kit.due("blank", Kit.pack(desk, 0, "   "), 0);
        Kit.due("tight", Kit.pack(desk, 0, "rule0for lion:1;rule1for lion:next+kind;"), 2);
        Kit.due("loose", Kit.pack(desk, 0, "  rule  3  for  label  :  (  1  )  *  sort  ;  "), 1);
        Kit.due("in place of all before", desk.chosen(16, 0, 0), 0);
        Kit.due("in place of all before", desk.chosen(30, 3, 0), 62);
        Kit.due("refused", Kit.pack(desk, 0, "rule 0 for lion: 1"), -2 - 18);
        Kit.due("what was there stays", desk.chosen(30, 3, 0), 62);
        Kit.due("what was there stays", desk.count(3), 1);
        Kit.due("of that office alone", desk.chosen(30, 3, 1), 0);
        Kit.due("empty again", Kit.pack(desk, 0, ""), 0);
        Kit.due("gone", desk.chosen(30, 3, 0), 0);
        for (int kind = 0; kind < 31; kind++) {
            Kit.due("for " + Kit.KINDS[kind], Kit.pack(desk, 3, "rule 1 for " + Kit.KINDS[kind] + ":1;"), 1);
            Kit.due("chosen for it", desk.chosen(kind, 1, 3), kind + 32);
        }
    }

    /** Each pack is refused at the place of its bar, which is taken out. */
    private static void packsRefused() {
        String[] texts = {
            "|rules", "|;", "|,", "|0", "rule |", "rule |4 for lion:1;", "rule |03 for lion:1;", "rule |00 for lion:1;", "rule |for", "rule 0 |0 for lion:1;",
            "rule 0 |lion", "rule 0 for |", "rule 0 for |lions:1;", "rule 0 for |3:1;", "rule 0 for lion |1;", "rule 0 for lion:|;", "rule 0 for lion:|",
            "rule 0 for lion:1|", "rule 0 for lion:1 |2;", "rule 0 for lion:1+|;", "rule 0 for lion:|-1;", "rule 0 for lion:1|);", "rule 0 for lion:(1|;",
            "rule 0 for lion:(|);", "rule 0 for lion:|12345;", "rule 0 for lion:1*|12345;", "rule 0 for lion:|lion;", "rule 0 for lion:sort |below;",
            "rule 0 for lion:1=|=2;", "rule 0 for lion:1|,", "rule 0 for lion:1|/2;", "rule 0 for lion:1;|;", "rule 0 for lion:1; |for", "rule 0 for lion:1; rule 0 for |lion:2;",
            "rule 0 for lion:1; rule 1 for lion:2; rule 0 for |lion", "rule 0 for lion:((1)|;", "rule 0 for lion:(1)|(2);", "rule 0 for lion:1|:",
            "rule 0 for lion:|abcdefghijklm;", "rule 0 for lion:|sortbelow;", "rule 0 for lion:1|A;", "|Rule", "rule 0 for lion:1;|\0",
            "rule 0 for lion:(((((((((|(1))))))))));", "rule 0 for lion:(((((((((1)))))))))*(((((((((|(1))))))))));",
        };
        for (String text : texts) {
            HeraldDesk desk = new HeraldDesk();
            int place = text.indexOf('|');
            Kit.due(text, Kit.pack(desk, 1, text.replace("|", "")), -2 - place);
            Kit.due("BODIES after " + text, desk.count(4), 0);
        }
    }

    private static void limits() {
        HeraldDesk desk = new HeraldDesk();
        String[] names = {"lion", "boar", "stag", "rose", "lily", "pale", "fess", "bend", "pile", "bird", "part", "eagle"};
        StringBuilder twelve = new StringBuilder();
        for (String name : names) {
            twelve.append("rule0for " + name + ":1;");
        }
        Kit.due("12 bodies", Kit.pack(desk, 0, twelve.toString()), 12);
        Kit.due("13 bodies", Kit.pack(desk, 0, twelve + " rule0for boar:1;"), -2 - twelve.length() - 1);
        Kit.due("another word there", Kit.pack(desk, 0, twelve + " for"), -2 - twelve.length() - 1);
        Kit.due("still", desk.count(3), 12);
        String deep = "(".repeat(9) + "1" + ")".repeat(9);
        Kit.due("9 open, twice", Kit.pack(desk, 0, "rule 0 for lion:" + deep + "+" + deep + ";"), 1);
        Kit.read(desk, "or, a lion rampant or");
        Kit.due("their sum", desk.judge(0, 0, 0), 2);
        String staircase = "1+1*(".repeat(9) + "1+1*1" + ")".repeat(9);
        Kit.due("much left open", Kit.pack(desk, 0, "rule 0 for lion:" + staircase + ";"), 1);
        Kit.due("its sum", desk.judge(0, 0, 0), 11);
    }

    private static void wrongInputs() {
        HeraldDesk desk = new HeraldDesk();
        Kit.read(desk, "or, a fess or");
        int[][] judged = {{1, 0, 0}, {-1, 0, 0}, {0, 4, 0}, {0, -1, 0}, {0, 0, 4}, {0, 0, -1}};
        for (int[] row : judged) {
            Kit.due("judge by rule 3", desk.judge(0, 3, 0), 2);
            Kit.due("judge of none such", desk.judge(row[0], row[1], row[2]), 0);
            Kit.due("begun by it", desk.ran(), 0);
            desk.judge(0, 3, 0);
            Kit.due("part of none such", desk.part(row[0], 0, row[1], row[2]), 0);
            Kit.due("begun by it", desk.ran(), 0);
        }
        for (int p : new int[] {-1, 1, 7, Integer.MAX_VALUE, Integer.MIN_VALUE}) {
            Kit.due("part " + p, desk.part(0, p, 3, 0), 0);
            Kit.due("begun by it", desk.ran(), 0);
        }
        desk.judge(0, 3, 0);
        desk.chosen(1, 1, 1);
        Kit.due("of the latest judge", desk.ran(), 2);
    }
}
