/** Promises 4, 8, 9, 10 and 11 at their edges: each sentence about rules, bodies, offices and packs that names one. */
public final class RuleEdgesTest {
    private static final int NONE = HeraldDesk.NONE;
    private static final int MIN = Integer.MIN_VALUE;
    private static final int MAX = Integer.MAX_VALUE;
    private static final String LARGEST = "9999*9999*21+4790*9999+8416";
    private static final String[] VALUES = {"sort", "below", "tincture", "number", "attitude", "duties", "kind", "place", "next"};
    private static final String FULL = "vert, a pale gules charged with two eagles close vair armed or, six lions rampant argent armed or crowned or, "
        + "a chief or charged with a rose sable seeded or, within a bordure ermine, for difference a lily purpure";

    public static void main(String[] args) {
        packing();
        refusing();
        expressions();
        words();
        commonBodies();
        families();
        judging();
        choosing();
        begun();
        Kit.end();
    }

    private static void packing() {
        howManyBodies();
        emptyPack();
        noSuchOffice();
        noSuchLength();
        emptyThen();
        inPlaceOfAll();
        fullTape();
        manyFullTapes();
        twelveBodies();
        nineOpen();
    }

    private static String bodies(int many) {
        StringBuilder text = new StringBuilder();
        for (int i = 0; i < many; i++) {
            text.append("rule" + i / 4 + "for " + new String[] {"lion", "boar", "lily", "fess"}[i % 4] + ":" + i % 10 + ";");
        }
        return text.toString();
    }

    private static void howManyBodies() {
        Kit.promise(4, "Likewise as a PACK of an OFFICE: how many BODIES");
        for (int office = 0; office < 4; office++) {
            HeraldDesk desk = new HeraldDesk();
            for (int many = 0; many <= 12; many++) {
                Kit.due("pack of " + many, Kit.pack(desk, office, bodies(many)), many);
                Kit.due("count", desk.count(3 + office), many);
            }
            Kit.due("another office", desk.count(3 + (office + 1) % 4), 0);
        }
    }

    private static void emptyPack() {
        Kit.promise(4, "A PACK: { rule DIGIT for KINDNAME : EXPRESSION ; }");
        HeraldDesk desk = new HeraldDesk();
        Kit.due("of an empty tape", desk.pack(3, 0), 0);
        Kit.due("one body", Kit.pack(desk, 3, bodies(1)), 1);
        Kit.due("nothing but blanks", Kit.pack(desk, 3, " ".repeat(240)), 0);
        Kit.due("count", desk.count(6), 0);
        Kit.due("chosen", desk.chosen(16, 0, 3), 0);
        Kit.refusedPack("|;", "|,", "rule|", "rule 0|", "rule 0 for|", "rule 0 for lion|", "rule 0 for lion:|", "rule 0 for lion:1|", "rule 0 for lion:1;|;", "rule 0 for lion:1; |for",
            "rule 0 for lion:1; rule|", "|0 for lion:1;", "rule |for lion:1;", "rule 0 |lion:1;", "rule 0 for|:1;", "rule 0 for lion |1;", "rule 0 for lion:|;", "rule 0 for lion:1 |rule 1",
            "rule 0 for |lions:1;", "rule 0 for |lio:1;", "rule 0 for |or:1;", "rule 0 for |16:1;", "rule 0 for |sort:1;", "rule 0 for |for lion:1;");
    }

    private static void noSuchOffice() {
        Kit.promise(4, "NONE: no such OFFICE");
        HeraldDesk desk = new HeraldDesk();
        for (int office : new int[] {-1, 4, 5, MIN, MAX}) {
            Kit.due("an empty one of " + office, desk.pack(office, 0), NONE);
        }
        Kit.feed(desk, bodies(1));
        for (int office : new int[] {-1, 4, MIN, MAX}) {
            Kit.due("pack of " + office, desk.pack(office, bodies(1).length()), NONE);
            Kit.due("the tape stays", desk.count(2), 20);
        }
        Kit.due("of 3", desk.pack(3, bodies(1).length()), 1);
        Kit.due("of 0", Kit.pack(desk, 0, bodies(2)), 2);
    }

    private static void noSuchLength() {
        Kit.promise(4, "no such OFFICE, n");
        HeraldDesk desk = new HeraldDesk();
        for (int n : new int[] {-1, 1, 20, MIN, MAX}) {
            Kit.due("n " + n + " of an empty tape", desk.pack(0, n), NONE);
        }
        Kit.feed(desk, "rule 0 for lion:1;  ");
        for (int n : new int[] {-1, 21, 240, 241, MIN, MAX}) {
            Kit.due("n " + n + " of 20", desk.pack(0, n), NONE);
            Kit.due("the tape stays", desk.count(2), 20);
        }
        Kit.due("n 20 of 20", desk.pack(0, 20), 1);
    }

    private static void emptyThen() {
        Kit.promise(4, "(empty then)");
        HeraldDesk desk = new HeraldDesk();
        Kit.feed(desk, "rule 0 for lion:1; rule 1 for lion:1;");
        Kit.due("the first 18 bytes", desk.pack(2, 18), 1);
        Kit.due("the tape", desk.count(2), 0);
        Kit.feed(desk, "rule 0 for lion:1; rule 1 for lion:1;");
        Kit.due("refused", desk.pack(2, 17), -2 - 17);
        Kit.due("the tape", desk.count(2), 0);
        Kit.feed(desk, "rule 0 for lion:1; rule 1 for lion:1;");
        Kit.due("none of it", desk.pack(2, 0), 0);
        Kit.due("the tape", desk.count(2), 0);
    }

    private static void inPlaceOfAll() {
        Kit.promise(4, "it is the OFFICE's (in place of all its BODIES before), or refused");
        HeraldDesk desk = new HeraldDesk();
        Kit.read(desk, "or, a lion rampant or, a chief or");
        Kit.pack(desk, 1, "rule 0 for lion:5; rule 3 for chief:6;");
        Kit.pack(desk, 2, "rule 0 for lion:7;");
        Kit.due("rule 0", desk.part(0, 0, 0, 1), 5);
        Kit.due("refused at its end", Kit.pack(desk, 1, "rule 0 for lion:8; rule 3 for chief:9"), -2 - 37);
        Kit.due("what was there stays", desk.part(0, 0, 0, 1), 5);
        Kit.due("what was there stays", desk.part(0, 1, 3, 1), 6);
        Kit.due("another one", Kit.pack(desk, 1, "rule 3 for chief:9;"), 1);
        Kit.due("the old body is gone", desk.part(0, 0, 0, 1), 1);
        Kit.due("the new one is there", desk.part(0, 1, 3, 1), 9);
        Kit.due("a like one for the same kind", Kit.pack(desk, 1, "rule 3 for chief:8;"), 1);
        Kit.due("the new one is there", desk.part(0, 1, 3, 1), 8);
        Kit.due("another office's stays", desk.part(0, 0, 0, 2), 7);
        Kit.due("the others have the common ones", desk.part(0, 0, 0, 0), 1);
        Kit.due("an empty one", Kit.pack(desk, 1, ""), 0);
        Kit.due("the common one", desk.part(0, 1, 3, 1), 2);
    }

    private static void fullTape() {
        Kit.promise(4, "of at most 240 bytes");
        HeraldDesk desk = new HeraldDesk();
        Kit.read(desk, "or, a lion rampant or");
        String full = "rule 0 for lion: " + "1+".repeat(110) + "1 ;";
        Kit.due("its length", full.length(), 240);
        Kit.due("a body as long as the tape", Kit.pack(desk, 0, full), 1);
        Kit.due("its number", desk.judge(0, 0, 0), 111);
        Kit.feed(desk, full);
        Kit.due("without the last byte", desk.pack(0, 239), -2 - 239);
        Kit.due("refused at the last byte", Kit.pack(desk, 0, full.replace(";", ")")), -2 - 239);
        Kit.due("refused at the end", Kit.pack(desk, 0, "rule" + " ".repeat(236)), -2 - 240);
        Kit.due("the body stays", desk.judge(0, 0, 0), 111);
    }

    /** What an office had before takes no room from what it has now, and neither does what was refused. */
    private static void manyFullTapes() {
        Kit.promise(4, "in place of all its BODIES before");
        HeraldDesk desk = new HeraldDesk();
        Kit.read(desk, "or, a lion rampant or");
        for (int i = 1; i <= 9; i++) {
            String full = "rule 0 for lion: " + (i + "+").repeat(110) + i + " ;";
            Kit.due("refused at the end", Kit.pack(desk, 0, full.replace(";", "+")), -2 - 240);
            Kit.due("a full tape again", Kit.pack(desk, 0, full), 1);
            Kit.due("its number", desk.judge(0, 0, 0), 111 * i);
        }
    }

    private static void twelveBodies() {
        Kit.promise(4, "at most 12 BODIES: at the 13th rule");
        HeraldDesk desk = new HeraldDesk();
        String twelve = bodies(12);
        Kit.due("11", Kit.pack(desk, 0, bodies(11)), 11);
        Kit.due("12", Kit.pack(desk, 0, twelve), 12);
        Kit.due("12 and blanks", Kit.pack(desk, 0, twelve + "  "), 12);
        Kit.due("13", Kit.pack(desk, 0, twelve + "rule3for lion:1;"), -2 - twelve.length());
        Kit.due("13, and a blank", Kit.pack(desk, 0, twelve + " rule3for lion:1;"), -2 - twelve.length() - 1);
        Kit.due("13, refused behind it as well", Kit.pack(desk, 0, twelve + " rule 9"), -2 - twelve.length() - 1);
        Kit.due("the 13th rule alone", Kit.pack(desk, 0, twelve + " rule"), -2 - twelve.length() - 1);
        Kit.due("still 12", desk.count(3), 12);
    }

    private static void nineOpen() {
        Kit.promise(4, "at most 9 ( open: at the 10th");
        HeraldDesk desk = new HeraldDesk();
        Kit.read(desk, "or, a lion rampant or");
        String nine = "(((((((((";
        String shut = ")))))))))";
        Kit.due("9", value(desk, nine + "7" + shut), 7);
        Kit.due("9 twice", value(desk, nine + "7" + shut + "*" + nine + "6" + shut), 42);
        Kit.due("ten in all, never ten open", value(desk, "((((((((" + "(5)-(3)" + "))))))))"), 2);
        Kit.due("8 and one more", value(desk, "((((((((1+2*(3-1)))))))))"), 5);
        Kit.refusedPack("rule 0 for lion:(((((((((|(7))))))))));", "rule 0 for lion:(((((((((|(", "rule 0 for lion:1+(((((((((2*|(7))))))))));",
            "rule 0 for lion:(((((((((7)))))))))+(((((((((|(7))))))))));", "rule 0 for lion:(((((((((|);");
    }

    /** The number of a lion by office 0 and rule 0, after its body was packed. */
    private static int value(HeraldDesk desk, String body) {
        Kit.due("pack " + body, Kit.pack(desk, 0, "rule 0 for lion:" + body + ";"), 1);
        return desk.part(0, 0, 0, 0);
    }

    private static void refusing() {
        digitAlone();
        kindTwice();
        tokens();
        placesOfPacks();
    }

    private static void digitAlone() {
        Kit.promise(4, "DIGIT 0 to 3, alone");
        HeraldDesk desk = new HeraldDesk();
        for (int rule = 0; rule <= 3; rule++) {
            Kit.due("rule " + rule, Kit.pack(desk, 1, "rule " + rule + " for tower:1;"), 1);
            Kit.due("chosen", desk.chosen(29, rule, 1), 29 + 32);
            Kit.due("tight", Kit.pack(desk, 1, "rule" + rule + "for tower:1;"), 1);
        }
        Kit.refusedPack("rule |4 for lion:1;", "rule |9 for lion:1;", "rule |00 for lion:1;", "rule |03 for lion:1;", "rule |10 for lion:1;", "rule |0000 for lion:1;",
            "rule |12345 for lion:1;", "rule 0 |0 for lion:1;", "rule |-1 for lion:1;", "rule |(0) for lion:1;", "rule |one for lion:1;", "rule |a for lion:1;");
    }

    private static void kindTwice() {
        Kit.promise(4, "a KIND twice for a RULE: at that NAME");
        Kit.refusedPack("rule 0 for lion:1; rule 0 for |lion:2;", "rule 0 for lion:1; rule 0 for |lion", "rule 3 for part:1;rule 3 for boar:1;rule 3 for |part:1;",
            "rule 3 for boar:1; rule 0 for boar:1; rule 0 for |boar:1;");
        HeraldDesk desk = new HeraldDesk();
        Kit.due("for each rule once", Kit.pack(desk, 0, "rule 0 for lion:1; rule 1 for lion:1; rule 2 for lion:1; rule 3 for lion:1;"), 4);
        Kit.due("a kind and its family", Kit.pack(desk, 0, "rule 0 for lion:1; rule 0 for beast:1;"), 2);
        Kit.due("in another pack", Kit.pack(desk, 0, "rule 0 for lion:1;"), 1);
        Kit.due("another office's", Kit.pack(desk, 1, "rule 0 for lion:1;"), 1);
        Kit.due("where the common one is", Kit.pack(desk, 1, "rule 0 for part:1;"), 1);
    }

    /** Each byte behind a whole pack, behind a factor and where a factor is due. */
    private static void tokens() {
        Kit.promise(4, "tokens as above and digits and signs");
        for (int b = 0; b < 256; b++) {
            char c = (char) b;
            boolean digit = c >= '0' && c <= '9';
            if (c == ' ' || c == '|') {
                continue;
            }
            Kit.refusedPack("rule 0 for lion:1;|" + c);
            if (!digit && "+-*=<>;".indexOf(c) < 0) {
                Kit.refusedPack("rule 0 for lion:1|" + c);
            }
            if (!digit && c != '(') {
                Kit.refusedPack("rule 0 for lion:|" + c);
            }
        }
        HeraldDesk desk = new HeraldDesk();
        Kit.due("the byte 124", Kit.pack(desk, 1, "rule 0 for lion:1" + (char) 124 + ";"), -2 - 17);
        Kit.due("tight", Kit.pack(desk, 1, "rule0for lion:(1+sort)*2=kind;rule1for part:0;"), 2);
        Kit.due("loose", Kit.pack(desk, 1, "  rule  0  for  lion  :  (  1  +  sort  )  *  2  =  kind  ;  "), 1);
        Kit.refusedPack("|rules 0", "rule 0 |forlion:1;", "|Rule 0", "rule 0 for lion:|sortsort;", "rule 0 for |abcdefghijklm:1;", "rule 0 for lion:|abcdefghijklm;", "rule 0 for lion:1 |1;");
    }

    private static void placesOfPacks() {
        Kit.promise(4, "refused at the least place at which none could go on");
        HeraldDesk desk = new HeraldDesk();
        Kit.due("at 0", Kit.pack(desk, 0, "for"), -2);
        Kit.due("at 240", Kit.pack(desk, 0, "rule 0" + " ".repeat(234)), -2 - 240);
        Kit.refusedPack("rule 0 for lion:1+|+2;", "rule 0 for lion:|+1;", "rule 0 for lion:|-1;", "rule 0 for lion:1 |sort;", "rule 0 for lion:sort |1;", "rule 0 for lion:sort|(1);",
            "rule 0 for lion:(1)|(2);", "rule 0 for lion:(1|;", "rule 0 for lion:1|);", "rule 0 for lion:(|);", "rule 0 for lion:(1+|);", "rule 0 for lion:((1)|;", "rule 0 for lion:1=|=1;",
            "rule 0 for lion:1>|=1;", "rule 0 for lion:1|,2;", "rule 0 for lion:|lion;", "rule 0 for lion:|or;", "rule 0 for lion:1*|;", "rule 0 for lion:(1|", "rule 0 for lion:(1)|");
    }

    private static void expressions() {
        digits();
        fromTheLeft();
        oneOrZero();
        wraps();
    }

    private static void digits() {
        Kit.promise(4, "a NUMBER of 1 to 4 digits");
        HeraldDesk desk = new HeraldDesk();
        Kit.read(desk, "or, a lion rampant or");
        String[] numbers = {"0", "9", "00", "10", "099", "999", "0000", "0001", "9999"};
        for (String number : numbers) {
            Kit.due("number " + number, value(desk, number), Integer.parseInt(number));
        }
        Kit.refusedPack("rule 0 for lion:|00000;", "rule 0 for lion:|12345;", "rule 0 for lion:1+|10000;", "rule 0 for lion:(|99999);", "rule 0 for lion:|1234567890123;", "rule 0 for lion:1234 |5;");
    }

    private static void fromTheLeft() {
        Kit.promise(8, "(from the left; = < > give 1 or 0)");
        HeraldDesk desk = new HeraldDesk();
        Kit.read(desk, "or, a lion rampant or");
        String[] bodies = {"1-2-3", "1-(2-3)", "2-1+5", "2+3*4", "2*3+4", "(2+3)*4", "3<2<1", "3<(2<1)", "3>2>1", "2*3=6", "6=2*3", "3=3*5", "5*3=3", "1+2=3", "3=1+2", "4-2*3", "2=2=1", "1<2*7"};
        int[] want = {-4, 2, 6, 14, 10, 20, 1, 0, 0, 1, 0, 5, 0, 1, 2, -2, 1, 7};
        for (int i = 0; i < bodies.length; i++) {
            Kit.due(bodies[i], value(desk, bodies[i]), want[i]);
        }
    }

    private static void oneOrZero() {
        Kit.promise(8, "= < > give 1 or 0");
        HeraldDesk desk = new HeraldDesk();
        Kit.read(desk, "or, a lion rampant or");
        String[] bodies = {"5=5", "5=6", "5<6", "6<6", "6<5", "6>5", "6>6", "5>6", "(0-1)<0", "0<(0-1)", "(0-1)>(0-2)", "(0-5)=(0-5)", "0=0", "9999>9998"};
        int[] want = {1, 0, 1, 0, 0, 1, 0, 0, 1, 0, 1, 1, 1, 1};
        for (int i = 0; i < bodies.length; i++) {
            Kit.due(bodies[i], value(desk, bodies[i]), want[i]);
        }
    }

    private static void wraps() {
        Kit.promise(8, "Numbers wrap in 32 bits.");
        HeraldDesk desk = new HeraldDesk();
        Kit.read(desk, "or, a lion rampant or, a chief or");
        Kit.due("the largest", value(desk, LARGEST), MAX);
        Kit.due("one more", value(desk, LARGEST + "+1"), MIN);
        Kit.due("the least less one", value(desk, "0-(" + LARGEST + ")-2"), MAX);
        Kit.due("a product", value(desk, "9999*9999*22"), 9999 * 9999 * 22);
        Kit.due("a product of itself", value(desk, "(" + LARGEST + ")*(" + LARGEST + ")"), 1);
        Kit.due("compared when wrapped", value(desk, "(" + LARGEST + "+1)<0"), 1);
        Kit.due("alike when wrapped", value(desk, "(" + LARGEST + "+1)=(0-(" + LARGEST + ")-1)"), 1);
        Kit.pack(desk, 0, "rule 2 for lion:" + LARGEST + "; rule 2 for chief:1;");
        Kit.due("a sum over parts", desk.judge(0, 2, 0), MIN);
        Kit.pack(desk, 0, "rule 2 for part:" + LARGEST + "; rule 2 for lion:next+1; rule 2 for chief:0-1;");
        Kit.due("next", desk.part(0, 0, 2, 0), MIN);
        Kit.due("and back", desk.judge(0, 2, 0), MAX);
    }

    private static void words() {
        sortEdges();
        belowEdges();
        otherValues();
        nextWithout();
        wordsOfOtherKinds();
    }

    private static void sortEdges() {
        Kit.promise(9, "sort (of its TINCTURE: 0 FUR, 1 METAL, 2 COLOUR)");
        HeraldDesk desk = new HeraldDesk();
        Kit.pack(desk, 0, "rule 1 for rose: sort; rule 2 for rose: tincture;");
        int[] sorts = {1, 1, 2, 2, 2, 2, 2, 0, 0};
        for (int i = 0; i < 9; i++) {
            int k = Kit.read(desk, "or, a rose " + Kit.TINCTURES[i]);
            Kit.due("sort of " + Kit.TINCTURES[i], desk.part(k, 0, 1, 0), sorts[i]);
            Kit.due("tincture of " + Kit.TINCTURES[i], desk.part(k, 0, 2, 0), i);
        }
    }

    private static void belowEdges() {
        Kit.promise(9, "below (the sort of what it lies on: the FIELD's, 0 if it has two sorts; of CHARGES on an ORDINARY or CHIEF of that)");
        HeraldDesk desk = new HeraldDesk();
        Kit.pack(desk, 0, "rule 1 for part: below; rule 1 for charge: below;");
        String[] fields = {"or", "argent", "gules", "purpure", "ermine", "vair", "paly or and argent", "paly gules and purpure", "paly ermine and vair", "paly or and gules",
            "paly gules and argent", "paly or and vair", "paly ermine and azure"};
        int[] want = {1, 1, 2, 2, 0, 0, 1, 2, 0, 0, 0, 0, 0};
        for (int i = 0; i < fields.length; i++) {
            int k = Kit.read(desk, fields[i] + ", a fess azure charged with a rose or, a rose or, a chief argent charged with a rose or, within a bordure or, for difference a rose or");
            int[] below = {want[i], 2, want[i], want[i], 1, want[i], want[i]};
            for (int p = 0; p < 7; p++) {
                Kit.due(fields[i] + " below part " + p, desk.part(k, p, 1, 0), below[p]);
            }
        }
        int k = Kit.read(desk, "azure, a fess vair charged with a rose or, a chief ermine charged with a rose or");
        Kit.due("below charges on a fur", desk.part(k, 1, 1, 0), 0);
        Kit.due("below charges on a chief of fur", desk.part(k, 3, 1, 0), 0);
    }

    private static void otherValues() {
        Kit.promise(9, "number (of CHARGES, else 1), attitude, duties (how many), kind (its number), place (0 ORDINARY, 1 on it, 2 CHARGES, 3 CHIEF, 4 on it, 5 BORDURE, 6 MARK)");
        HeraldDesk desk = new HeraldDesk();
        Kit.read(desk, FULL);
        String[] told = {"number", "attitude", "duties", "kind", "place"};
        int[][] want = {{1, 2, 6, 1, 1, 1, 1}, {0, 5, 1, 0, 0, 0, 0}, {0, 1, 2, 0, 1, 0, 0}, {8, 19, 16, 7, 21, 15, 22}, {0, 1, 2, 3, 4, 5, 6}};
        for (int w = 0; w < told.length; w++) {
            Kit.pack(desk, 0, "rule 1 for part:" + told[w] + ";rule 1 for charge:" + told[w] + ";");
            for (int p = 0; p < 7; p++) {
                Kit.due(told[w] + " of part " + p, desk.part(0, p, 1, 0), want[w][p]);
            }
        }
    }

    private static void nextWithout() {
        Kit.promise(9, "next (what the BODY that comes next above gives; 0 without)");
        HeraldDesk desk = new HeraldDesk();
        Kit.read(desk, "or, a lion rampant or, a chief or");
        Kit.pack(desk, 1, "rule 1 for chief: next + 5; rule 1 for lion: next + 7;");
        Kit.due("without", desk.part(0, 1, 1, 1), 5);
        Kit.due("the common one of charges", desk.part(0, 0, 1, 1), 7);
        Kit.pack(desk, 1, "rule 1 for part: next + 5; rule 1 for charge: next * 10;");
        Kit.due("without, at the top", desk.part(0, 1, 1, 1), 5);
        Kit.due("begun", desk.ran(), 1);
        Kit.due("the common one between", desk.part(0, 0, 1, 1), 0);
        Kit.due("begun", desk.ran(), 2);
        Kit.pack(desk, 1, "rule 3 for lion: next * 10 + 1; rule 3 for beast: next * 10 + 2; rule 3 for charge: next * 10 + 3; rule 3 for part: next * 10 + 4;");
        Kit.due("all four, and the common one at the top", desk.part(0, 0, 3, 1), 14321);
        Kit.due("a chief: the common one of ordinaries between", desk.part(0, 1, 3, 1), 15);
        Kit.pack(desk, 1, "rule 3 for chief: next * 10 + 1; rule 3 for ordinary: next * 10 + 2; rule 3 for part: next * 10 + 3;");
        Kit.due("own, own, common, own, common", desk.part(0, 1, 3, 1), ((13 + 1) * 10 + 2) * 10 + 1);
        Kit.due("another office", desk.part(0, 1, 3, 2), 2);
    }

    private static void wordsOfOtherKinds() {
        Kit.promise(4, "or a word: sort");
        for (String word : VALUES) {
            HeraldDesk desk = new HeraldDesk();
            Kit.due("pack with " + word, Kit.pack(desk, 0, "rule 0 for lion:" + word + ";"), 1);
            Kit.refusedPack("rule 0 for lion:|" + word + "s;", "rule 0 for |" + word + ":1;");
        }
    }

    private static void commonBodies() {
        Kit.promise(8, "RULE 0 of 0: sort * (sort = below)");
        String[] tinctures = {"ermine", "or", "gules"};
        String[] others = {"vair", "argent", "azure"};
        for (int below = 0; below < 3; below++) {
            for (int sort = 0; sort < 3; sort++) {
                judged(tinctures[below] + ", a rose " + others[sort], 0, sort == below ? sort : 0);
                judged("paly or and vert, a fess " + tinctures[below] + " charged with a rose " + others[sort], 0, sort == below ? sort : 0);
            }
        }
        Kit.promise(8, "RULE 1 of 2: number > 3");
        for (int n = 1; n <= 6; n++) {
            judged("or, " + Kit.NUMBERS[n - 1] + " " + Kit.named(29, n) + " or", 1, n > 3 ? 1 : 0);
        }
        Kit.promise(8, "RULE 2 of 0: 0, of 15: below < 1");
        judged("ermine, within a bordure gules", 2, 1);
        judged("or, within a bordure gules", 2, 0);
        judged("gules, within a bordure gules", 2, 0);
        judged("paly gules and or, within a bordure gules", 2, 1);
        judged("paly gules and vert, within a bordure gules", 2, 0);
        judged("ermine, a fess or charged with a rose or, a rose or, a chief or, for difference a rose or", 2, 0);
        Kit.promise(8, "RULE 3 of 0: 1, of 1: next + 1");
        judged("or, a fess or", 3, 2);
        judged("or, a rose or", 3, 1);
        judged("or, for difference a label or", 3, 1);
        judged("or, within a bordure or", 3, 2);
        judged(FULL, 3, 2 + 1 + 1 + 2 + 1 + 2 + 1);
    }

    private static void judged(String text, int rule, int want) {
        HeraldDesk desk = new HeraldDesk();
        Kit.due(text + " by rule " + rule, desk.judge(Kit.read(desk, text), rule, 0), want);
    }

    /** A body for each kind in turn: it is taken for that kind and for all whose family it is, unless a nearer one stands between. */
    private static void families() {
        Kit.promise(10, "KINDS, each of a FAMILY, which are KINDS, too");
        String[] chains = {"part", "ordinary part", "charge part", "beast charge part", "bird charge part", "plant charge part", "thing charge part"};
        for (int family = 0; family < 31; family++) {
            HeraldDesk desk = new HeraldDesk();
            Kit.pack(desk, 3, "rule 1 for " + Kit.KINDS[family] + ":1;");
            for (int kind = 0; kind < 31; kind++) {
                int above = kind <= 6 ? 0 : kind <= 15 ? 1 : kind <= 18 ? 3 : kind <= 20 ? 4 : kind <= 23 ? 5 : 6;
                String chain = kind <= 6 ? chains[kind] : Kit.KINDS[kind] + " " + chains[above];
                int want = NONE;
                for (String name : chain.split(" ")) {
                    boolean own = name.equals(Kit.KINDS[family]);
                    want = want != NONE ? want : own ? family + 32 : name.equals("charge") ? 2 : NONE;
                }
                Kit.due("chosen for " + chain + " with " + Kit.KINDS[family], desk.chosen(kind, 1, 3), want);
            }
        }
    }

    private static void judging() {
        noneToJudge();
        noneSuchParts();
        noBody();
        ownAhead();
        sums();
    }

    private static void noneToJudge() {
        Kit.promise(8, "0 if there is none such.");
        HeraldDesk desk = new HeraldDesk();
        Kit.read(desk, "or, a fess or");
        Kit.due("rule 3, office 3", desk.judge(0, 3, 3), 2);
        for (int none : new int[] {-1, 4, 5, MIN, MAX}) {
            Kit.due("judge(" + none + ", 3, 0)", desk.judge(none, 3, 0), 0);
            Kit.due("judge(0, " + none + ", 0)", desk.judge(0, none, 0), 0);
            Kit.due("judge(0, 3, " + none + ")", desk.judge(0, 3, none), 0);
        }
        Kit.due("judge(1, 3, 0)", desk.judge(1, 3, 0), 0);
    }

    private static void noneSuchParts() {
        Kit.promise(9, "PART p's number alone; likewise.");
        HeraldDesk desk = new HeraldDesk();
        Kit.read(desk, FULL);
        Kit.read(desk, "or");
        int[] want = {2, 1, 1, 2, 1, 2, 1};
        for (int p = 0; p < 7; p++) {
            Kit.due("part " + p, desk.part(0, p, 3, 0), want[p]);
        }
        for (int none : new int[] {-1, 7, 8, MIN, MAX}) {
            Kit.due("part(0, " + none + ", 3, 0)", desk.part(0, none, 3, 0), 0);
            Kit.due("part(" + none + ", 0, 3, 0)", desk.part(none, 0, 3, 0), 0);
            Kit.due("part(0, 0, " + none + ", 0)", desk.part(0, 0, none, 0), 0);
            Kit.due("part(0, 0, 3, " + none + ")", desk.part(0, 0, 3, none), 0);
        }
        Kit.due("part(0, 0, 4, 0)", desk.part(0, 0, 4, 0), 0);
        Kit.due("part(0, 0, 3, 4)", desk.part(0, 0, 3, 4), 0);
        Kit.due("part(2, 0, 3, 0)", desk.part(2, 0, 3, 0), 0);
        Kit.due("a shield without parts", desk.part(1, 0, 3, 0), 0);
    }

    private static void noBody() {
        Kit.promise(9, "A PART without any BODY has 0.");
        HeraldDesk desk = new HeraldDesk();
        Kit.read(desk, "or, a fess or, a chief or, within a bordure or");
        for (int p = 0; p < 3; p++) {
            Kit.due("part " + p + " by rule 1", desk.part(0, p, 1, 0), 0);
            Kit.due("begun", desk.ran(), 0);
        }
        Kit.due("judge by rule 1", desk.judge(0, 1, 0), 0);
        Kit.due("begun", desk.ran(), 0);
        Kit.due("chosen", desk.chosen(9, 1, 0), NONE);
    }

    private static void ownAhead() {
        Kit.promise(9, "along the KIND and the FAMILIES above, at each the OFFICE's own BODY is ahead of the common one");
        HeraldDesk desk = new HeraldDesk();
        Kit.read(desk, "or, a fess or, four roses or, within a bordure or");
        Kit.pack(desk, 2, "rule 3 for part: 50; rule 1 for part: 60; rule 2 for ordinary: 70; rule 0 for part: 80;");
        Kit.due("the common one of ordinaries is nearer", desk.part(0, 0, 3, 2), 51);
        Kit.due("the own one of parts", desk.part(0, 1, 3, 2), 50);
        Kit.due("the common one of charges is nearer", desk.part(0, 1, 1, 2), 1);
        Kit.due("the own one of parts where there is no other", desk.part(0, 0, 1, 2), 60);
        Kit.due("the own one of ordinaries is nearer", desk.part(0, 0, 2, 2), 70);
        Kit.due("the common one of bordures is nearer", desk.part(0, 2, 2, 2), 0);
        Kit.due("own ahead of common", desk.part(0, 0, 0, 2), 80);
        Kit.due("not by another office", desk.part(0, 0, 0, 1), 1);
    }

    private static void sums() {
        Kit.promise(8, "A RULE's number of a SHIELD is the sum over its PARTS");
        HeraldDesk desk = new HeraldDesk();
        Kit.read(desk, "or");
        Kit.read(desk, FULL);
        Kit.pack(desk, 0, "rule 0 for part: 1; rule 2 for part: 7 - place; rule 2 for bordure: 2; rule 3 for part: 3 - place; rule 3 for ordinary: 3 - place;");
        Kit.due("without parts", desk.judge(0, 0, 0), 0);
        Kit.due("seven parts", desk.judge(1, 0, 0), 7);
        Kit.due("seven numbers", desk.judge(1, 2, 0), 7 + 6 + 5 + 4 + 3 + 2 + 1);
        Kit.due("WELL, for they make 0", desk.judge(1, 3, 0), 0);
    }

    private static void choosing() {
        Kit.promise(10, "32 more if it is the OFFICE's");
        HeraldDesk desk = new HeraldDesk();
        Kit.pack(desk, 0, "rule 0 for part:1; rule 1 for label:1;");
        Kit.due("the least kind", desk.chosen(0, 0, 0), 32);
        Kit.due("the last kind", desk.chosen(30, 1, 0), 62);
        Kit.due("by the family's", desk.chosen(30, 0, 0), 32);
        Kit.due("the common one", desk.chosen(29, 1, 0), 2);
        Kit.due("another office", desk.chosen(0, 0, 3), 0);
        Kit.promise(10, "NONE: none is, or no such KIND, RULE, OFFICE.");
        for (int kind = 0; kind < 31; kind++) {
            boolean charge = kind == 2 || kind >= 3 && kind <= 6 || kind >= 16;
            Kit.due("chosen(" + kind + ", 1, 1)", desk.chosen(kind, 1, 1), charge ? 2 : NONE);
        }
        for (int none : new int[] {-1, 31, 32, 64, MIN, MAX}) {
            Kit.due("kind " + none, desk.chosen(none, 0, 0), NONE);
        }
        for (int none : new int[] {-1, 4, 5, MIN, MAX}) {
            Kit.due("rule " + none, desk.chosen(0, none, 0), NONE);
            Kit.due("office " + none, desk.chosen(0, 0, none), NONE);
        }
    }

    private static void begun() {
        Kit.promise(11, "How many BODIES were begun by the latest judge() or part().");
        HeraldDesk desk = new HeraldDesk();
        Kit.read(desk, "or, a lion rampant or, a chief or");
        Kit.read(desk, "or");
        ran(desk, "judge", desk.judge(0, 3, 0), 3, 3);
        ran(desk, "the same again", desk.judge(0, 3, 0), 3, 3);
        ran(desk, "a part", desk.part(0, 0, 3, 0), 1, 1);
        ran(desk, "another", desk.part(0, 1, 3, 0), 2, 2);
        ran(desk, "calls between", desk.chosen(0, 0, 0) + desk.look(0, 0) + desk.points(0, 2) + desk.count(0), 2, 2);
        ran(desk, "no parts", desk.judge(1, 3, 0), 0, 0);
        desk.judge(0, 3, 0);
        ran(desk, "no such shield", desk.judge(2, 3, 0), 0, 0);
        desk.judge(0, 3, 0);
        ran(desk, "no such part", desk.part(0, 2, 3, 0), 0, 0);
        desk.judge(0, 3, 0);
        ran(desk, "no body", desk.part(0, 1, 1, 0), 0, 0);
        Kit.pack(desk, 1, "rule 0 for lion: next * 0; rule 0 for beast: next = next; rule 0 for charge: 5 + next; rule 0 for chief: 0 * next + next * 0 + next;");
        ran(desk, "each next begins what is above", desk.part(0, 0, 0, 1), 0, 1 + 1 + 2 * (1 + 1));
        ran(desk, "a number that is not needed is begun, too", desk.part(0, 1, 0, 1), 1, 1 + 3);
        ran(desk, "both", desk.judge(0, 0, 1), 1, 6 + 4);
        Kit.pack(desk, 1, "rule 1 for chief: next + next;");
        ran(desk, "next without a body begins none", desk.part(0, 1, 1, 1), 0, 1);
        Kit.pack(desk, 1, "rule 3 for chief: 4; rule 3 for lion: next;");
        ran(desk, "a body that asks for no next", desk.part(0, 1, 3, 1), 4, 1);
        Kit.pack(desk, 1, "");
        Kit.due("a pack leaves it", desk.ran(), 1);
    }

    private static void ran(HeraldDesk desk, String call, int got, int want, int begun) {
        Kit.due(call, got, want);
        Kit.due("begun by " + call, desk.ran(), begun);
    }
}
