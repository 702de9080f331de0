/** Promises 3, 5, 6, 7 and 14 at their edges: each sentence about arms and their text that names one. */
public final class TextEdgesTest {
    private static final int NONE = HeraldDesk.NONE;
    private static final int MIN = Integer.MIN_VALUE;
    private static final int MAX = Integer.MAX_VALUE;
    private static final String[] ATTITUDES = {"rampant", "passant", "sejant", "displayed", "close"};
    private static final String[] DUTIES = {"armed", "attired", "crowned", "seeded", "masoned"};
    /** 240 bytes, and five commas without a blank behind them. */
    private static final String LONGEST = "quarterly sable and azure,a bend or charged with two lions rampant vair armed gules crowned gules,two mullets or,"
        + "a chief argent charged with five lions rampant ermine armed or crowned ermine,within a bordure gules,for difference a rose vert";

    public static void main(String[] args) {
        reading();
        vocabulary();
        order();
        bytesAndPlaces();
        writing();
        looking();
        differing();
        Kit.end();
    }

    private static void reading() {
        firstBytesAlone();
        emptyThen();
        fromZeroOn();
        likeOnes();
        placeZeroAndTheLast();
        notSoMany();
        belowZero();
        emptyText();
        sixtyShields();
    }

    private static void firstBytesAlone() {
        Kit.promise(3, "The first n bytes of the tape");
        HeraldDesk desk = new HeraldDesk();
        Kit.feed(desk, "or, a fess gules!!!!");
        Kit.due("two of 20", desk.read(2), 0);
        Kit.feed(desk, "or, a fess gules!!!!");
        Kit.due("three of 20", desk.read(3), -2 - 3);
        Kit.feed(desk, "or, a fess gules!!!!");
        Kit.due("16 of 20", desk.read(16), 1);
        Kit.feed(desk, "or, a fess gules!!!!");
        Kit.due("all 20", desk.read(20), -2 - 16);
        Kit.feed(desk, "ermine  ".repeat(30));
        Kit.due("6 of 240", desk.read(6), 2);
    }

    private static void emptyThen() {
        Kit.promise(3, "(empty then)");
        HeraldDesk desk = new HeraldDesk();
        Kit.feed(desk, "or, a fess gules and much more");
        Kit.due("read(2)", desk.read(2), 0);
        Kit.due("the tape", desk.count(2), 0);
        Kit.due("read(1)", desk.read(1), NONE);
        Kit.feed(desk, "or, a fess gules and much more");
        Kit.due("refused", desk.read(30), -2 - 17);
        Kit.due("the tape", desk.count(2), 0);
        Kit.feed(desk, "or, a fess gules and much more");
        Kit.due("read(0)", desk.read(0), -2);
        Kit.due("the tape", desk.count(2), 0);
        Kit.due("what is read next stands at its start", Kit.read(desk, "vert"), 1);
    }

    private static void fromZeroOn() {
        Kit.promise(3, "its number, from 0 on");
        HeraldDesk desk = new HeraldDesk();
        for (int i = 0; i < 9; i++) {
            Kit.due("read " + Kit.TINCTURES[i], Kit.read(desk, Kit.TINCTURES[i]), i);
            Kit.due("a refused one takes no number", Kit.read(desk, "gold"), -2);
        }
    }

    private static void likeOnes() {
        Kit.promise(3, "(the same as before if a like one is there)");
        String[] texts = {"or", "argent", "per pale or and argent", "per fess or and argent", "per pale or and gules", "per pale argent and or",
            "or, a fess gules", "or, a pale gules", "or, a fess vert", "or, a rose gules", "or, two roses gules", "or, a lily gules", "or, a rose gules seeded or",
            "or, a rose gules seeded vert", "or, a lion rampant gules", "or, a lion sejant gules", "or, a lion rampant gules armed or", "or, a lion rampant gules crowned or",
            "or, a lion rampant gules armed or crowned or", "or, a fess gules charged with a rose gules", "or, a chief gules", "or, a chief gules charged with a rose gules",
            "or, within a bordure gules", "or, for difference a rose gules", "or, for difference a lily gules"};
        HeraldDesk desk = new HeraldDesk();
        for (int i = 0; i < texts.length; i++) {
            Kit.due("read " + texts[i], Kit.read(desk, texts[i]), i);
        }
        for (int i = texts.length - 1; i >= 0; i--) {
            Kit.due("again " + texts[i], Kit.read(desk, " " + texts[i].replace(", ", " ,").replace(" ", "  ")), i);
        }
        Kit.due("SHIELDS", desk.count(0), texts.length);
    }

    private static void placeZeroAndTheLast() {
        Kit.promise(3, "-2 less the place at which it is refused");
        HeraldDesk desk = new HeraldDesk();
        Kit.due("at 0", Kit.read(desk, "gold"), -2);
        Kit.due("at 239", Kit.read(desk, "or" + " ".repeat(237) + "a"), -2 - 239);
        Kit.due("at 240, the end of a full tape", Kit.read(desk, " ".repeat(240)), -2 - 240);
    }

    private static void notSoMany() {
        Kit.promise(3, "NONE: it has not so many");
        HeraldDesk desk = new HeraldDesk();
        for (int n : new int[] {1, 20, 240, MAX}) {
            Kit.due("read(" + n + ") of an empty tape", desk.read(n), NONE);
        }
        Kit.feed(desk, "or                  ");
        for (int n : new int[] {21, 40, 241, MAX}) {
            Kit.due("read(" + n + ") of 20 bytes", desk.read(n), NONE);
        }
        Kit.due("the tape stays", desk.count(2), 20);
        Kit.due("read(20)", desk.read(20), 0);
        Kit.feed(desk, "argent" + " ".repeat(234));
        Kit.due("read(241) of 240", desk.read(241), NONE);
        Kit.due("read(240)", desk.read(240), 1);
    }

    private static void belowZero() {
        Kit.promise(3, "n is below 0");
        HeraldDesk desk = new HeraldDesk();
        Kit.due("read(-1) of an empty tape", desk.read(-1), NONE);
        Kit.feed(desk, "or");
        for (int n : new int[] {-1, -2, MIN}) {
            Kit.due("read(" + n + ")", desk.read(n), NONE);
        }
        Kit.due("the tape stays", desk.count(2), 20);
        Kit.due("read(2)", desk.read(2), 0);
    }

    private static void emptyText() {
        Kit.promise(3, "the end: its length");
        HeraldDesk desk = new HeraldDesk();
        Kit.due("read(0) of an empty tape", desk.read(0), -2);
        Kit.feed(desk, "or");
        Kit.due("read(0) of 20 bytes", desk.read(0), -2);
        Kit.refused("|", " |", "                    |", "or,|", "or, |", "or,   |", "per|", "per |", "per pale|", "per pale or   |", "per pale or and|", "or, a|",
            "or, a fess|", "or, a fess or charged|", "or, a fess or charged with|", "or, a fess or charged with two|", "or, two|", "or, two lions|",
            "or, a lion rampant|", "or, a rose or seeded|", "or, a chief|", "or, within|", "or, within a|", "or, within a bordure|", "or, for|", "or, for difference|",
            "or, for difference a|", "or, for difference a label|");
    }

    private static void sixtyShields() {
        Kit.promise(3, "or 60 SHIELDS are there and it is none of them");
        HeraldDesk desk = Kit.deskWith(59);
        Kit.due("SHIELDS", desk.count(0), 59);
        Kit.due("the 60th", Kit.read(desk, "vair"), 59);
        Kit.due("the 61st", Kit.read(desk, "or"), NONE);
        Kit.due("the tape", desk.count(2), 0);
        Kit.due("SHIELDS", desk.count(0), 60);
        Kit.due("a like one of the first", Kit.read(desk, "quarterly or and argent"), 0);
        Kit.due("a like one of the last", Kit.read(desk, " vair "), 59);
        Kit.due("a refused one", Kit.read(desk, "vair vair"), -2 - 5);
        Kit.due("an empty one", desk.read(0), -2);
        Kit.due("no number 60", desk.look(60, 1), NONE);
    }

    private static void vocabulary() {
        tinctures();
        partings();
        secondTincture();
        numbers();
        oneSMore();
        ordinaries();
        chargeKinds();
        markNames();
        attitudes();
        duties();
        dutiesInOrder();
    }

    private static void tinctures() {
        Kit.promise(3, "TINCTURES: 0 or, 1 argent (METALS), 2 gules, 3 azure, 4 sable, 5 vert, 6 purpure (COLOURS), 7 ermine, 8 vair (FURS).");
        HeraldDesk desk = new HeraldDesk();
        for (int i = 0; i < 9; i++) {
            int k = Kit.read(desk, Kit.TINCTURES[i] + ", a fess " + Kit.TINCTURES[8 - i]);
            Kit.due("the field", desk.look(k, 1), i);
            Kit.due("the fess", desk.look(k, 11), 8 - i);
        }
        Kit.refused("|o", "|ora", "|vai", "|vairs", "|gold", "|a", "|and", "or, a fess |tenny", "or, a rose |proper");
    }

    private static void partings() {
        Kit.promise(3, "PARTING: per, and 1 pale, 2 fess, 3 bend, 4 chevron, 5 saltire; or 6 quarterly, 7 paly, 8 barry, 9 bendy, 10 chequy.");
        HeraldDesk desk = new HeraldDesk();
        for (int i = 0; i < 10; i++) {
            int k = Kit.read(desk, Kit.PARTINGS[i] + " vair and or");
            Kit.due("parting", desk.look(k, 0), i + 1);
            Kit.due("written", Kit.written(desk, k), Kit.PARTINGS[i] + " vair and or");
        }
        Kit.refused("per |cross or and vert", "per |pile or and vert", "per |chief or and vert", "per |or and vert", "per |quarterly or and vert", "per |paly or and vert",
            "per |per pale or and vert", "|pale or and vert", "|saltire or and vert", "quarterly |pale or and vert", "or |and vert", "per pale |and vert", "per pale or |vert",
            "quarterly or|, vert", "quarterly or and |and", "quarterly or and vert |and or");
    }

    private static void secondTincture() {
        Kit.promise(3, "PARTING TINCTURE and TINCTURE (another one)");
        for (String first : Kit.TINCTURES) {
            for (String second : Kit.TINCTURES) {
                String text = "chequy " + first + " and " + second;
                if (first.equals(second)) {
                    Kit.refused("chequy " + first + " and |" + second);
                } else {
                    Kit.taken(text);
                }
            }
        }
    }

    private static void numbers() {
        Kit.promise(3, "CHARGES: 1 to 6 of one KIND (16 to 29)");
        for (int n = 1; n <= 6; n++) {
            HeraldDesk desk = new HeraldDesk();
            String text = Kit.NUMBERS[n - 1] + " " + Kit.named(27, n) + " or";
            int k = Kit.read(desk, "vert, a fess vert charged with " + text + ", " + text + ", a chief vert charged with " + text);
            Kit.due("on the fess", desk.look(k, 10 + 8 + 2), n);
            Kit.due("on the field", desk.look(k, 10 + 16 + 2), n);
            Kit.due("on the chief", desk.look(k, 10 + 32 + 2), n);
        }
        Kit.refused("or, |seven roses or", "or, |one rose or", "or, |zero roses or", "or, |an annulet or", "or, |roses or", "or, |7 roses or", "or, |1 rose or",
            "or, a fess or charged with |seven roses or", "or, a fess or charged with |roses or", "or, a chief or charged with |one rose or");
    }

    private static void oneSMore() {
        Kit.promise(3, "behind another one than a the NAME has an s more (lilies)");
        for (int kind = 16; kind <= 29; kind++) {
            String rest = Kit.attitude(kind) + " or";
            for (int n = 1; n <= 6; n++) {
                String number = Kit.NUMBERS[n - 1] + " ";
                Kit.taken("or, " + number + Kit.named(kind, n) + rest, "or, a fess or charged with " + number + Kit.named(kind, n) + rest);
                String wrong = number + "|" + Kit.named(kind, n == 1 ? 2 : 1) + rest;
                Kit.refused("or, " + wrong, "or, a fess or charged with " + wrong, "or, a chief or charged with " + wrong);
            }
        }
        Kit.refused("or, two |lilys or", "or, two |liliess or", "or, two |lionss rampant or", "or, two |fesss or", "or, two |fess or", "or, two |chief or");
    }

    private static void ordinaries() {
        Kit.promise(3, "the ORDINARY (8 to 14)");
        for (int kind = 0; kind <= 30; kind++) {
            String name = Kit.KINDS[kind];
            if (kind >= 8 && kind <= 14) {
                HeraldDesk desk = new HeraldDesk();
                int k = Kit.read(desk, "or, a " + name + " vert charged with a rose or, a rose or, a chief or");
                Kit.due("the kind of " + name, desk.look(k, 10), kind);
                Kit.due("its place", desk.look(k, 14), 0);
            } else if (kind < 7 || kind == 15 || kind == 30) {
                Kit.refused("or, a |" + name + " vert");
            }
        }
        Kit.taken("or, a chief vert");
        Kit.refused("or, a chief vert, |a fess vert", "or, two |pales vert", "or, a |pales vert", "or, a fess vert, a |pale vert");
    }

    private static void chargeKinds() {
        Kit.promise(3, "of one KIND (16 to 29)");
        for (int kind = 0; kind <= 30; kind++) {
            String name = Kit.KINDS[kind] + Kit.attitude(kind) + " vert";
            if (kind >= 16 && kind <= 29) {
                HeraldDesk desk = new HeraldDesk();
                int k = Kit.read(desk, "or, a " + name);
                Kit.due("the kind of " + name, desk.look(k, 10), kind);
                Kit.due("its place", desk.look(k, 14), 2);
                Kit.taken("or, a fess or charged with a " + name, "or, a chief or charged with a " + name);
            } else {
                Kit.refused("or, a fess or charged with a |" + name, "or, a chief or charged with a |" + name, "or, two |" + Kit.KINDS[kind] + "s vert");
            }
        }
    }

    private static void markNames() {
        Kit.promise(3, "MARKNAME: label, crescent, mullet, martlet, annulet, lily, rose.");
        int[] kinds = {30, 25, 24, 20, 26, 22, 21};
        for (int kind = 0; kind <= 30; kind++) {
            boolean mark = false;
            for (int known : kinds) {
                mark |= kind == known;
            }
            if (mark) {
                HeraldDesk desk = new HeraldDesk();
                int k = Kit.read(desk, "or, for difference a " + Kit.KINDS[kind] + " vert");
                Kit.due("the kind of " + Kit.KINDS[kind], desk.look(k, 10), kind);
                Kit.due("its place", desk.look(k, 14), 6);
            } else {
                Kit.refused("or, for difference a |" + Kit.KINDS[kind] + " vert");
            }
        }
        Kit.refused("or, for difference a |labels or", "or, for difference a |lilies or", "or, for difference |two labels or", "or, for difference a rose or |seeded or",
            "or, for |a label or", "or, |difference a label or");
    }

    private static void attitudes() {
        Kit.promise(3, "1 rampant, 2 passant, 3 sejant, of 16 to 18 (one must be told); 4 displayed, 5 close, of 19 (one must be told); others have none (0)");
        for (int kind = 16; kind <= 29; kind++) {
            String name = "or, a " + Kit.KINDS[kind] + " ";
            int from = kind <= 18 ? 1 : kind == 19 ? 4 : 6;
            int to = kind <= 18 ? 3 : kind == 19 ? 5 : 0;
            for (int attitude = 1; attitude <= 5; attitude++) {
                String told = ATTITUDES[attitude - 1];
                if (attitude >= from && attitude <= to) {
                    HeraldDesk desk = new HeraldDesk();
                    Kit.due(name + told, desk.look(Kit.read(desk, name + told + " vert"), 13), attitude);
                    Kit.refused(name + told + " |" + told + " vert", name + told + "|, a chief or");
                } else {
                    Kit.refused(name + "|" + told + " vert");
                }
            }
            if (kind <= 19) {
                Kit.refused(name + "|vert", name + "|");
            } else {
                HeraldDesk desk = new HeraldDesk();
                Kit.due(name, desk.look(Kit.read(desk, name + "vert"), 13), 0);
            }
        }
    }

    private static boolean hasDuty(int kind, int duty) {
        String kinds = new String[] {" 16 17 19 ", " 18 ", " 16 19 ", " 21 ", " 29 "}[duty];
        return kinds.contains(" " + kind + " ");
    }

    private static void duties() {
        Kit.promise(3, "DUTIES, each with a TINCTURE: 0 armed (16, 17, 19), 1 attired (18), 2 crowned (16, 19), 3 seeded (21), 4 masoned (29).");
        for (int kind = 16; kind <= 29; kind++) {
            for (int duty = 0; duty < 5; duty++) {
                String text = "or, two " + Kit.named(kind, 2) + Kit.attitude(kind) + " vert ";
                if (hasDuty(kind, duty)) {
                    HeraldDesk desk = new HeraldDesk();
                    int k = Kit.read(desk, text + DUTIES[duty] + " vair");
                    Kit.due(text + DUTIES[duty], desk.look(k, 16), 8);
                    Kit.due("the last of one", desk.look(k, 17), 8);
                    Kit.refused(text + DUTIES[duty] + "|", text + DUTIES[duty] + " |" + DUTIES[duty], text + DUTIES[duty] + "|, a chief or");
                } else {
                    Kit.refused(text + "|" + DUTIES[duty] + " vair");
                }
            }
        }
        Kit.refused("or, a lion rampant |armed or vert", "or |armed vert", "or, a fess or |armed vert", "or, a chief or |masoned vert", "or, within a bordure or |seeded vert");
    }

    private static void dutiesInOrder() {
        Kit.promise(3, "DUTIES: each by its word and its TINCTURE, in their order, each at most once.");
        for (String beast : new String[] {"or, a lion rampant or ", "or, three eagles close or ", "or, a fess or charged with a lion sejant or "}) {
            Kit.taken(beast, beast + "armed or", beast + "crowned or", beast + "armed or crowned or");
            Kit.refused(beast + "crowned or |armed or", beast + "armed or |armed or", beast + "crowned or |crowned or", beast + "armed or crowned or |armed or",
                beast + "armed or crowned or |crowned or");
        }
        Kit.refused("or, a stag passant or attired or |attired or", "or, a rose or seeded or |seeded vert", "or, a tower or masoned vert |masoned or",
            "or, a boar passant or armed or |crowned or");
    }

    private static void order() {
        partsThereOrNot();
        partsInOrder();
        behindAllParts();
        noWordLeftOut();
        onAlone();
    }

    /** Each of the 72 sets of parts. */
    private static void partsThereOrNot() {
        Kit.promise(3, "PARTS, in this order, each there or not");
        String[] ordinary = {"", ", a fess vert", ", a fess vert charged with a rose or"};
        String[] charges = {"", ", two roses vert"};
        String[] chief = {"", ", a chief vert", ", a chief vert charged with a rose or"};
        String[] bordure = {"", ", within a bordure vert"};
        String[] mark = {"", ", for difference a rose vert"};
        for (int set = 0; set < 72; set++) {
            int[] told = {set % 3, set / 3 % 2, set / 6 % 3, set / 18 % 2, set / 36};
            String text = "or" + ordinary[told[0]] + charges[told[1]] + chief[told[2]] + bordure[told[3]] + mark[told[4]];
            HeraldDesk desk = new HeraldDesk();
            Kit.due(text, Kit.read(desk, text), 0);
            Kit.due("PARTS of " + text, desk.look(0, 3), told[0] + told[1] + told[2] + told[3] + told[4]);
            Kit.due("written", Kit.written(desk, 0), text);
        }
    }

    private static void partsInOrder() {
        Kit.promise(3, "SHIELD: FIELD [, ORDINARY] [, CHARGES] [, CHIEF] [, within a bordure TINCTURE] [, for difference a MARKNAME TINCTURE]");
        String[] afterOrdinary = {"a |fess or"};
        String[] afterCharges = {"a |fess or", "|two roses or", "a |rose or"};
        String[] afterChief = {"|a fess or", "|two roses or", "|a rose or", "|a chief or"};
        String[] afterBordure = {"|a fess or", "|two roses or", "|a rose or", "|a chief or", "|within a bordure or"};
        for (String later : afterOrdinary) {
            Kit.refused("or, a pale or, " + later, "or, a pale or charged with two roses or, " + later);
        }
        for (String later : afterCharges) {
            Kit.refused("or, six lilies or, " + later, "or, a pale or, a lily or, " + later);
        }
        for (String later : afterChief) {
            Kit.refused("or, a chief or, " + later, "or, a chief or charged with a rose or, " + later, "or, a lily or, a chief or, " + later);
        }
        for (String later : afterBordure) {
            Kit.refused("or, within a bordure or, " + later, "or, a chief or, within a bordure or, " + later);
        }
        for (String later : new String[] {"", ",", " a fess or", " within a bordure or", " for difference a label or"}) {
            Kit.refused("or, for difference a label or|," + later, "or, within a bordure or, for difference a label or |," + later);
        }
        Kit.refused("|, or", "|,", "or,|, a fess or", "or |a", "or |or", "or, |or", "or, |per pale or and vert", "or, within |bordure or", "or, |bordure or",
            "or, within a |fess or", "or, a fess|, or", "or, a |bordure or");
    }

    private static void behindAllParts() {
        Kit.promise(3, "at which no SHIELD could go on");
        String all = "or, a fess or charged with a rose or, a rose or, a chief or charged with a rose or, within a bordure or, for difference a rose or";
        Kit.taken(all, all + "  ");
        Kit.refused(all + "|,", all + " |or", all + " |a rose or", all + "|!", all + "|, for difference a rose or", all + " |charged with a rose or", all + " |seeded or", all + "   |or  ");
    }

    private static void noWordLeftOut() {
        Kit.promise(3, "THE TEXT: words of small letters");
        Kit.refused("or, |fess or", "or, a |or", "or, |lion rampant or", "or, two |or", "or, two |rampant or", "or, a |rampant or", "or, a lion |or", "or, a fess or |with a rose or",
            "or, a fess or charged |a rose or", "or, a fess or charged with |rose or", "or, a fess or charged with a |or", "or, a fess or charged with |or", "or, |chief or", "or, a chief |charged with a rose or",
            "or, within |or", "or, within a |or", "or, within |bordure or", "or, a |bordure or", "or, for |or", "or, for difference |or", "or, for difference a |or", "or, for difference |rose or",
            "or, for |a rose or", "or, |difference a rose or", "per |or and vert", "|fess or and vert", "per fess |and vert", "per fess or |vert", "per fess or and|", "or |a fess or", "or |two roses or",
            "or, a fess or |two roses or", "or, a rose or |within a bordure or", "or, a rose or |for difference a rose or", "or |a chief or");
    }

    private static void onAlone() {
        Kit.promise(3, "ON: charged with CHARGES.");
        Kit.taken("or, a fess or charged with a rose or", "or, a chief or charged with six lions rampant or armed or crowned or");
        Kit.refused("or |charged with a rose or", "or, a rose or |charged with a rose or", "or, within a bordure or |charged with a rose or",
            "or, for difference a rose or |charged with a rose or", "or, a fess or charged with a rose or |charged with a rose or",
            "or, a chief or charged with a rose or |charged with a rose or", "or, a fess or, |charged with a rose or", "or, a fess or |with a rose or",
            "or, a fess or charged |a rose or", "or, a fess |charged with a rose or", "or, a fess or charged with |, a rose or");
    }

    private static void bytesAndPlaces() {
        otherBytes();
        blanksBetween();
        wordsTooLong();
        firstBytesOfTokens();
        fullTape();
    }

    /** Each byte behind a field, ahead of it, and inside of a word. */
    private static void otherBytes() {
        Kit.promise(3, "a word that is too long, another byte: there");
        for (int b = 0; b < 256; b++) {
            boolean letter = b >= 'a' && b <= 'z';
            char c = (char) b;
            if (!letter && c != ',' && c != ' ' && c != '|') {
                Kit.refused("or|" + c, "or |" + c + ", a fess or", "or, a fess |" + c + "or", "|" + c + "or", "or,|" + c + "a fess or");
                HeraldDesk desk = new HeraldDesk();
                Kit.due("inside of a word", Kit.read(desk, "gu" + c + "les"), -2);
                Kit.due("behind what is refused", Kit.read(desk, "or gules" + c), -2 - 3);
            }
        }
        HeraldDesk desk = new HeraldDesk();
        Kit.due("the byte 124", Kit.read(desk, "or" + (char) 124), -2 - 2);
        Kit.due("a letter more", Kit.read(desk, "ors"), -2);
        Kit.due("a comma", Kit.read(desk, "or,"), -2 - 3);
        Kit.due("a blank", Kit.read(desk, "or "), 0);
    }

    private static void blanksBetween() {
        Kit.promise(3, "blanks (32) may stand between, and must between two words");
        Kit.taken("or,a fess or", "or , a fess or", "or  ,  a  fess  or", " or", "or ", "   or , for  difference  a  label  or   ", "per pale or and vert,within a bordure or");
        Kit.refused("|orand", "per |paleor and vert", "per pale |orand vert", "or,|afess or", "or, a |fessor", "or, two |lionsrampant or", "or,|withina bordure or",
            "or|\tand", "or,|\na fess or", "or|\037", "or|!", "|o r", "or, a |fe ss or", "or, a rose |gu les");
    }

    private static void wordsTooLong() {
        Kit.promise(3, "words of small letters, 12 at most");
        String letters = "abcdefghijklmnopqrstuvwxyz".repeat(10);
        for (int length : new int[] {11, 12, 13, 14, 26, 200}) {
            String word = letters.substring(0, length);
            Kit.refused("|" + word, "or |" + word, "or, |" + word + ", a fess or", "or, a |" + word, "or, a rose |" + word);
        }
        Kit.refused("|orororororororor", "or, a |fessfessfessfess or", "|" + letters.substring(0, 240));
    }

    private static void firstBytesOfTokens() {
        Kit.promise(3, "it is refused at the least place (a word's or comma's first byte");
        Kit.refused("  |gold  ", "or   |gold", "or  |or,", "per   |,", "  |,  or", "or, a   |,", "or, for difference a label or   |,  ", "|gold gold gold",
            "or, |gold, gold", "gules|!", "or, a fess |fess fess !");
    }

    private static void fullTape() {
        Kit.promise(3, "A TEXT of at most 240 bytes is read so");
        Kit.due("its length", LONGEST.length(), 240);
        Kit.taken(LONGEST, " ".repeat(238) + "or", "or" + " ".repeat(238), "or" + " ".repeat(120) + "," + " ".repeat(108) + "a fess or");
        HeraldDesk desk = new HeraldDesk();
        Kit.feed(desk, LONGEST);
        Kit.due("but for its last byte", desk.read(239), -2 - 236);
        Kit.feed(desk, LONGEST);
        Kit.due("but for its last word", desk.read(236), -2 - 236);
        Kit.feed(desk, LONGEST);
        Kit.due("whole", desk.read(240), 0);
        Kit.refused("or, a" + " ".repeat(232) + "|fes", "or, a" + " ".repeat(231) + "fess|", "paly or and" + " ".repeat(226) + "|ver", " ".repeat(239) + "|o", "or" + " ".repeat(237) + "|o");
    }

    private static void writing() {
        oneSpelling();
        longestWritten();
        noneWritten();
        octets();
    }

    private static void oneSpelling() {
        Kit.promise(5, "WRITTEN it has one blank between words and behind commas, none ahead of commas.");
        HeraldDesk desk = new HeraldDesk();
        Kit.due("the shortest", desk.write(Kit.read(desk, "  or  ")), 2);
        int k = Kit.read(desk, "  per   pale  or   and  vert ,a   fess  or  ,   within  a  bordure  vair,for difference a lily or  ");
        Kit.due("a loose one", Kit.written(desk, k), "per pale or and vert, a fess or, within a bordure vair, for difference a lily or");
        for (int kind = 16; kind <= 29; kind++) {
            for (int n = 1; n <= 6; n++) {
                String text = "vair, " + Kit.NUMBERS[n - 1] + " " + Kit.named(kind, n) + Kit.attitude(kind) + " argent";
                HeraldDesk other = new HeraldDesk();
                Kit.due("a charge", Kit.written(other, Kit.read(other, text.replace(", ", ","))), text);
            }
        }
    }

    private static void longestWritten() {
        Kit.promise(5, "SHIELD k is WRITTEN: how many bytes");
        HeraldDesk desk = new HeraldDesk();
        Kit.due("the longest, five blanks longer than the tape", desk.write(Kit.read(desk, LONGEST)), 245);
        Kit.due("its bytes", Kit.written(desk, 0), LONGEST.replace(",", ", "));
        Kit.due("the last", desk.octet(244), (int) 't');
        Kit.due("none behind it", desk.octet(245), NONE);
    }

    private static void noneWritten() {
        Kit.promise(5, "NONE: there is none such (what was written stays)");
        HeraldDesk desk = new HeraldDesk();
        for (int k : new int[] {0, -1, MIN, MAX}) {
            Kit.due("write(" + k + ") of a new desk", desk.write(k), NONE);
        }
        Kit.due("nothing was written", desk.octet(0), NONE);
        Kit.read(desk, "or");
        Kit.read(desk, "vair");
        Kit.due("write(1)", desk.write(1), 4);
        for (int k : new int[] {2, -1, 60, MIN, MAX}) {
            Kit.due("write(" + k + ")", desk.write(k), NONE);
            Kit.due("the first byte stays", desk.octet(0), (int) 'v');
            Kit.due("the last byte stays", desk.octet(3), (int) 'r');
        }
        Kit.read(desk, "azure");
        Kit.due("what is read isn't written", desk.octet(0), (int) 'v');
    }

    private static void octets() {
        Kit.promise(6, "Byte i of what was written; NONE if there is none.");
        HeraldDesk desk = new HeraldDesk();
        Kit.read(desk, "quarterly argent and sable");
        Kit.read(desk, "or");
        Kit.due("octet(0) ahead of any writing", desk.octet(0), NONE);
        desk.write(0);
        for (int i : new int[] {-1, -2, 26, 27, 240, 256, MIN, MAX}) {
            Kit.due("octet(" + i + ") of 26", desk.octet(i), NONE);
        }
        Kit.due("octet(0)", desk.octet(0), (int) 'q');
        Kit.due("octet(9)", desk.octet(9), 32);
        Kit.due("octet(25)", desk.octet(25), (int) 'e');
        desk.write(1);
        Kit.due("octet(0) of a shorter one", desk.octet(0), (int) 'o');
        Kit.due("octet(1)", desk.octet(1), (int) 'r');
        for (int i : new int[] {2, 3, 25}) {
            Kit.due("octet(" + i + ") of 2", desk.octet(i), NONE);
        }
    }

    private static void looking() {
        plainField();
        noParts();
        everyPart();
        dutiesLookedAt();
        lookedAtOthers();
    }

    private static void plainField() {
        Kit.promise(7, "what 0 PARTING (0 plain), 1, 2 its TINCTURES (2: NONE if it is plain)");
        HeraldDesk desk = new HeraldDesk();
        Kit.read(desk, "vair");
        Kit.read(desk, "chequy vair and or");
        int[][] want = {{0, 8, NONE}, {10, 8, 0}};
        for (int k = 0; k < 2; k++) {
            for (int what = 0; what < 3; what++) {
                Kit.due("look(" + k + ", " + what + ")", desk.look(k, what), want[k][what]);
            }
        }
    }

    private static void noParts() {
        Kit.promise(7, "3 how many PARTS");
        HeraldDesk desk = new HeraldDesk();
        Kit.due("none", desk.look(Kit.read(desk, "or"), 3), 0);
        Kit.due("all seven", desk.look(Kit.read(desk, LONGEST), 3), 7);
        for (int i = 0; i < 8; i++) {
            Kit.due("look(0, " + (10 + i) + ")", desk.look(0, 10 + i), NONE);
        }
    }

    private static void everyPart() {
        Kit.promise(7, "of PART p, in their order (10 + 8 p + i): i 0 its KIND, 1 TINCTURE, 2 number, 3 ATTITUDE, 4 place, 5 how many DUTIES");
        HeraldDesk desk = new HeraldDesk();
        Kit.read(desk, LONGEST);
        int[][] want = {{10, 0, 1, 0, 0, 0}, {16, 8, 2, 1, 1, 2}, {24, 0, 2, 0, 2, 0}, {7, 1, 1, 0, 3, 0}, {16, 7, 5, 1, 4, 2}, {15, 2, 1, 0, 5, 0}, {21, 5, 1, 0, 6, 0}};
        for (int p = 0; p < 7; p++) {
            for (int i = 0; i < 6; i++) {
                Kit.due("part " + p + ", " + i, desk.look(0, 10 + 8 * p + i), want[p][i]);
            }
        }
        int k = Kit.read(desk, "or, within a bordure vair, for difference a lily gules");
        int[] few = {15, 8, 1, 0, 5, 0, NONE, NONE, 22, 2, 1, 0, 6, 0, NONE, NONE, NONE};
        for (int i = 0; i < few.length; i++) {
            Kit.due("without the first five places, " + i, desk.look(k, 10 + i), few[i]);
        }
    }

    private static void dutiesLookedAt() {
        Kit.promise(7, "6 the TINCTURE of the first of these (NONE), 7 that of the last");
        HeraldDesk desk = new HeraldDesk();
        String[] texts = {"or, a lion rampant or", "or, a lion rampant or armed vert", "or, a lion rampant or crowned vair", "or, a lion rampant or armed or crowned argent"};
        int[][] want = {{0, NONE, NONE}, {1, 5, 5}, {1, 8, 8}, {2, 0, 1}};
        for (int i = 0; i < texts.length; i++) {
            int k = Kit.read(desk, texts[i]);
            for (int j = 0; j < 3; j++) {
                Kit.due(texts[i] + " " + (15 + j), desk.look(k, 15 + j), want[i][j]);
            }
        }
    }

    private static void lookedAtOthers() {
        Kit.promise(7, "NONE for others.");
        HeraldDesk desk = new HeraldDesk();
        Kit.read(desk, "or, a fess vert");
        Kit.read(desk, LONGEST);
        for (int what : new int[] {-1, -2, -6, -7, -8, 4, 5, 6, 7, 8, 9, 18, 19, 25, 26, 66, MAX, MIN}) {
            Kit.due("look(0, " + what + ")", desk.look(0, what), NONE);
        }
        for (int what : new int[] {-1, 4, 9, 66, 67, 73, 74, 1000, MAX, MIN}) {
            Kit.due("look(1, " + what + ")", desk.look(1, what), NONE);
        }
        for (int k : new int[] {-1, 2, 60, MAX, MIN}) {
            for (int what : new int[] {0, 1, 3, 10}) {
                Kit.due("look(" + k + ", " + what + ")", desk.look(k, what), NONE);
            }
        }
    }

    private static void differing() {
        fieldIsOne();
        eachPlaceIsOne();
        inOneAlone();
        noneSuch();
    }

    private static void fieldIsOne() {
        Kit.promise(14, "PARTING and TINCTURES (one)");
        String[] others = {"per fess or and vert", "per pale vair and vert", "per pale or and vair", "barry sable and azure", "per pale vert and or", "or", "vert"};
        for (String other : others) {
            differ("per pale or and vert", other, 1);
        }
        differ("per pale or and vert", "per pale or and vert", 0);
        differ("or", "argent", 1);
    }

    private static void eachPlaceIsOne() {
        Kit.promise(14, "each place's PART that is not the same");
        String full = LONGEST.replace("five lions rampant ermine armed or crowned ermine", "five lions rampant ermine crowned ermine");
        String[] changes = {"bend or", "pale or", "a bend or", "a bend vert", "two lions", "six lions", "two lions rampant", "two boars rampant", "rampant vair", "sejant vair",
            "vair armed", "sable armed", "armed gules", "armed vert", " crowned gules", "", "two mullets", "three mullets", "mullets or", "mullets vert", "mullets or", "roundels or",
            "chief argent", "chief vert", "five lions", "four lions", "crowned ermine", "crowned vert", "bordure gules", "bordure vair", "a rose", "a lily", "rose vert", "rose vair"};
        for (int i = 0; i < changes.length; i += 2) {
            String other = full.replace(changes[i], changes[i + 1]).replace("boars rampant vair armed gules crowned gules", "boars rampant vair armed gules");
            Kit.due("a change", other.equals(full), false);
            differ(full, other, 1);
        }
        differ("or, a rose gules", "or, a rose gules seeded or", 1);
        differ("or, a rose gules seeded or", "or, a rose gules seeded vert", 1);
        differ("or, a lion rampant gules armed or", "or, a lion rampant gules crowned or", 1);
    }

    private static void inOneAlone() {
        Kit.promise(14, "(or in one alone)");
        differ("or", "or, a fess or", 1);
        differ("or", "or, a fess or charged with a rose or", 2);
        differ("or, a fess or", "or, a fess or charged with a rose or", 1);
        differ("or, a rose or", "or, a fess or charged with a rose or", 3);
        differ("or, a rose or", "or, for difference a rose or", 2);
        differ("or, a chief or", "or, within a bordure or", 2);
        differ("vair", LONGEST, 8);
        differ("or, a fess or charged with a rose or, a rose or, a chief or charged with a rose or, within a bordure or, for difference a lily or", LONGEST, 8);
    }

    private static void differ(String one, String other, int want) {
        HeraldDesk desk = new HeraldDesk();
        int k = Kit.read(desk, one);
        int q = Kit.read(desk, other);
        Kit.due(one + " differs from " + other, desk.differ(k, q), want);
        Kit.due(other + " differs from " + one, desk.differ(q, k), want);
        Kit.due("from itself", desk.differ(q, q), 0);
    }

    private static void noneSuch() {
        Kit.promise(14, "NONE: none such.");
        HeraldDesk desk = new HeraldDesk();
        Kit.read(desk, "or");
        Kit.read(desk, "vair");
        for (int none : new int[] {-1, 2, 60, MAX, MIN}) {
            Kit.due("differ(0, " + none + ")", desk.differ(0, none), NONE);
            Kit.due("differ(" + none + ", 1)", desk.differ(none, 1), NONE);
            Kit.due("differ(" + none + ", " + none + ")", desk.differ(none, none), NONE);
        }
    }
}
