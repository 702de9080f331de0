/** Promises 3, 5, 6, 7 and 14: shields read, written, looked at and compared. */
public final class ShieldTextTest {
    private static final String FULL = "quarterly argent and sable, a fess vert charged with three mullets or, "
        + "two lions rampant azure armed gules crowned or, a chief purpure charged with a rose argent seeded or, "
        + "within a bordure ermine, for difference a label vair";

    public static void main(String[] args) {
        accepted();
        refused();
        likeOnes();
        sixty();
        looking();
        writing();
        differing();
        Kit.end();
    }

    private static void accepted() {
        String[] texts = {
            "or", "vair", "per pale or and gules", "per saltire azure and vert", "chequy ermine and vair",
            "or, a pile gules", "or, a lion rampant gules", "or, a annulet gules", "or, six lilies gules",
            "or, a eagle close sable armed or crowned gules", "or, a eagle displayed sable crowned gules",
            "or, four stags sejant gules attired vert", "or, two boars passant gules armed or",
            "or, five towers sable masoned or", "or, a chief gules charged with two billets or",
            "or, a chevron gules charged with a trefoil or, a roundel vert, a chief azure",
            "or, within a bordure gules", "or, for difference a martlet gules",
            "or, a cross or, for difference a lily or", "or, a chief or, within a bordure or", FULL,
        };
        for (String text : texts) {
            HeraldDesk desk = new HeraldDesk();
            Kit.due(text, Kit.read(desk, text), 0);
            Kit.due(text + " written", Kit.written(desk, 0), text);
        }
    }

    /** Each text is refused at the place of its bar, which is taken out. */
    private static void refused() {
        String[] texts = {
            "|", "   |", "|,", "|gold", "|Or", "|oR", "or|!", "or |or", "or ,|", "or, |,", "or,  |", "|orargent",
            "|abcdefghijklm", "or, |abcdefghijklmnop", "per |", "per |quarterly or and vert", "|pale or and vert",
            "per pale |and", "per pale or |gules", "per pale or|, gules", "per pale or and |or", "per pale or and |",
            "quarterly or and |a", "or, |", "or, |gules", "or, |seven lions", "or, a |", "or, a |bordure or", "or, a |label or",
            "or, a |lions rampant or", "or, two |lion rampant or", "or, two |lilys or", "or, two |chiefs or", "or, two |labels or",
            "or, a |part or", "or, a |ordinary or", "or, a |beast or", "or, a fess |", "or, a fess |charged", "or, a fess or |chargedwith",
            "or, a fess or charged |", "or, a fess or charged with |", "or, a fess or charged with a |fess or",
            "or, a fess or charged with |within", "or, a fess or charged with two roses or |charged with",
            "or, a fess or, a |pale or", "or, a lion |or", "or, a lion |displayed or", "or, a eagle |rampant or", "or, a eagle |sejant or", "or, a stag |close or", "or, a rose |close or",
            "or, a boar rampant |armed", "or, a lion rampant or |attired or", "or, a lion rampant or crowned or |armed or",
            "or, a lion rampant or armed or |armed or", "or, a lion rampant or armed |", "or, a lion rampant or armed |crowned",
            "or, a boar passant or |crowned or", "or, a martlet or |armed or", "or, a lion rampant or, |two roses or", "or, a lion rampant or, a |rose or",
            "or, a rose or, a |fess or", "or, a chief or, |a chief or", "or, a chief or, |two roses or", "or, a chief or, |with",
            "or, within |bordure or", "or, within a |chief or", "or, within a bordure |", "or, within a bordure or |charged with a rose or",
            "or, within a bordure or, |within a bordure or", "or, within a bordure or, |a chief or", "or, for |a", "or, for difference |label",
            "or, for difference a |lion or", "or, for difference a |labels or", "or, for difference a |tower or", "or, for difference a rose or |seeded or",
            "or, for difference a label |", "or, for difference a label or|,", "or, for difference a label or|, within a bordure or",
            "or|1", "or, |2 lions rampant or", "or|\0", "or|\t", "or|\377",
        };
        HeraldDesk full = new HeraldDesk();
        Kit.due("half a word at the end of the tape", Kit.read(full, "or,a" + " ".repeat(233) + "ben"), -2 - 237);
        for (String text : texts) {
            HeraldDesk desk = new HeraldDesk();
            int place = text.indexOf('|');
            Kit.due(text, Kit.read(desk, text.replace("|", "")), -2 - place);
            Kit.due("SHIELDS after " + text, desk.count(0), 0);
        }
    }

    private static void likeOnes() {
        HeraldDesk desk = new HeraldDesk();
        Kit.due("the first", Kit.read(desk, "or,two lions rampant gules"), 0);
        Kit.due("the second", Kit.read(desk, "or, two lions rampant gules armed or"), 1);
        Kit.due("spelled otherwise", Kit.read(desk, "  or  ,  two   lions rampant gules   "), 0);
        Kit.due("another attitude", Kit.read(desk, "or, two lions passant gules"), 2);
        Kit.due("another duty", Kit.read(desk, "or, two lions rampant gules crowned or"), 3);
        Kit.due("another duty's tincture", Kit.read(desk, "or, two lions rampant gules armed vert"), 4);
        Kit.due("on a fess", Kit.read(desk, "or, a fess vert charged with two lions rampant gules"), 5);
        Kit.due("on a chief", Kit.read(desk, "or, a chief vert charged with two lions rampant gules"), 6);
        Kit.due("the second again", Kit.read(desk, "or, two lions rampant gules armed or"), 1);
        Kit.due("SHIELDS", desk.count(0), 7);
    }

    private static void sixty() {
        HeraldDesk desk = new HeraldDesk();
        int made = 0;
        for (String first : Kit.TINCTURES) {
            for (String second : Kit.TINCTURES) {
                if (!first.equals(second) && made < 60) {
                    Kit.due("shield", Kit.read(desk, "paly " + first + " and " + second), made);
                    made++;
                }
            }
        }
        Kit.due("the 61st", Kit.read(desk, "or"), -1);
        Kit.due("the tape behind it", desk.count(2), 0);
        Kit.due("one that is there", Kit.read(desk, "paly or and argent"), 0);
        Kit.due("one that is refused", Kit.read(desk, "or or"), -5);
        Kit.due("SHIELDS", desk.count(0), 60);
        Kit.due("the last", Kit.written(desk, 59), "paly ermine and azure");
        Kit.due("none behind it", desk.write(60), -1);
    }

    private static void looking() {
        HeraldDesk desk = new HeraldDesk();
        Kit.read(desk, FULL);
        int[] want = {6, 1, 4, 7, -1, -1, -1, -1, -1, -1,
            9, 5, 1, 0, 0, 0, -1, -1, 24, 0, 3, 0, 1, 0, -1, -1, 16, 3, 2, 1, 2, 2, 2, 0, 7, 6, 1, 0, 3, 0, -1, -1,
            21, 1, 1, 0, 4, 1, 0, 0, 15, 7, 1, 0, 5, 0, -1, -1, 30, 8, 1, 0, 6, 0, -1, -1, -1, -1};
        for (int what = 0; what < want.length; what++) {
            Kit.due("look(0, " + what + ")", desk.look(0, what), want[what]);
        }
        for (int what : new int[] {-1, -8, 1000, Integer.MAX_VALUE, Integer.MIN_VALUE}) {
            Kit.due("look(0, " + what + ")", desk.look(0, what), -1);
        }
        Kit.due("look(1, 0)", desk.look(1, 0), -1);
        Kit.due("look(-1, 0)", desk.look(-1, 0), -1);
        Kit.read(desk, "barry or and vert, a eagle close gules crowned or, for difference a rose vert");
        int[] parts = {8, 0, 5, 2};
        for (int what = 0; what < 4; what++) {
            Kit.due("look(1, " + what + ")", desk.look(1, what), parts[what]);
        }
        int[] eagle = {19, 2, 1, 5, 2, 1, 0, 0, 21, 5, 1, 0, 6, 0, -1, -1, -1};
        for (int i = 0; i < eagle.length; i++) {
            Kit.due("look(1, " + (10 + i) + ")", desk.look(1, 10 + i), eagle[i]);
        }
        String[] duties = {"a boar passant or armed vert", "a stag passant or attired vert", "a lion passant or crowned vert", "a rose or seeded vert", "a tower or masoned vert"};
        for (String charge : duties) {
            int k = Kit.read(desk, "or, " + charge);
            Kit.due("how many duties of " + charge, desk.look(k, 15), 1);
            Kit.due("the first of " + charge, desk.look(k, 16), 5);
            Kit.due("the last of " + charge, desk.look(k, 17), 5);
        }
        String[] words = {"per pale", "per fess", "per bend", "per chevron", "per saltire", "quarterly", "paly", "barry", "bendy", "chequy"};
        for (int i = 0; i < words.length; i++) {
            int k = Kit.read(desk, words[i] + " sable and or");
            Kit.due("look at " + words[i], desk.look(k, 0), i + 1);
            Kit.due("its second", desk.look(k, 2), 0);
        }
    }

    private static void writing() {
        HeraldDesk desk = new HeraldDesk();
        Kit.due("no octet yet", desk.octet(0), -1);
        Kit.read(desk, "or,a fess gules,a rose or");
        Kit.due("written", Kit.written(desk, 0), "or, a fess gules, a rose or");
        Kit.due("write(1)", desk.write(1), -1);
        Kit.due("write(-1)", desk.write(-1), -1);
        Kit.due("what was written stays", desk.octet(0), (int) 'o');
        Kit.due("octet(-1)", desk.octet(-1), -1);
        Kit.due("octet(max)", desk.octet(Integer.MAX_VALUE), -1);
        Kit.read(desk, "vair");
        Kit.due("a shorter one", Kit.written(desk, 1), "vair");
        String longest = "quarterly argent and purpure,a chevron purpure charged with three crescents argent,"
            + "five lions rampant gules armed argent crowned argent,a chief purpure charged with three roses ermine,"
            + "within a bordure ermine,for difference a label argent";
        Kit.due("its length", longest.length() <= 240, true);
        Kit.due("is too long when written", longest.length() + 5 > 240, true);
        Kit.due("as long as the tape", Kit.read(desk, longest + " ".repeat(240 - longest.length())), 2);
        Kit.due("with its blanks", Kit.written(desk, 2), longest.replace(",", ", "));
    }

    private static void differing() {
        HeraldDesk desk = new HeraldDesk();
        Kit.read(desk, FULL);
        Kit.read(desk, "or");
        Kit.read(desk, "per pale argent and sable, a fess vert charged with three mullets or");
        Kit.read(desk, "or, a lion rampant gules");
        Kit.read(desk, "or, a lion rampant gules armed azure");
        Kit.read(desk, "or, a chief azure charged with a rose gules seeded or");
        Kit.read(desk, "or, a chief azure charged with a rose gules seeded vert");
        Kit.read(desk, "or, a fess gules, for difference a rose gules");
        int[][] rows = {{0, 0, 0}, {0, 1, 8}, {1, 0, 8}, {0, 2, 6}, {1, 2, 3}, {1, 3, 1}, {3, 4, 1}, {5, 6, 1}, {1, 5, 2}, {3, 7, 3}, {7, 7, 0}};
        for (int[] row : rows) {
            Kit.due("differ(" + row[0] + ", " + row[1] + ")", desk.differ(row[0], row[1]), row[2]);
        }
        Kit.due("differ(0, 8)", desk.differ(0, 8), -1);
        Kit.due("differ(8, 0)", desk.differ(8, 0), -1);
        Kit.due("differ(-1, 0)", desk.differ(-1, 0), -1);
        Kit.due("differ(0, -1)", desk.differ(0, -1), -1);
    }
}
