/** Promises 15, 16 and 17 at their edges: each sentence about families that names one. */
public final class FamilyEdgesTest {
    private static final int NONE = HeraldDesk.NONE;
    private static final int MIN = Integer.MIN_VALUE;
    private static final int MAX = Integer.MAX_VALUE;
    private static final boolean MAN = true;
    private static final boolean WOMAN = false;

    public static void main(String[] args) {
        adding();
        marrying();
        asking();
        Kit.end();
    }

    private static int founder(HeraldDesk desk, boolean man, int shield) {
        return desk.person(man, NONE, NONE, shield);
    }

    private static int child(HeraldDesk desk, boolean man, int father, int mother) {
        return desk.person(man, father, mother, NONE);
    }

    /** A desk where 0 and 1 are married, 2 and 3 are not. */
    private static HeraldDesk deskWithCouple(int shields) {
        HeraldDesk desk = Kit.deskWith(shields);
        founder(desk, MAN, 0);
        founder(desk, WOMAN, shields - 1);
        founder(desk, MAN, 0);
        founder(desk, WOMAN, 0);
        desk.marry(0, 1);
        return desk;
    }

    private static void adding() {
        fromZeroOn();
        hundredFounders();
        hundredChildren();
        noSuchShield();
        shieldNotLookedAt();
        fatherAndMotherOrNeither();
        beforeThem();
        manAndWoman();
        married();
    }

    private static void fromZeroOn() {
        Kit.promise(15, "PERSONS are numbered from 0 on");
        HeraldDesk desk = Kit.deskWith(1);
        Kit.due("the first", founder(desk, WOMAN, 0), 0);
        Kit.due("a refused one takes no number", founder(desk, WOMAN, 1), NONE);
        Kit.due("the second", founder(desk, MAN, 0), 1);
        desk.marry(1, 0);
        Kit.due("a child", child(desk, WOMAN, 1, 0), 2);
        Kit.due("PERSONS", desk.count(1), 3);
    }

    private static void hundredFounders() {
        Kit.promise(15, "100 are there");
        HeraldDesk desk = Kit.deskWith(1);
        for (int p = 0; p < 100; p++) {
            Kit.due("founder " + p, founder(desk, p % 2 == 0, 0), p);
        }
        Kit.due("the 101st", founder(desk, MAN, 0), NONE);
        Kit.due("the 101st", founder(desk, WOMAN, 0), NONE);
        Kit.due("PERSONS", desk.count(1), 100);
        Kit.due("the last two marry", desk.marry(98, 99), true);
        Kit.due("no child of theirs", child(desk, MAN, 98, 99), NONE);
        Kit.due("no number 100", desk.family(100, 1), NONE);
        Kit.due("the last one is there", desk.family(99, 4), 98);
    }

    private static void hundredChildren() {
        Kit.promise(15, "100 at most");
        HeraldDesk desk = Kit.deskWith(1);
        founder(desk, MAN, 0);
        founder(desk, WOMAN, 0);
        desk.marry(0, 1);
        for (int p = 2; p < 100; p++) {
            Kit.due("child " + p, child(desk, MAN, 0, 1), p);
        }
        Kit.due("the 101st", child(desk, MAN, 0, 1), NONE);
        Kit.due("the 101st, a founder", founder(desk, MAN, 0), NONE);
        Kit.due("children of the father", desk.family(0, 5), 98);
        Kit.due("children of the mother", desk.family(1, 5), 98);
        Kit.due("the last son's mark", desk.family(99, 2), 97);
    }

    private static void noSuchShield() {
        Kit.promise(15, "no such SHIELD");
        HeraldDesk desk = new HeraldDesk();
        Kit.due("no shields yet", founder(desk, MAN, 0), NONE);
        desk = Kit.deskWith(2);
        for (int none : new int[] {-1, -2, 2, 60, MIN, MAX}) {
            Kit.due("shield " + none, founder(desk, MAN, none), NONE);
        }
        Kit.due("PERSONS", desk.count(1), 0);
        Kit.due("shield 1", founder(desk, MAN, 1), 0);
        Kit.due("shield 0", founder(desk, MAN, 0), 1);
        desk = Kit.deskWith(60);
        Kit.due("shield 60 of 60", founder(desk, MAN, 60), NONE);
        Kit.due("shield 59 of 60", founder(desk, MAN, 59), 0);
        Kit.due("its quartering", desk.family(0, 100), 59);
    }

    private static void shieldNotLookedAt() {
        Kit.promise(15, "with father and mother (the SHIELD isn't looked at then)");
        HeraldDesk desk = deskWithCouple(2);
        for (int shield : new int[] {NONE, 0, 1, 2, MIN, MAX}) {
            int p = desk.person(MAN, 0, 1, shield);
            Kit.due("a child with shield " + shield, p != NONE, true);
            Kit.due("its quartering", desk.family(p, 100), 0);
        }
    }

    private static void fatherAndMotherOrNeither() {
        Kit.promise(15, "with a father and a mother (who are before them, a man and a woman, married) or neither");
        HeraldDesk desk = deskWithCouple(1);
        Kit.due("a father alone", desk.person(MAN, 0, NONE, 0), NONE);
        Kit.due("a mother alone", desk.person(MAN, NONE, 1, 0), NONE);
        Kit.due("both", desk.person(MAN, 0, 1, 0), 4);
        Kit.due("neither", desk.person(MAN, NONE, NONE, 0), 5);
    }

    private static void beforeThem() {
        Kit.promise(15, "no such two");
        HeraldDesk desk = deskWithCouple(1);
        for (int none : new int[] {-2, 4, 5, 99, 100, MIN, MAX}) {
            Kit.due("father " + none, desk.person(MAN, none, 1, 0), NONE);
            Kit.due("mother " + none, desk.person(MAN, 0, none, 0), NONE);
            Kit.due("both " + none, desk.person(MAN, none, none, 0), NONE);
        }
        for (int none : new int[] {NONE, -2, 4, 99, MIN, MAX}) {
            Kit.due("a man who is not married and mother " + none, desk.person(MAN, 2, none, 0), NONE);
            Kit.due("a woman who is not married and father " + none, desk.person(MAN, none, 3, 0), NONE);
        }
        Kit.due("PERSONS", desk.count(1), 4);
        Kit.due("children", desk.family(0, 5) + desk.family(1, 5) + desk.family(2, 5) + desk.family(3, 5), 0);
    }

    private static void manAndWoman() {
        Kit.promise(15, "a man and a woman");
        HeraldDesk desk = deskWithCouple(1);
        Kit.due("the wrong way round", child(desk, MAN, 1, 0), NONE);
        Kit.due("the father twice", child(desk, MAN, 0, 0), NONE);
        Kit.due("the mother twice", child(desk, MAN, 1, 1), NONE);
        Kit.due("two men", child(desk, MAN, 0, 2), NONE);
        Kit.due("two women", child(desk, MAN, 3, 1), NONE);
    }

    private static void married() {
        Kit.promise(15, "married");
        HeraldDesk desk = deskWithCouple(1);
        Kit.due("neither is married", child(desk, MAN, 2, 3), NONE);
        Kit.due("the father is, to another", child(desk, MAN, 0, 3), NONE);
        Kit.due("the mother is, to another", child(desk, MAN, 2, 1), NONE);
        desk.marry(2, 3);
        Kit.due("both are, to others", child(desk, MAN, 0, 3), NONE);
        Kit.due("both are, to others", child(desk, MAN, 2, 1), NONE);
        Kit.due("now they are", child(desk, MAN, 2, 3), 4);
    }

    private static void marrying() {
        oneManOneWoman();
        atMostOnce();
        marriedToWhom();
    }

    private static void oneManOneWoman() {
        Kit.promise(16, "A man and a woman");
        HeraldDesk desk = Kit.deskWith(1);
        founder(desk, MAN, 0);
        founder(desk, WOMAN, 0);
        founder(desk, MAN, 0);
        founder(desk, WOMAN, 0);
        int[][] wrong = {{1, 0}, {0, 0}, {1, 1}, {0, 2}, {1, 3}, {0, 4}, {4, 1}, {-1, 1}, {0, -1}, {-1, -1}, {100, 1}, {0, 100}, {MIN, 1}, {0, MIN}, {MAX, 1}, {0, MAX}};
        for (int[] two : wrong) {
            Kit.due("marry(" + two[0] + ", " + two[1] + ")", desk.marry(two[0], two[1]), false);
        }
        for (int p = 0; p < 4; p++) {
            Kit.due("nobody is married", desk.family(p, 4), NONE);
        }
        Kit.due("marry(0, 1)", desk.marry(0, 1), true);
        Kit.due("marry(2, 3)", desk.marry(2, 3), true);
    }

    private static void atMostOnce() {
        Kit.promise(16, "neither married (each at most once)");
        HeraldDesk desk = deskWithCouple(1);
        Kit.due("the same again", desk.marry(0, 1), false);
        Kit.due("a married man", desk.marry(0, 3), false);
        Kit.due("a married woman", desk.marry(2, 1), false);
        Kit.due("the man is still with her", desk.family(0, 4), 1);
        Kit.due("the others are with nobody", desk.family(2, 4), NONE);
        Kit.due("the others are with nobody", desk.family(3, 4), NONE);
        Kit.due("the others marry", desk.marry(2, 3), true);
        Kit.due("all are married", desk.marry(0, 3), false);
        int daughter = child(desk, WOMAN, 0, 1);
        int son = child(desk, MAN, 2, 3);
        Kit.due("children marry", desk.marry(son, daughter), true);
    }

    private static void marriedToWhom() {
        Kit.promise(17, "4 the one married (NONE)");
        HeraldDesk desk = deskWithCouple(1);
        int[] want = {1, 0, NONE, NONE};
        for (int p = 0; p < 4; p++) {
            Kit.due("with " + p, desk.family(p, 4), want[p]);
        }
    }

    private static void asking() {
        heiresses();
        brothersOfTheSameFather();
        ownShieldAlone();
        fathersThenMothers();
        notAmongThemYet();
        lateBrother();
        thirtyTwo();
        marks();
        marksOfOthers();
        generations();
        children();
        quarteringsAsked();
        others();
    }

    private static void heiresses() {
        Kit.promise(17, "A woman is an HEIRESS if she has a father and no brother (of the same father).");
        HeraldDesk desk = deskWithCouple(1);
        Kit.due("without a father", desk.family(1, 1), 0);
        Kit.due("a man without a father", desk.family(0, 1), 0);
        int first = child(desk, WOMAN, 0, 1);
        Kit.due("an only child", desk.family(first, 1), 1);
        int second = child(desk, WOMAN, 0, 1);
        Kit.due("with a sister", desk.family(first, 1), 1);
        Kit.due("the sister", desk.family(second, 1), 1);
        int brother = child(desk, MAN, 0, 1);
        Kit.due("with a brother", desk.family(first, 1), 0);
        Kit.due("the sister", desk.family(second, 1), 0);
        Kit.due("the brother", desk.family(brother, 1), 0);
        Kit.due("born behind the brother", desk.family(child(desk, WOMAN, 0, 1), 1), 0);
    }

    private static void brothersOfTheSameFather() {
        Kit.promise(17, "no brother (of the same father)");
        HeraldDesk desk = deskWithCouple(1);
        desk.marry(2, 3);
        int daughter = child(desk, WOMAN, 0, 1);
        child(desk, MAN, 2, 3);
        Kit.due("another's son is no brother", desk.family(daughter, 1), 1);
        int husband = founder(desk, MAN, 0);
        desk.marry(husband, daughter);
        child(desk, MAN, husband, daughter);
        Kit.due("her own son is no brother", desk.family(daughter, 1), 1);
    }

    private static void quarterings(HeraldDesk desk, int p, int... want) {
        Kit.due("how many quarterings of " + p, desk.family(p, 0), want.length);
        for (int i = 0; i < want.length; i++) {
            Kit.due("quartering " + i + " of " + p, desk.family(p, 100 + i), want[i]);
        }
        Kit.due("none behind them", desk.family(p, 100 + want.length), NONE);
    }

    private static void ownShieldAlone() {
        Kit.promise(17, "without a father his own SHIELD");
        HeraldDesk desk = Kit.deskWith(60);
        quarterings(desk, founder(desk, MAN, 0), 0);
        quarterings(desk, founder(desk, WOMAN, 59), 59);
    }

    /** The only child, a daughter, of two founders with a shield. */
    private static int heiress(HeraldDesk desk, int shield) {
        int father = founder(desk, MAN, shield);
        int mother = founder(desk, WOMAN, shield);
        desk.marry(father, mother);
        return child(desk, WOMAN, father, mother);
    }

    private static void fathersThenMothers() {
        Kit.promise(17, "else his father's, then, if his mother is an HEIRESS, hers");
        HeraldDesk desk = Kit.deskWith(5);
        int heiress = heiress(desk, 1);
        int man = founder(desk, MAN, 2);
        desk.marry(man, heiress);
        int son = child(desk, MAN, man, heiress);
        int daughter = child(desk, WOMAN, man, heiress);
        quarterings(desk, son, 2, 1);
        quarterings(desk, daughter, 2, 1);
        quarterings(desk, heiress, 1);
        int wife = founder(desk, WOMAN, 3);
        desk.marry(son, wife);
        quarterings(desk, child(desk, MAN, son, wife), 2, 1);
        int other = founder(desk, MAN, 4);
        desk.marry(other, daughter);
        quarterings(desk, child(desk, MAN, other, daughter), 4);
    }

    private static void notAmongThemYet() {
        Kit.promise(17, "hers that are not among them yet, in their order");
        HeraldDesk desk = Kit.deskWith(6);
        int line = heiress(desk, 0);
        for (int shield = 1; shield <= 3; shield++) {
            int man = founder(desk, MAN, shield);
            desk.marry(man, line);
            line = child(desk, WOMAN, man, line);
        }
        quarterings(desk, line, 3, 2, 1, 0);
        int other = heiress(desk, 1);
        int man = founder(desk, MAN, 5);
        desk.marry(man, other);
        int son = child(desk, MAN, man, other);
        quarterings(desk, son, 5, 1);
        desk.marry(son, line);
        quarterings(desk, child(desk, MAN, son, line), 5, 1, 3, 2, 0);
        int same = heiress(desk, 4);
        int cousin = founder(desk, MAN, 4);
        desk.marry(cousin, same);
        quarterings(desk, child(desk, MAN, cousin, same), 4);
    }

    private static void lateBrother() {
        Kit.promise(17, "if his mother is an HEIRESS");
        HeraldDesk desk = Kit.deskWith(3);
        int heiress = heiress(desk, 1);
        int man = founder(desk, MAN, 2);
        desk.marry(man, heiress);
        int son = child(desk, MAN, man, heiress);
        int wife = founder(desk, WOMAN, 0);
        desk.marry(son, wife);
        int grandson = child(desk, MAN, son, wife);
        quarterings(desk, grandson, 2, 1);
        child(desk, MAN, 0, 1);
        quarterings(desk, son, 2);
        quarterings(desk, grandson, 2);
    }

    /** The last heiress of a line of so many shields, from the first one on; hers are told from the last one back. */
    private static int line(HeraldDesk desk, int from, int shields) {
        int last = heiress(desk, from);
        for (int shield = from + 1; shield < from + shields; shield++) {
            int man = founder(desk, MAN, shield);
            desk.marry(man, last);
            last = child(desk, WOMAN, man, last);
        }
        return last;
    }

    private static int[] backFrom(int first, int many, int... behind) {
        int[] all = new int[many + behind.length];
        for (int i = 0; i < many; i++) {
            all[i] = first - i;
        }
        System.arraycopy(behind, 0, all, many, behind.length);
        return all;
    }

    private static void thirtyTwo() {
        Kit.promise(17, "32 at most (others are left out)");
        HeraldDesk desk = Kit.deskWith(40);
        int last = line(desk, 0, 30);
        int man = founder(desk, MAN, 30);
        desk.marry(man, last);
        int son = child(desk, MAN, man, last);
        quarterings(desk, son, backFrom(30, 31));
        int other = line(desk, 35, 2);
        desk.marry(son, other);
        int grandson = child(desk, MAN, son, other);
        quarterings(desk, grandson, backFrom(30, 31, 36));
        int another = heiress(desk, 39);
        desk.marry(grandson, another);
        quarterings(desk, child(desk, MAN, grandson, another), backFrom(30, 31, 36));
        desk = Kit.deskWith(36);
        last = line(desk, 0, 31);
        quarterings(desk, last, backFrom(30, 31));
        for (int shield = 31; shield <= 33; shield++) {
            man = founder(desk, MAN, shield);
            desk.marry(man, last);
            last = child(desk, WOMAN, man, last);
            quarterings(desk, last, backFrom(shield, 32));
        }
    }

    private static void marks() {
        Kit.promise(17, "THE MARK of a man: his place among his father's sons, by numbers (0 the first)");
        HeraldDesk desk = deskWithCouple(1);
        desk.marry(2, 3);
        boolean[] men = {MAN, WOMAN, MAN, MAN, WOMAN, MAN};
        int[] want = {0, 0, 1, 2, 0, 3};
        for (int i = 0; i < men.length; i++) {
            int p = child(desk, men[i], 0, 1);
            Kit.due("mark of child " + i, desk.family(p, 2), want[i]);
        }
        Kit.due("another's first son", desk.family(child(desk, MAN, 2, 3), 2), 0);
        Kit.due("the first son's, still", desk.family(4, 2), 0);
    }

    private static void marksOfOthers() {
        Kit.promise(17, "it is 0 of others");
        HeraldDesk desk = deskWithCouple(1);
        child(desk, MAN, 0, 1);
        child(desk, MAN, 0, 1);
        Kit.due("a daughter behind two sons", desk.family(child(desk, WOMAN, 0, 1), 2), 0);
        for (int p = 0; p < 4; p++) {
            Kit.due("founder " + p, desk.family(p, 2), 0);
        }
    }

    private static void generations() {
        Kit.promise(17, "3 how many generations up by fathers (0 without)");
        HeraldDesk desk = Kit.deskWith(1);
        int man = founder(desk, MAN, 0);
        Kit.due("without", desk.family(man, 3), 0);
        for (int i = 1; i < 50; i++) {
            int wife = founder(desk, WOMAN, 0);
            desk.marry(man, wife);
            man = child(desk, MAN, man, wife);
            Kit.due("generations of " + man, desk.family(man, 3), i);
        }
        desk = deskWithCouple(1);
        int daughter = child(desk, WOMAN, 0, 1);
        Kit.due("a daughter's", desk.family(daughter, 3), 1);
        desk.marry(2, daughter);
        Kit.due("by fathers alone", desk.family(child(desk, MAN, 2, daughter), 3), 1);
    }

    private static void children() {
        Kit.promise(17, "5 children");
        HeraldDesk desk = deskWithCouple(1);
        Kit.due("none yet", desk.family(0, 5), 0);
        child(desk, MAN, 0, 1);
        child(desk, WOMAN, 0, 1);
        child(desk, MAN, 0, 2);
        int[] want = {2, 2, 0, 0, 0, 0};
        for (int p = 0; p < 6; p++) {
            Kit.due("children of " + p, desk.family(p, 5), want[p]);
        }
    }

    private static void quarteringsAsked() {
        Kit.promise(17, "100 + i QUARTERING i");
        HeraldDesk desk = Kit.deskWith(3);
        int heiress = heiress(desk, 1);
        Kit.due("asked for first of all", desk.family(heiress, 100), 1);
        for (int what : new int[] {99, 101, 102, 131, 132, 200, MAX}) {
            Kit.due("what " + what, desk.family(heiress, what), NONE);
        }
    }

    private static void others() {
        Kit.promise(17, "NONE for others.");
        HeraldDesk desk = deskWithCouple(2);
        for (int what : new int[] {-1, 6, 7, 50, 99, 101, 132, MIN, MAX}) {
            Kit.due("family(0, " + what + ")", desk.family(0, what), NONE);
        }
        for (int p : new int[] {-1, 4, 99, 100, MIN, MAX}) {
            for (int what : new int[] {0, 1, 2, 3, 4, 5, 100}) {
                Kit.due("family(" + p + ", " + what + ")", desk.family(p, what), NONE);
            }
        }
    }
}
