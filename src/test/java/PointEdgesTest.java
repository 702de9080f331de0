/** Promises 12 and 13 at their edges: the points just inside and just outside, by u = 2 x - 59 and v = 2 y - 71. */
public final class PointEdgesTest {
    private static final int NONE = HeraldDesk.NONE;
    private static final int MIN = Integer.MIN_VALUE;
    private static final int MAX = Integer.MAX_VALUE;
    /** (y - 36) * (y - 36) / 22 for y from 36 to 71. */
    private static final int[] CUT = {0, 0, 0, 0, 0, 1, 1, 2, 2, 3, 4, 5, 6, 7, 8, 10, 11, 13, 14, 16, 18, 20, 22, 24, 26, 28, 30, 33, 35, 38, 40, 43, 46, 49, 52, 55};

    public static void main(String[] args) {
        pointsOfTheShield();
        noSuchPoint();
        partings();
        ordinaries();
        chief();
        bordure();
        sides();
        boxesOnTheField();
        boxesOnTheChief();
        boxesOnOrdinaries();
        mark();
        shapes();
        label();
        lastOne();
        counting();
        noneToCount();
        Kit.end();
    }

    private static void pointsOfTheShield() {
        Kit.promise(12, "POINTS (x, y), x 0 to 59, y 0 to 71, are of the shield if y < 36 or |2 x - 59| <= 59 - (y - 36) * (y - 36) / 22 (cut downwards)");
        HeraldDesk desk = new HeraldDesk();
        Kit.read(desk, "vair");
        for (int y = 0; y < 72; y++) {
            int first = y < 36 ? 0 : (CUT[y - 36] + 1) / 2;
            Kit.due("point(0, " + (first - 1) + ", " + y + ")", desk.point(0, first - 1, y), NONE);
            Kit.due("point(0, " + first + ", " + y + ")", desk.point(0, first, y), 8);
            Kit.due("point(0, " + (59 - first) + ", " + y + ")", desk.point(0, 59 - first, y), 8);
            Kit.due("point(0, " + (60 - first) + ", " + y + ")", desk.point(0, 60 - first, y), NONE);
        }
        for (int x = 27; x < 33; x++) {
            Kit.due("above the shield", desk.point(0, x, -1), NONE);
            Kit.due("below the shield", desk.point(0, x, 72), NONE);
        }
    }

    private static void noSuchPoint() {
        Kit.promise(12, "NONE: there is none such.");
        HeraldDesk desk = new HeraldDesk();
        Kit.read(desk, "or, a fess vert, within a bordure or");
        int[] far = {-1, 60, 72, 1000, 46341, 65536, MAX, MIN, MIN + 36, MAX / 2, MAX - 3, 1 << 30};
        for (int none : far) {
            Kit.due("point(0, " + none + ", 30)", desk.point(0, none, 30), NONE);
            Kit.due("point(0, " + none + ", 50)", desk.point(0, none, 50), NONE);
            Kit.due("point(0, " + none + ", " + none + ")", desk.point(0, none, none), NONE);
            Kit.due("point(" + none + ", 30, 30)", desk.point(none, 30, 30), NONE);
        }
        for (int none : new int[] {-1, 72, 1000, 46377, 65572, MAX, MIN, MIN + 36, 1 << 30}) {
            Kit.due("point(0, 30, " + none + ")", desk.point(0, 30, none), NONE);
        }
        Kit.due("point(1, 30, 30)", desk.point(1, 30, 30), NONE);
        Kit.due("point(0, 30, 30)", desk.point(0, 30, 30), 5);
    }

    /** Rows of u, v and 1 where the second tincture is due, for partings 1 to 6. */
    private static void partings() {
        Kit.promise(12, "the FIELD has its second TINCTURE where: 1 u > 0; 2 v > 0; 3 u > v; 4 v > |u|; 5 |u| > |v|; 6 (u > 0) is not (v > 0)");
        int[][] rows = {
            {1, -71, 1, -1, -71, 0, 1, 71, 1, -1, 71, 0}, {-59, 1, 1, -59, -1, 0, 59, 1, 1, 59, -1, 0},
            {1, 1, 0, 3, 1, 1, 1, 3, 0, -1, -3, 1, -3, -3, 0, -3, -1, 0}, {1, 1, 0, 1, 3, 1, -1, 3, 1, -3, 3, 0, 3, 3, 0, 3, 5, 1, 1, -3, 0, 1, -1, 0},
            {1, 1, 0, 3, 1, 1, -3, 1, 1, 3, -3, 0, -3, -3, 0, 3, -1, 1, 1, -3, 0, 1, 3, 0, -3, -1, 1}, {1, -1, 1, -1, 1, 1, 1, 1, 0, -1, -1, 0},
        };
        for (int i = 0; i < rows.length; i++) {
            String text = Kit.PARTINGS[i] + " or and gules";
            for (int j = 0; j < rows[i].length; j += 3) {
                has(text, rows[i][j], rows[i][j + 1], rows[i][j + 2] == 1);
            }
        }
        Kit.promise(12, "7 x / 10 is odd; 8 y / 12 is odd; 9 (x + y) / 12 is odd; 10 (x / 10 + y / 12) is odd (cut downwards)");
        int[][] stripes = {
            {0, 0, 0, 9, 0, 0, 10, 0, 1, 19, 0, 1, 20, 0, 0, 29, 0, 0, 30, 0, 1, 49, 0, 0, 50, 0, 1, 59, 0, 1}, {30, 0, 0, 30, 11, 0, 30, 12, 1, 30, 23, 1, 30, 24, 0, 30, 59, 0, 30, 60, 1, 30, 71, 1},
            {0, 0, 0, 0, 11, 0, 11, 0, 0, 0, 12, 1, 12, 0, 1, 11, 12, 1, 12, 12, 0, 59, 24, 0, 59, 25, 1, 59, 35, 1, 59, 37, 0},
            {0, 0, 0, 9, 11, 0, 10, 11, 1, 9, 12, 1, 10, 12, 0, 19, 23, 0, 20, 12, 1, 19, 24, 1, 59, 0, 1, 59, 12, 0},
        };
        for (int i = 0; i < stripes.length; i++) {
            for (int j = 0; j < stripes[i].length; j += 3) {
                has(Kit.PARTINGS[6 + i] + " or and gules", 2 * stripes[i][j] - 59, 2 * stripes[i][j + 1] - 71, stripes[i][j + 2] == 1);
            }
        }
    }

    private static void has(String text, int u, int v, boolean gules) {
        HeraldDesk desk = new HeraldDesk();
        int k = Kit.read(desk, text);
        Kit.due(text + " at u " + u + ", v " + v, desk.point(k, (u + 59) / 2, (v + 71) / 2), gules ? 2 : 0);
    }

    /** Pairs of points: the first has the part, the second has not. */
    private static void edges(String text, int... pairs) {
        for (int i = 0; i < pairs.length; i += 4) {
            has(text, pairs[i], pairs[i + 1], true);
            has(text, pairs[i + 2], pairs[i + 3], false);
        }
    }

    private static void ordinaries() {
        Kit.promise(12, "PALE |u| < 20; FESS |v| < 24");
        edges("or, a pale gules", 19, -71, 21, -71, -19, -71, -21, -71, 19, 21, 21, 21, -19, 21, -21, 21, 3, 71, 21, 51);
        edges("or, a fess gules", 59, -23, 59, -25, -59, -23, -59, -25, 1, 23, 1, 25, -33, 23, -33, 25);
        Kit.promise(12, "BEND |u - v| < 24; CHEVRON |v - |u|| < 20 and v > -30");
        edges("or, a bend gules", 23, 1, 25, 1, -21, 1, -23, 1, -37, -59, -35, -59, -59, -37, -59, -35, -37, -59, 37, -59, 29, 51, 27, 51);
        edges("or, a chevron gules", 1, 19, 1, 21, 1, -17, 1, -19, -1, 19, -1, 21, -1, -17, -1, -19, 31, 13, 31, 11, 31, 49, 31, 51, -31, 13, -31, 11, 1, 1, 1, -29, 13, -5, 13, -29);
        Kit.promise(12, "CROSS |u| < 14 or |v| < 14; SALTIRE |u - v| < 18 or |u + v| < 18");
        edges("or, a cross gules", 13, -71, 15, -71, -13, -71, -15, -71, 59, -13, 59, -15, 57, 13, 57, 15, -59, -13, -59, -15, 13, 59, 15, 59);
        edges("or, a saltire gules", 31, 15, 31, 13, 31, -15, 31, -13, -31, -15, -31, -13, -31, 15, -31, 13, 31, 47, 31, 49, 1, 15, 1, 19, 1, -15, 1, -19);
        Kit.promise(12, "PILE 3 |u| < 71 - v and v < 50");
        edges("or, a pile gules", 7, 49, 9, 49, -7, 49, -9, 49, 1, 49, 1, 51, 47, -71, 49, -71, -47, -71, -49, -71, 23, 1, 25, 1);
    }

    private static void chief() {
        Kit.promise(12, "CHIEF y < 22");
        edges("or, a chief gules", 1, -71, 1, -27, -59, -29, -59, -27, 59, -29, 59, -27);
    }

    private static void bordure() {
        Kit.promise(12, "BORDURE: a POINT of the shield of which one of (x - 5, y), (x + 5, y), (x, y - 5), (x, y + 5) is none");
        HeraldDesk desk = new HeraldDesk();
        Kit.read(desk, "or, within a bordure gules");
        int[][] pairs = {{0, 30, 30, 30}, {4, 30, 5, 30}, {55, 30, 54, 30}, {30, 4, 30, 5}, {30, 67, 30, 66}, {18, 60, 19, 60}, {41, 60, 40, 60}, {4, 4, 5, 5}, {55, 4, 54, 5}, {4, 36, 5, 35}, {4, 40, 5, 40}, {5, 41, 6, 41}, {54, 41, 53, 41}};
        for (int[] pair : pairs) {
            Kit.due("the bordure at " + pair[0] + " " + pair[1], desk.point(0, pair[0], pair[1]), 2);
            Kit.due("the field at " + pair[2] + " " + pair[3], desk.point(0, pair[2], pair[3]), 0);
        }
        Kit.due("none outside", desk.point(0, 27, 71), NONE);
        Kit.due("the tip", desk.point(0, 28, 71), 2);
    }

    private static void sides() {
        Kit.promise(12, "CHARGES have a box for each: side 16 (n = 1), 12 (2, 3), 10 (4 to 6)");
        int[] sides = {0, 16, 12, 12, 10, 10, 10};
        int[] middles = {0, 0, 20, 20, 20, 20, 24};
        for (int n = 1; n <= 6; n++) {
            String text = "or, " + Kit.NUMBERS[n - 1] + " " + Kit.named(16, n) + " rampant gules";
            int v = n < 3 ? 1 : -29;
            edges(text, middles[n] + sides[n] - 1, v, middles[n] + sides[n] + 1, v, 1 - middles[n] - sides[n], v, -1 - middles[n] - sides[n], v);
        }
    }

    /** Lions fill their boxes: first and last u and v of each, over all points of the shield. */
    private static void boxes(String text, int[]... boxes) {
        int found = 0;
        for (int y = 0; y < 72; y++) {
            HeraldDesk desk = new HeraldDesk();
            Kit.due(text, Kit.read(desk, text), 0);
            for (int x = y < 36 ? 0 : (CUT[y - 36] + 1) / 2; x < 60 && desk.point(0, x, y) != NONE; x++) {
                boolean inside = false;
                for (int[] box : boxes) {
                    inside |= 2 * x - 59 >= box[0] && 2 * x - 59 <= box[1] && 2 * y - 71 >= box[2] && 2 * y - 71 <= box[3];
                }
                found += inside ? 1 : 0;
                Kit.due(text + " at " + x + " " + y, desk.point(0, x, y), inside ? 2 : 0);
            }
        }
        HeraldDesk desk = new HeraldDesk();
        Kit.due("points of " + text, desk.points(Kit.read(desk, text), 2), found);
    }

    private static void boxesOnTheField() {
        Kit.promise(12, "of the FIELD n 1: 0 0; 2: -20 0, 20 0; 3: -20 -30, 20 -30, 0 20; 4: -20 -30, 20 -30, -20 20, 20 20; 5: those of 4 and 0 -5; 6: -24 -30, 0 -30, 24 -30, -14 0, 14 0, 0 30");
        boxes("or, a lion rampant gules", new int[] {-15, 15, -15, 15});
        boxes("or, two lions rampant gules", new int[] {-31, -9, -11, 11}, new int[] {9, 31, -11, 11});
        boxes("or, three lions rampant gules", new int[] {-31, -9, -41, -19}, new int[] {9, 31, -41, -19}, new int[] {-11, 11, 9, 31});
        int[][] four = {{-29, -11, -39, -21}, {11, 29, -39, -21}, {-29, -11, 11, 29}, {11, 29, 11, 29}};
        boxes("or, four lions rampant gules", four);
        boxes("or, five lions rampant gules", four[0], four[1], four[2], four[3], new int[] {-9, 9, -13, 3});
        boxes("or, six lions rampant gules", new int[] {-33, -15, -39, -21}, new int[] {-9, 9, -39, -21}, new int[] {15, 33, -39, -21}, new int[] {-23, -5, -9, 9}, new int[] {5, 23, -9, 9}, new int[] {-9, 9, 21, 39});
    }

    /** First and last u of n boxes side by side. */
    private static final int[][] ROWS = {{}, {-15, 15}, {-25, -3, 3, 25}, {-39, -17, -11, 11, 17, 39}, {-45, -27, -21, -3, 3, 21, 27, 45},
        {-57, -39, -33, -15, -9, 9, 15, 33, 39, 57}, {-69, -51, -45, -27, -21, -3, 3, 21, 27, 45, 51, 69}};

    private static void row(String text, int n, int firstV, int lastV) {
        int[][] boxes = new int[n][];
        for (int i = 0; i < n; i++) {
            boxes[i] = new int[] {ROWS[n][2 * i], ROWS[n][2 * i + 1], firstV, lastV};
        }
        boxes(text, boxes);
    }

    private static void boxesOnTheChief() {
        Kit.promise(12, "on the CHIEF: V is -49, U goes from -(n - 1) (side + 2) in steps of 2 (side + 2)");
        int[] first = {0, -63, -59, -59, -57, -57, -57};
        int[] last = {0, -35, -39, -39, -41, -41, -41};
        for (int n = 1; n <= 6; n++) {
            row("or, a chief or charged with " + Kit.NUMBERS[n - 1] + " " + Kit.named(17, n) + " passant gules", n, first[n], last[n]);
        }
    }

    private static void boxesOnOrdinaries() {
        Kit.promise(12, "on an ORDINARY likewise, V 0");
        int[] last = {0, 15, 11, 11, 9, 9, 9};
        for (int n = 1; n <= 6; n++) {
            row("or, a pale or charged with " + Kit.NUMBERS[n - 1] + " " + Kit.named(18, n) + " sejant gules", n, -last[n], last[n]);
        }
        for (int kind = 8; kind <= 14; kind++) {
            row("or, a " + Kit.KINDS[kind] + " or charged with two stags sejant gules", 2, -11, 11);
        }
    }

    private static void mark() {
        Kit.promise(12, "the MARK: side 8 at 0 -30");
        String at = "or, for difference a ";
        edges(at + "rose gules", 7, -31, 9, -31, -7, -29, -9, -29, 1, -37, 1, -39, 1, -23, 1, -21, 5, -35, 7, -35);
        edges(at + "lily gules", 7, -27, 7, -25, 5, -25, 5, -23);
        edges(at + "martlet gules", 5, -31, 7, -31, 1, -25, 1, -23, 3, -27, 5, -27, -5, -29, -7, -29, 1, -35, 1, -37);
        edges(at + "mullet gules", 5, -31, 7, -31, 1, -25, 1, -23, 3, -33, 5, -33, -3, -27, -3, -25);
        edges(at + "annulet gules", 3, -27, 1, -27, 5, -31, 3, -31, 7, -29, 9, -29, 1, -35, 1, -31, 1, -25, 1, -29);
        edges(at + "crescent gules", 1, -27, 1, -29, 5, -31, 3, -31, 7, -31, 9, -31, 7, -33, 7, -35, 1, -23, 1, -21);
    }

    /** Each shape with one charge, of side 16, at 0 0, and with four, of side 10, on a chief, where e is even. */
    private static void shapes() {
        Kit.promise(12, "beasts: |d| < h and |e| < h; birds: |d| + |e| < h; plants: d d + e e < h h");
        for (String beast : new String[] {"or, a lion sejant gules", "or, a boar passant gules", "or, a stag rampant gules"}) {
            edges(beast, 15, 15, 17, 15, -15, 15, -17, 15, 15, -15, 15, -17, -15, -15, -15, -17);
        }
        for (String bird : new String[] {"or, a eagle close gules", "or, a eagle displayed gules", "or, a martlet gules"}) {
            edges(bird, 13, 1, 15, 1, 7, 7, 9, 7, 1, 13, 1, 15, -13, -1, -15, -1, -7, 7, -7, 9);
        }
        for (String round : new String[] {"or, a rose gules", "or, a lily gules", "or, a trefoil gules", "or, a roundel gules"}) {
            edges(round, 15, 5, 15, 7, 11, 11, 13, 11, 9, 13, 11, 13, -15, -5, -17, -1, 1, 15, 1, 17, -11, -11, -11, -13);
        }
        Kit.promise(12, "mullet |d| + |e| < h or (|d| < h / 2 and |e| < h / 2)");
        edges("or, a mullet gules", 7, 7, 9, 7, 13, 1, 15, 1, 1, -13, 1, -15, -5, 9, -7, 9);
        Kit.promise(12, "crescent d d + e e < h h and d d + (e + h / 2) (e + h / 2) >= h h / 2");
        edges("or, a crescent gules", 3, 3, 1, 3, 1, 5, 1, -1, 11, -5, 11, -7, 9, -1, 7, -1, 7, 1, 1, -15, 11, -11, 11, -9, 15, -5, 15, -7, -15, 5, -15, 7, 1, 15, 1, 17, 13, 9, 13, 11);
        edges("or, a chief or charged with four crescents gules", 19, -53, 17, -53, 17, -49, 15, -49, 13, -47, 13, -49, -5, -53, -7, -53, 19, -55, 17, -55);
        Kit.promise(12, "annulet d d + e e < h h and d d + e e >= h h / 4; roundel d d + e e < h h");
        edges("or, a annulet gules", 7, 5, 7, 3, 1, 9, 1, 7, 5, 7, 5, 5, -7, -5, -7, -3, 15, 5, 15, 7, 11, 11, 13, 11);
        edges("or, a chief or charged with four annulets gules", 15, -45, 15, -47, 17, -49, 15, -49, 9, -53, 11, -53, 13, -43, 13, -45, 21, -49, 23, -49, 19, -43, 19, -41);
        edges("or, a chief or charged with four roundels gules", 13, -49, 23, -49, 21, -47, 21, -43, 13, -41, 13, -39);
        Kit.promise(12, "billet 2 |d| < h and |e| < h");
        edges("or, a billet gules", 7, 15, 9, 15, -7, 15, -9, 15, 7, -15, 7, -17, 1, 15, 1, 17);
        edges("or, two billets gules", 25, 11, 27, 11, 15, -11, 13, -11, 21, 11, 21, 13);
        Kit.promise(12, "tower |d| < h and |e| < h and (e > 0 or (d + 64) / 4 is odd)");
        edges("or, a tower gules", 15, 1, 17, 1, -15, 1, -17, 1, 1, 15, 1, 17, 1, 1, 1, -1, -11, -1, -13, -1, -9, -1, -7, -1, -3, -15, -5, -15, -1, -1, 3, -1, 5, -1, 3, -3, 7, -15, 9, -15, 13, -1, 11, -1, 15, -15, 17, -15, 7, -15, 7, -17);
        edges("or, a chief or charged with a tower gules", 1, -47, 1, -49, 5, -49, 1, -51, 5, -63, 5, -65, 1, -35, 1, -33);
    }

    /** By its words the label has no lower edge. */
    private static void label() {
        Kit.promise(12, "label |d| < h and (|e| < 2 or e > 0 and (d + 64) / 4 is odd)");
        edges("or, for difference a label gules", 1, -31, 1, -33, 1, -29, 1, -27, 7, -31, 9, -31, -7, -31, -9, -31, -7, -29, -7, -27, 7, -27, 9, -27, 5, -27, 3, -27, -1, -27, 1, -25, -3, -25, -5, -25,
            -3, -31, -3, -33, 5, 1, 3, 1, -3, 71, 1, 71, -1, 71, 3, 71);
    }

    private static void lastOne() {
        Kit.promise(12, "A POINT has the TINCTURE of the last one of these that has it: the FIELD; the ORDINARY; CHARGES on it; CHARGES; the CHIEF; CHARGES on it; the BORDURE; the MARK");
        HeraldDesk desk = new HeraldDesk();
        Kit.read(desk, "or, a pale argent charged with a lion rampant gules, six roundels azure, a chief sable charged with six billets vert, within a bordure purpure, for difference a label ermine");
        int[][] rows = {{41, 9, 0}, {1, -19, 1}, {1, 1, 2}, {11, 1, 3}, {1, -35, 4}, {11, -49, 5}, {1, -49, 4}, {59, -49, 6}, {1, -71, 6}, {1, -31, 7}, {-1, 69, 7}, {1, 69, 6}, {19, 19, 1}, {21, 19, 0}};
        for (int[] row : rows) {
            Kit.due("at u " + row[0] + ", v " + row[1], desk.point(0, (row[0] + 59) / 2, (row[1] + 71) / 2), row[2]);
        }
    }

    private static void counting() {
        Kit.promise(13, "How many POINTS of SHIELD k have a TINCTURE");
        HeraldDesk desk = new HeraldDesk();
        String[] texts = {"vair", "per pale or and gules", "gules, a chief or, within a bordure gules", "or, a chief gules"};
        int[][] want = {{0, 0, 3646}, {1823, 1823, 0}, {17 * 50, 3646 - 17 * 50, 0}, {3646 - 22 * 60, 22 * 60, 0}};
        for (int k = 0; k < texts.length; k++) {
            Kit.due(texts[k], Kit.read(desk, texts[k]), k);
            Kit.due("or", desk.points(k, 0), want[k][0]);
            Kit.due("gules", desk.points(k, 2), want[k][1]);
            Kit.due("vair", desk.points(k, 8), want[k][2]);
            int all = 0;
            for (int tincture = 0; tincture < 9; tincture++) {
                all += desk.points(k, tincture);
            }
            Kit.due("all points", all, 3646);
        }
        Kit.due("the first one again", desk.points(0, 8), 3646);
    }

    private static void noneToCount() {
        Kit.promise(13, "NONE: none such.");
        HeraldDesk desk = new HeraldDesk();
        Kit.read(desk, "or");
        for (int none : new int[] {-1, 9, 10, MIN, MAX}) {
            Kit.due("points(0, " + none + ")", desk.points(0, none), NONE);
            Kit.due("points(" + none + ", 0)", desk.points(none, 0), NONE);
        }
        Kit.due("points(1, 0)", desk.points(1, 0), NONE);
        Kit.due("a TINCTURE that no POINT has", desk.points(0, 8), 0);
    }
}
