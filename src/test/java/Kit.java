import java.util.Random;

/** What the tests share: texts onto the tape and back, and the tally of wrong answers. */
final class Kit {
    static final String[] TINCTURES = "or argent gules azure sable vert purpure ermine vair".split(" ");
    static final String[] KINDS = ("part ordinary charge beast bird plant thing chief pale fess bend chevron cross saltire pile bordure "
        + "lion boar stag eagle martlet rose lily trefoil mullet crescent annulet roundel billet tower label").split(" ");
    static final int[] FAMILY = {-1, 0, 0, 2, 2, 2, 2, 1, 1, 1, 1, 1, 1, 1, 1, 1, 3, 3, 3, 4, 4, 5, 5, 5, 6, 6, 6, 6, 6, 6, 6};
    static final String[] MARKS = "label crescent mullet martlet annulet lily rose".split(" ");
    static final String[] NUMBERS = "a two three four five six".split(" ");
    static final String[] PARTINGS = "per pale,per fess,per bend,per chevron,per saltire,quarterly,paly,barry,bendy,chequy".split(",");

    private static int wrong = 0;
    private static int asked = 0;

    private Kit() {
    }

    static void due(String call, Object got, Object want) {
        asked++;
        if (!got.equals(want)) {
            wrong++;
            if (wrong <= 20) {
                System.out.println(call + " answered " + got + ", due is " + want);
            }
        }
    }

    static void end() {
        System.out.println(asked + " answers, " + wrong + " not as due");
        System.exit(wrong == 0 && asked > 0 ? 0 : 1);
    }

    static void feed(HeraldDesk desk, String text) {
        for (int from = 0; from < text.length(); from += 20) {
            int[] five = new int[5];
            for (int i = 0; i < 20; i++) {
                int b = from + i < text.length() ? text.charAt(from + i) & 255 : 0;
                five[i / 4] |= b << (24 - 8 * (i % 4));
            }
            desk.feed(five[0], five[1], five[2], five[3], five[4]);
        }
    }

    static int read(HeraldDesk desk, String text) {
        feed(desk, text);
        return desk.read(text.length());
    }

    static int pack(HeraldDesk desk, int office, String text) {
        feed(desk, text);
        return desk.pack(office, text.length());
    }

    static String written(HeraldDesk desk, int k) {
        int length = desk.write(k);
        StringBuilder text = new StringBuilder();
        for (int i = 0; i < length; i++) {
            text.append((char) desk.octet(i));
        }
        due("octet behind the last", desk.octet(length), HeraldDesk.NONE);
        return text.toString();
    }

    static String pick(Random random, String... words) {
        return words[random.nextInt(words.length)];
    }

    static String charges(Random random) {
        int number = 1 + random.nextInt(6);
        int kind = 16 + random.nextInt(14);
        String name = number == 1 ? KINDS[kind] : kind == 22 ? "lilies" : KINDS[kind] + "s";
        String attitude = kind <= 18 ? pick(random, " rampant", " passant", " sejant") : kind == 19 ? pick(random, " displayed", " close") : "";
        StringBuilder text = new StringBuilder(NUMBERS[number - 1] + " " + name + attitude + " " + pick(random, TINCTURES));
        String duties = kind == 16 || kind == 19 ? "armed crowned" : kind == 17 ? "armed" : kind == 18 ? "attired" : kind == 21 ? "seeded" : kind == 29 ? "masoned" : "";
        for (String duty : duties.split(" ")) {
            if (!duty.isEmpty() && random.nextBoolean()) {
                text.append(" " + duty + " " + pick(random, TINCTURES));
            }
        }
        return text.toString();
    }

    /** A shield in its one spelling, perhaps longer than the tape. */
    static String shield(Random random) {
        String first = pick(random, TINCTURES);
        String second = pick(random, TINCTURES);
        StringBuilder text = new StringBuilder(first);
        if (!first.equals(second) && random.nextBoolean()) {
            text = new StringBuilder(pick(random, PARTINGS) + " " + first + " and " + second);
        }
        if (random.nextBoolean()) {
            text.append(", a " + KINDS[8 + random.nextInt(7)] + " " + pick(random, TINCTURES));
            text.append(random.nextBoolean() ? " charged with " + charges(random) : "");
        }
        text.append(random.nextBoolean() ? ", " + charges(random) : "");
        if (random.nextBoolean()) {
            text.append(", a chief " + pick(random, TINCTURES));
            text.append(random.nextBoolean() ? " charged with " + charges(random) : "");
        }
        text.append(random.nextBoolean() ? ", within a bordure " + pick(random, TINCTURES) : "");
        text.append(random.nextBoolean() ? ", for difference a " + pick(random, MARKS) + " " + pick(random, TINCTURES) : "");
        return text.toString();
    }
}
