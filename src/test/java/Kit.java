import java.util.Random;

/** What the tests share: texts onto the tape and back, and the tally of wrong answers. */
final class Kit {
    static final String[] TINCTURES = "or argent gules azure sable vert purpure ermine vair".split(" ");
    static final String[] KINDS = ("part ordinary charge beast bird plant thing chief pale fess bend chevron cross saltire pile bordure "
        + "lion boar stag eagle martlet rose lily trefoil mullet crescent annulet roundel billet tower label").split(" ");
    static final int[] FAMILY = {-1, 0, 0, 2, 2, 2, 2, 1, 1, 1, 1, 1, 1, 1, 1, 1, 3, 3, 3, 4, 4, 5, 5, 5, 6, 6, 6, 6, 6, 6, 6};
    static final String[] MARKS = "label crescent mullet martlet annulet lily rose".split(" ");
    static final String[] NUMBERS = "a two three four five six".split(" ");
    static final String[] PARTINGS = "per pale,per fess,per bend,per chevron,per saltire,quarterly,paly,barry,bendy,chequy".split(",");

    private static int wrong = 0;
    private static int asked = 0;
    private static int askedBefore = 0;
    private static String heading = "";

    static {
        Thread.setDefaultUncaughtExceptionHandler((thread, thrown) -> {
            System.out.println(heading + "a call threw");
            thrown.printStackTrace();
        });
    }

    private Kit() {
    }

    /** Names the promise and the document's words that the answers from here on hang on. */
    static void promise(int number, String words) {
        closeHeading();
        heading = "promise " + number + ", \"" + words + "\": ";
    }

    static void due(String call, Object got, Object want) {
        asked++;
        if (!got.equals(want)) {
            wrong++;
            if (wrong <= 20) {
                System.out.println(heading + call + " answered " + got + ", due is " + want);
            }
        }
    }

    /** A heading without an answer behind it tests nothing. */
    private static void closeHeading() {
        if (!heading.isEmpty() && asked == askedBefore) {
            wrong++;
            System.out.println(heading + "nothing was asked");
        }
        askedBefore = asked;
    }

    static void end() {
        closeHeading();
        System.out.println(asked + " answers, " + wrong + " not as due");
        System.exit(wrong == 0 && asked > 0 ? 0 : 1);
    }

    static void feed(HeraldDesk desk, String text) {
        for (int from = 0; from < text.length(); from += 20) {
            int[] five = new int[5];
            for (int i = 0; i < 20; i++) {
                int b = from + i < text.length() ? text.charAt(from + i) & 255 : 0;
                five[i / 4] |= b << (24 - 8 * (i % 4));
            }
            desk.feed(five[0], five[1], five[2], five[3], five[4]);
        }
    }

    static int read(HeraldDesk desk, String text) {
        feed(desk, text);
        return desk.read(text.length());
    }

    static int pack(HeraldDesk desk, int office, String text) {
        feed(desk, text);
        return desk.pack(office, text.length());
    }

    /** Each text, on a desk of its own, is a shield. */
    static void taken(String... texts) {
        for (String text : texts) {
            due("read " + text, read(new HeraldDesk(), text), 0);
        }
    }

    /** Each text, on a desk of its own, is refused as a shield at the place of its bar, which is taken out. */
    static void refused(String... texts) {
        for (String text : texts) {
            HeraldDesk desk = new HeraldDesk();
            due("read " + text, read(desk, text.replace("|", "")), -2 - text.indexOf('|'));
            due("SHIELDS behind it", desk.count(0), 0);
        }
    }

    /** Likewise as a pack of office 1. */
    static void refusedPack(String... texts) {
        for (String text : texts) {
            HeraldDesk desk = new HeraldDesk();
            due("pack " + text, pack(desk, 1, text.replace("|", "")), -2 - text.indexOf('|'));
            due("BODIES behind it", desk.count(4), 0);
        }
    }

    static String written(HeraldDesk desk, int k) {
        int length = desk.write(k);
        StringBuilder text = new StringBuilder();
        for (int i = 0; i < length; i++) {
            text.append((char) desk.octet(i));
        }
        due("octet behind the last", desk.octet(length), HeraldDesk.NONE);
        return text.toString();
    }

    static String pick(Random random, String... words) {
        return words[random.nextInt(words.length)];
    }

    /** A kind's name behind a number: "lion" or "lions". */
    static String named(int kind, int number) {
        return number == 1 ? KINDS[kind] : kind == 22 ? "lilies" : KINDS[kind] + "s";
    }

    /** An attitude that a kind may have, with a blank ahead of it, or nothing. */
    static String attitude(int kind) {
        return kind >= 16 && kind <= 18 ? " rampant" : kind == 19 ? " close" : "";
    }

    /** A desk with so many shields, each of two tinctures and told in three calls. */
    static HeraldDesk deskWith(int shields) {
        HeraldDesk desk = new HeraldDesk();
        for (int i = 0; i < shields; i++) {
            read(desk, "quarterly " + TINCTURES[i / 8] + " and " + TINCTURES[i % 8 < i / 8 ? i % 8 : i % 8 + 1]);
        }
        return desk;
    }

    static String charges(Random random) {
        int number = 1 + random.nextInt(6);
        int kind = 16 + random.nextInt(14);
        String name = named(kind, number);
        String attitude = kind <= 18 ? pick(random, " rampant", " passant", " sejant") : kind == 19 ? pick(random, " displayed", " close") : "";
        StringBuilder text = new StringBuilder(NUMBERS[number - 1] + " " + name + attitude + " " + pick(random, TINCTURES));
        String duties = kind == 16 || kind == 19 ? "armed crowned" : kind == 17 ? "armed" : kind == 18 ? "attired" : kind == 21 ? "seeded" : kind == 29 ? "masoned" : "";
        for (String duty : duties.split(" ")) {
            if (!duty.isEmpty() && random.nextBoolean()) {
                text.append(" " + duty + " " + pick(random, TINCTURES));
            }
        }
        return text.toString();
    }

    /** A shield in its one spelling, perhaps longer than the tape. */
    static String shield(Random random) {
        String first = pick(random, TINCTURES);
        String second = pick(random, TINCTURES);
        StringBuilder text = new StringBuilder(first);
        if (!first.equals(second) && random.nextBoolean()) {
            text = new StringBuilder(pick(random, PARTINGS) + " " + first + " and " + second);
        }
        if (random.nextBoolean()) {
            text.append(", a " + KINDS[8 + random.nextInt(7)] + " " + pick(random, TINCTURES));
            text.append(random.nextBoolean() ? " charged with " + charges(random) : "");
        }
        text.append(random.nextBoolean() ? ", " + charges(random) : "");
        if (random.nextBoolean()) {
            text.append(", a chief " + pick(random, TINCTURES));
            text.append(random.nextBoolean() ? " charged with " + charges(random) : "");
        }
        text.append(random.nextBoolean() ? ", within a bordure " + pick(random, TINCTURES) : "");
        text.append(random.nextBoolean() ? ", for difference a " + pick(random, MARKS) + " " + pick(random, TINCTURES) : "");
        return text.toString();
    }
}
