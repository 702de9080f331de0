/**
 * A heralds' desk: arms told in a language of their own and written back in one spelling, rules
 * whose bodies hang on the kind of each part and on the office that judges, shields drawn point by
 * point, families with heiresses, quarterings and marks.
 */
public final class HeraldDesk {
    public static final int NONE = -1;

    private static final int TAPE_SIZE = 240;
    private static final int FEED_SIZE = 20;
    private static final int MOST_SHIELDS = 60;
    private static final int RULES = 4;
    private static final int OFFICES = 4;
    private static final int TINCTURE_COUNT = 9;

    /** Lists of words: each word has a blank behind it, and its number is its place in the list. */
    private static final String TINCTURES = "or argent gules azure sable vert purpure ermine vair ";
    private static final String KINDS = "part ordinary charge beast bird plant thing chief pale fess bend chevron cross saltire pile bordure lion boar stag eagle martlet rose lily trefoil mullet crescent annulet roundel billet tower label ";
    private static final String GROUPS = "lions boars stags eagles martlets roses lilies trefoils mullets crescents annulets roundels billets towers ";
    private static final String NUMBERS = "a two three four five six ";
    private static final String ATTITUDES = "rampant passant sejant displayed close ";
    private static final String DUTIES = "armed attired crowned seeded masoned ";
    private static final String MARKS = "label crescent mullet martlet annulet lily rose ";
    private static final String PARTINGS = "per quarterly paly barry bendy chequy ";
    private static final String LINES = "pale fess bend chevron saltire ";
    private static final String OPENINGS = "a two three four five six within for ";
    private static final String VALUES = "sort below tincture number attitude duties kind place next ";
    private static final String SIGNS = "+-*=<>";

    private static final String COMMON_BODIES = "rule 0 for part: sort * (sort = below); rule 1 for charge: number > 3; rule 2 for part: 0; rule 2 for bordure: below < 1; rule 3 for part: 1; rule 3 for ordinary: next + 1;";

    private static final int KIND_COUNT = 31;
    private static final int BEAST = 3;
    private static final int BIRD = 4;
    private static final int PLANT = 5;
    private static final int CHIEF_KIND = 7;
    private static final int PALE = 8;
    private static final int FESS = 9;
    private static final int BEND = 10;
    private static final int CHEVRON = 11;
    private static final int CROSS = 12;
    private static final int SALTIRE = 13;
    private static final int PILE = 14;
    private static final int BORDURE_KIND = 15;
    private static final int LION = 16;
    private static final int BOAR = 17;
    private static final int STAG = 18;
    private static final int EAGLE = 19;
    private static final int ROSE = 21;
    private static final int MULLET = 24;
    private static final int CRESCENT = 25;
    private static final int ANNULET = 26;
    private static final int ROUNDEL = 27;
    private static final int BILLET = 28;
    private static final int TOWER = 29;
    private static final int LABEL = 30;

    private static final int ORDINARY = 0;
    private static final int ON_ORDINARY = 1;
    private static final int CHARGES = 2;
    private static final int CHIEF = 3;
    private static final int ON_CHIEF = 4;
    private static final int BORDURE = 5;
    private static final int MARK = 6;
    private static final int PLACES = 7;

    private static final int[] FAMILIES = {-1, 0, 0, 2, 2, 2, 2, 1, 1, 1, 1, 1, 1, 1, 1, 1, 3, 3, 3, 4, 4, 5, 5, 5, 6, 6, 6, 6, 6, 6, 6};

    private final char[] tape = new char[TAPE_SIZE];
    private int taped;
    private final Shield[] shields = new Shield[MOST_SHIELDS];
    private int shieldCount;
    private final Tokens tokens = new Tokens();
    private final ShieldReader shieldReader = new ShieldReader(tokens);
    private final PackReader packReader = new PackReader(tokens);
    private final Pen pen = new Pen();
    private final Bench bench = new Bench();
    private final Register register = new Register();

    public HeraldDesk() {
        tokens.begin(COMMON_BODIES.toCharArray(), COMMON_BODIES.length());
        packReader.fill(bench.common);
    }

    public int feed(int a, int b, int c, int d, int e) {
        if (taped + FEED_SIZE > TAPE_SIZE) {
            return NONE;
        }
        layOnTape(a);
        layOnTape(b);
        layOnTape(c);
        layOnTape(d);
        layOnTape(e);
        return taped;
    }

    public int read(int n) {
        if (n < 0 || n > taped) {
            return NONE;
        }
        taped = 0;
        tokens.begin(tape, n);
        Shield shield = shieldReader.readShield();
        return shield == null ? refusal() : enter(shield);
    }

    public int pack(int office, int n) {
        if (!isOffice(office) || n < 0 || n > taped) {
            return NONE;
        }
        taped = 0;
        tokens.begin(tape, n);
        if (!packReader.fill(bench.draft)) {
            return refusal();
        }
        bench.seatDraft(office);
        return bench.bodiesOf(office);
    }

    public int write(int k) {
        Shield shield = shieldAt(k);
        return shield == null ? NONE : pen.writeShield(shield);
    }

    public int octet(int i) {
        return pen.byteAt(i);
    }

    public int look(int k, int what) {
        Shield shield = shieldAt(k);
        if (shield == null) {
            return NONE;
        }
        if (what < 10) {
            return shield.detail(what);
        }
        Part piece = shield.partInOrder((what - 10) / 8);
        return piece == null ? NONE : piece.detail((what - 10) % 8);
    }

    public int judge(int k, int rule, int office) {
        bench.begun = 0;
        Shield shield = shieldAt(k);
        if (shield == null || !isRule(rule) || !isOffice(office)) {
            return 0;
        }
        int sum = 0;
        for (int place = 0; place < PLACES; place++) {
            Part piece = shield.partAt(place);
            if (piece != null) {
                sum += bench.numberOf(shield, piece, rule, office);
            }
        }
        return sum;
    }

    public int part(int k, int p, int rule, int office) {
        bench.begun = 0;
        Shield shield = shieldAt(k);
        if (shield == null || !isRule(rule) || !isOffice(office)) {
            return 0;
        }
        Part piece = shield.partInOrder(p);
        return piece == null ? 0 : bench.numberOf(shield, piece, rule, office);
    }

    public int chosen(int kind, int rule, int office) {
        boolean known = kind >= 0 && kind < KIND_COUNT && isRule(rule) && isOffice(office);
        return known ? bench.choice(kind, rule, office) : NONE;
    }

    public int ran() {
        return bench.begun;
    }

    public int point(int k, int x, int y) {
        Shield shield = shieldAt(k);
        return shield == null ? NONE : Painter.tinctureAt(shield, x, y);
    }

    public int points(int k, int tincture) {
        Shield shield = shieldAt(k);
        if (shield == null || tincture < 0 || tincture >= TINCTURE_COUNT) {
            return NONE;
        }
        if (shield.pointsOf == null) {
            shield.pointsOf = Painter.pointsOf(shield);
        }
        return entry(shield.pointsOf, tincture);
    }

    public int differ(int k, int q) {
        Shield one = shieldAt(k);
        Shield other = shieldAt(q);
        return one == null || other == null ? NONE : one.differences(other);
    }

    public int person(boolean man, int father, int mother, int shield) {
        if (father != NONE || mother != NONE) {
            return register.addChild(man, father, mother);
        }
        return shieldAt(shield) == null ? NONE : register.addFounder(man, shield);
    }

    public boolean marry(int man, int woman) {
        return register.join(man, woman);
    }

    public int family(int p, int what) {
        return register.detail(p, what);
    }

    public int count(int what) {
        switch (what) {
            case 0:
                return shieldCount;
            case 1:
                return register.size;
            case 2:
                return taped;
            default:
                return what >= 3 && what < 3 + OFFICES ? bench.bodiesOf(what - 3) : NONE;
        }
    }

    private void layOnTape(int four) {
        for (int shift = 24; shift >= 0 && taped < TAPE_SIZE; shift -= 8) {
            tape[taped] = (char) ((four >>> shift) & 255);
            taped++;
        }
    }

    /** The answer for a text that was refused: the readers stop at the token that could not go on. */
    private int refusal() {
        return -2 - tokens.start;
    }

    private int enter(Shield shield) {
        for (int i = 0; i < shieldCount; i++) {
            if (shields[i].differences(shield) == 0) {
                return i;
            }
        }
        if (shieldCount >= MOST_SHIELDS) {
            return NONE;
        }
        shields[shieldCount] = shield;
        shieldCount++;
        return shieldCount - 1;
    }

    private Shield shieldAt(int k) {
        return k >= 0 && k < shieldCount ? shields[k] : null;
    }

    private static boolean isRule(int rule) {
        return rule >= 0 && rule < RULES;
    }

    private static boolean isOffice(int office) {
        return office >= 0 && office < OFFICES;
    }

    private static int entry(int[] row, int i) {
        return i >= 0 && i < row.length ? row[i] : NONE;
    }

    private static int familyOf(int kind) {
        return entry(FAMILIES, kind);
    }

    private static boolean isCharge(int kind) {
        return kind >= LION && kind <= TOWER;
    }

    /** The sort of a tincture: 0 a fur, 1 a metal, 2 a colour. */
    private static int sortOf(int tincture) {
        if (tincture < 2) {
            return 1;
        }
        return tincture < 7 ? 2 : 0;
    }

    /** A text cut into words, numbers and single bytes; one token is looked at, the next is unread. */
    private static final class Tokens {
        private static final int END = 0;
        private static final int WORD = 1;
        private static final int NUMBER = 2;
        private static final int BYTE = 3;

        private char[] text = new char[0];
        private int length;
        private int sort;
        private int start;
        private int end;

        void begin(char[] newText, int newLength) {
            text = newText;
            length = Math.max(0, Math.min(newLength, newText.length));
            end = 0;
            advance();
        }

        void advance() {
            start = end;
            while (start < length && text[start] == ' ') {
                start++;
            }
            end = start;
            while (end < length && text[end] >= 'a' && text[end] <= 'z') {
                end++;
            }
            if (end > start) {
                sort = WORD;
                return;
            }
            while (end < length && text[end] >= '0' && text[end] <= '9') {
                end++;
            }
            if (end > start) {
                sort = NUMBER;
                return;
            }
            sort = start < length ? BYTE : END;
            end = Math.min(start + 1, length);
        }

        boolean atEnd() {
            return sort == END;
        }

        /** The number of the word in a list. No list has a word of over 12 letters, so those are in none. */
        int among(String list) {
            if (sort != WORD) {
                return NONE;
            }
            int number = 0;
            int matched = 0;
            for (int i = 0; i < list.length(); i++) {
                char c = list.charAt(i);
                if (c == ' ') {
                    if (matched == end - start) {
                        return number;
                    }
                    number++;
                    matched = 0;
                } else {
                    boolean matches = matched != NONE && start + matched < end && text[start + matched] == c;
                    matched = matches ? matched + 1 : NONE;
                }
            }
            return NONE;
        }

        /** Likewise, and goes on behind the word if it is in the list. */
        int take(String list) {
            int number = among(list);
            if (number != NONE) {
                advance();
            }
            return number;
        }

        boolean takeWord(String list) {
            return take(list) != NONE;
        }

        boolean takeByte(char wanted) {
            if (sort != BYTE || start >= length || text[start] != wanted) {
                return false;
            }
            advance();
            return true;
        }

        int signNumber() {
            return sort == BYTE && start < length ? SIGNS.indexOf(text[start]) : NONE;
        }

        /** The number told, if it has at most so many digits. */
        int number(int mostDigits) {
            if (sort != NUMBER || end - start > mostDigits) {
                return NONE;
            }
            int value = 0;
            for (int i = start; i < end; i++) {
                value = value * 10 + (text[i] - '0');
            }
            return value;
        }
    }

    /** One part of a shield: an ordinary, a group of charges, a chief, a bordure or a mark. */
    private static final class Part {
        private static final int DUTY_COUNT = 5;

        private final int place;
        private final int kind;
        private final int number;
        private int attitude;
        private int tincture;
        /** The tincture of each duty, NONE where there is no such duty. */
        private final int[] duties = {NONE, NONE, NONE, NONE, NONE};

        Part(int place, int kind, int number) {
            this.place = place;
            this.kind = kind;
            this.number = number;
        }

        int detail(int what) {
            switch (what) {
                case 0:
                    return kind;
                case 1:
                    return tincture;
                case 2:
                    return number;
                case 3:
                    return attitude;
                case 4:
                    return place;
                case 5:
                    return dutyCount();
                case 6:
                    return firstDuty();
                case 7:
                    return lastDuty();
                default:
                    return NONE;
            }
        }

        int dutyCount() {
            int told = 0;
            for (int duty = 0; duty < DUTY_COUNT; duty++) {
                if (duties[duty] != NONE) {
                    told++;
                }
            }
            return told;
        }

        boolean isLike(Part other) {
            if (kind != other.kind || tincture != other.tincture || number != other.number || attitude != other.attitude) {
                return false;
            }
            for (int duty = 0; duty < DUTY_COUNT; duty++) {
                if (duties[duty] != other.duties[duty]) {
                    return false;
                }
            }
            return true;
        }

        /** Whether a kind may have a duty. */
        static boolean allows(int kind, int duty) {
            switch (duty) {
                case 0:
                    return kind == LION || kind == BOAR || kind == EAGLE;
                case 1:
                    return kind == STAG;
                case 2:
                    return kind == LION || kind == EAGLE;
                case 3:
                    return kind == ROSE;
                case 4:
                    return kind == TOWER;
                default:
                    return false;
            }
        }

        private int firstDuty() {
            for (int duty = 0; duty < DUTY_COUNT; duty++) {
                if (duties[duty] != NONE) {
                    return duties[duty];
                }
            }
            return NONE;
        }

        private int lastDuty() {
            for (int duty = DUTY_COUNT - 1; duty >= 0; duty--) {
                if (duties[duty] != NONE) {
                    return duties[duty];
                }
            }
            return NONE;
        }
    }

    /** A field and the parts on it, by their places. */
    private static final class Shield {
        private int parting;
        private int first = NONE;
        private int second = NONE;
        private final Part[] parts = new Part[PLACES];
        /** How many points each tincture has: drawn once, when first asked for. */
        private int[] pointsOf;

        Part partAt(int place) {
            return place >= 0 && place < PLACES ? parts[place] : null;
        }

        void setPart(Part piece) {
            if (piece.place >= 0 && piece.place < PLACES) {
                parts[piece.place] = piece;
            }
        }

        Part partInOrder(int p) {
            int seen = 0;
            for (int place = 0; place < PLACES; place++) {
                if (parts[place] != null) {
                    if (seen == p) {
                        return parts[place];
                    }
                    seen++;
                }
            }
            return null;
        }

        int detail(int what) {
            switch (what) {
                case 0:
                    return parting;
                case 1:
                    return first;
                case 2:
                    return second;
                case 3:
                    return partCount();
                default:
                    return NONE;
            }
        }

        int differences(Shield other) {
            boolean sameField = parting == other.parting && first == other.first && second == other.second;
            int found = sameField ? 0 : 1;
            for (int place = 0; place < PLACES; place++) {
                if (!samePart(parts[place], other.parts[place])) {
                    found++;
                }
            }
            return found;
        }

        /** The sort of what a part lies on. */
        int sortBelow(Part piece) {
            Part under = null;
            if (piece.place == ON_ORDINARY) {
                under = parts[ORDINARY];
            } else if (piece.place == ON_CHIEF) {
                under = parts[CHIEF];
            }
            return under == null ? fieldSort() : sortOf(under.tincture);
        }

        private int fieldSort() {
            int sort = sortOf(first);
            return parting == 0 || sort == sortOf(second) ? sort : 0;
        }

        private int partCount() {
            int seen = 0;
            for (int place = 0; place < PLACES; place++) {
                if (parts[place] != null) {
                    seen++;
                }
            }
            return seen;
        }

        private static boolean samePart(Part one, Part other) {
            if (one == null || other == null) {
                return one == other;
            }
            return one.isLike(other);
        }
    }

    /** Reads a shield. Each method goes on over what it takes and stays at the token that it refuses. */
    private static final class ShieldReader {
        private static final int WITHIN = 6;
        private static final int FOR = 7;

        private final Tokens tokens;

        ShieldReader(Tokens tokens) {
            this.tokens = tokens;
        }

        /** The shield, or null if the text is refused. */
        Shield readShield() {
            Shield shield = new Shield();
            if (!readField(shield)) {
                return null;
            }
            int last = NONE;
            for (int i = 0; i < PLACES && !tokens.atEnd(); i++) {
                last = readMember(shield, last);
                if (last == NONE) {
                    return null;
                }
            }
            return tokens.atEnd() ? shield : null;
        }

        private boolean readField(Shield shield) {
            int word = tokens.take(PARTINGS);
            if (word == NONE) {
                shield.first = tokens.take(TINCTURES);
                return shield.first != NONE;
            }
            shield.parting = word == 0 ? tokens.take(LINES) + 1 : word + 5;
            if (shield.parting == 0) {
                return false;
            }
            shield.first = tokens.take(TINCTURES);
            if (shield.first == NONE || !tokens.takeWord("and ")) {
                return false;
            }
            if (tokens.among(TINCTURES) == shield.first) {
                return false;
            }
            shield.second = tokens.take(TINCTURES);
            return shield.second != NONE;
        }

        /** Reads the part behind the one whose place is last: its own place, NONE if it is refused. */
        private int readMember(Shield shield, int last) {
            if ((last == ORDINARY || last == CHIEF) && tokens.takeWord("charged ")) {
                return readOn(shield, last + 1);
            }
            if (last == MARK || !tokens.takeByte(',')) {
                return NONE;
            }
            int opening = tokens.among(OPENINGS);
            if (opening == NONE || last >= latestPlace(opening)) {
                return NONE;
            }
            tokens.advance();
            if (opening == WITHIN) {
                return readBordure(shield);
            }
            if (opening == FOR) {
                return readMark(shield);
            }
            int kind = opening == 0 ? tokens.among(KINDS) : NONE;
            if (kind >= PALE && kind <= PILE && last < ORDINARY) {
                tokens.advance();
                return readPlain(shield, ORDINARY, kind);
            }
            if (kind == CHIEF_KIND) {
                tokens.advance();
                return readPlain(shield, CHIEF, kind);
            }
            return last < CHARGES ? readCharges(shield, CHARGES, opening + 1) : NONE;
        }

        /** The latest place of a part that begins with a word of OPENINGS. */
        private static int latestPlace(int opening) {
            switch (opening) {
                case 0:
                    return CHIEF;
                case WITHIN:
                    return BORDURE;
                case FOR:
                    return MARK;
                default:
                    return CHARGES;
            }
        }

        private int readOn(Shield shield, int place) {
            if (!tokens.takeWord("with ")) {
                return NONE;
            }
            int number = tokens.take(NUMBERS) + 1;
            return number > 0 ? readCharges(shield, place, number) : NONE;
        }

        private int readBordure(Shield shield) {
            boolean named = tokens.takeWord("a ") && tokens.takeWord("bordure ");
            return named ? readPlain(shield, BORDURE, BORDURE_KIND) : NONE;
        }

        private int readMark(Shield shield) {
            if (!tokens.takeWord("difference ") || !tokens.takeWord("a ")) {
                return NONE;
            }
            int kind = tokens.among(KINDS);
            return tokens.takeWord(MARKS) ? readPlain(shield, MARK, kind) : NONE;
        }

        /** Reads the tincture of a part that has nothing else behind its name. */
        private int readPlain(Shield shield, int place, int kind) {
            Part piece = new Part(place, kind, 1);
            shield.setPart(piece);
            return readTincture(piece) ? place : NONE;
        }

        /** Reads charges from their name on. */
        private int readCharges(Shield shield, int place, int number) {
            int kind = number == 1 ? tokens.among(KINDS) : LION + tokens.among(GROUPS);
            if (!isCharge(kind)) {
                return NONE;
            }
            tokens.advance();
            Part piece = new Part(place, kind, number);
            shield.setPart(piece);
            return readAttitude(piece) && readTincture(piece) && readDuties(piece) ? place : NONE;
        }

        private boolean readAttitude(Part piece) {
            if (piece.kind > EAGLE) {
                return true;
            }
            int attitude = tokens.among(ATTITUDES) + 1;
            boolean fits = piece.kind == EAGLE ? attitude > 3 : attitude > 0 && attitude <= 3;
            if (fits) {
                piece.attitude = attitude;
                tokens.advance();
            }
            return fits;
        }

        private boolean readTincture(Part piece) {
            piece.tincture = tokens.take(TINCTURES);
            return piece.tincture != NONE;
        }

        /** A duty that does not fit is left standing: what comes behind charges refuses it there. */
        private boolean readDuties(Part piece) {
            for (int duty = 0; duty < Part.DUTY_COUNT; duty++) {
                if (tokens.among(DUTIES) == duty && Part.allows(piece.kind, duty)) {
                    tokens.advance();
                    piece.duties[duty] = tokens.take(TINCTURES);
                    if (piece.duties[duty] == NONE) {
                        return false;
                    }
                }
            }
            return true;
        }
    }

    /** What was written last. */
    private static final class Pen {
        /** A text of 240 bytes grows by a blank behind each of its five commas at most. */
        private final char[] row = new char[TAPE_SIZE + 16];
        private int length;

        int writeShield(Shield shield) {
            length = 0;
            putField(shield);
            for (int place = 0; place < PLACES; place++) {
                Part piece = shield.partAt(place);
                if (piece != null) {
                    putPart(piece);
                }
            }
            return length;
        }

        int byteAt(int i) {
            return i >= 0 && i < length ? row[i] : NONE;
        }

        private void putField(Shield shield) {
            if (shield.parting > 0 && shield.parting <= 5) {
                putWord(PARTINGS, 0);
                putWord(LINES, shield.parting - 1);
            } else if (shield.parting > 5) {
                putWord(PARTINGS, shield.parting - 5);
            }
            putWord(TINCTURES, shield.first);
            if (shield.parting > 0) {
                putWord("and ", 0);
                putWord(TINCTURES, shield.second);
            }
        }

        private void putPart(Part piece) {
            if (piece.place == ON_ORDINARY || piece.place == ON_CHIEF) {
                putWord("charged with ", 0);
                putWord("charged with ", 1);
            } else {
                put(',');
            }
            if (piece.place == BORDURE) {
                putWord("within ", 0);
            } else if (piece.place == MARK) {
                putWord("for difference ", 0);
                putWord("for difference ", 1);
            }
            putWord(NUMBERS, piece.number - 1);
            putName(piece);
            if (piece.attitude > 0) {
                putWord(ATTITUDES, piece.attitude - 1);
            }
            putWord(TINCTURES, piece.tincture);
            putDuties(piece);
        }

        private void putName(Part piece) {
            if (piece.number == 1) {
                putWord(KINDS, piece.kind);
            } else {
                putWord(GROUPS, piece.kind - LION);
            }
        }

        private void putDuties(Part piece) {
            for (int duty = 0; duty < Part.DUTY_COUNT; duty++) {
                if (piece.duties[duty] != NONE) {
                    putWord(DUTIES, duty);
                    putWord(TINCTURES, piece.duties[duty]);
                }
            }
        }

        private void putWord(String list, int number) {
            if (length > 0) {
                put(' ');
            }
            int passed = 0;
            for (int i = 0; i < list.length() && passed <= number; i++) {
                if (list.charAt(i) == ' ') {
                    passed++;
                } else if (passed == number) {
                    put(list.charAt(i));
                }
            }
        }

        private void put(char c) {
            if (length < row.length) {
                row[length] = c;
                length++;
            }
        }
    }

    /** Bodies of rules for kinds, each as steps for a stack: a number, a word's value, or a sign. */
    private static final class Pack {
        private static final int MOST_BODIES = 12;
        private static final int WORDS_FROM = 10000;
        private static final int SIGNS_FROM = 20000;
        private static final int NEXT = 8;

        private int bodies;
        private int used;
        private final int[] rules = new int[MOST_BODIES];
        private final int[] kinds = new int[MOST_BODIES];
        /** Body i has the steps from starts[i] to just below starts[i + 1]. */
        private final int[] starts = new int[MOST_BODIES + 1];
        private final int[] nexts = new int[MOST_BODIES];
        private final int[] steps = new int[TAPE_SIZE];

        void clear() {
            bodies = 0;
            used = 0;
        }

        boolean isFull() {
            return bodies >= MOST_BODIES;
        }

        void open(int rule, int kind) {
            if (bodies < MOST_BODIES) {
                rules[bodies] = rule;
                kinds[bodies] = kind;
                nexts[bodies] = 0;
                starts[bodies] = used;
                starts[bodies + 1] = used;
                bodies++;
            }
        }

        /** Puts a step behind those of the body opened last. */
        void addStep(int step) {
            if (used < TAPE_SIZE && bodies > 0) {
                steps[used] = step;
                used++;
                starts[bodies] = used;
                if (step == WORDS_FROM + NEXT) {
                    nexts[bodies - 1]++;
                }
            }
        }

        int find(int rule, int kind) {
            for (int i = 0; i < bodies; i++) {
                if (rules[i] == rule && kinds[i] == kind) {
                    return i;
                }
            }
            return NONE;
        }
    }

    /** Reads a pack; likewise it stays at the token that it refuses. */
    private static final class PackReader {
        private static final int MOST_OPEN = 9;
        private static final int MOST_DIGITS = 4;
        private static final int FIRST_PRODUCT_SIGN = 2;

        private final Tokens tokens;

        PackReader(Tokens tokens) {
            this.tokens = tokens;
        }

        /** Fills a pack with the bodies told, or answers false if the text is refused. */
        boolean fill(Pack draft) {
            draft.clear();
            for (int i = 0; i < TAPE_SIZE && !tokens.atEnd(); i++) {
                if (!readBody(draft)) {
                    return false;
                }
            }
            return tokens.atEnd();
        }

        private boolean readBody(Pack draft) {
            if (draft.isFull() || !tokens.takeWord("rule ")) {
                return false;
            }
            int rule = tokens.number(1);
            if (!isRule(rule)) {
                return false;
            }
            tokens.advance();
            if (!tokens.takeWord("for ")) {
                return false;
            }
            int kind = tokens.among(KINDS);
            if (kind == NONE || draft.find(rule, kind) != NONE) {
                return false;
            }
            tokens.advance();
            draft.open(rule, kind);
            return tokens.takeByte(':') && readExpression(draft, 0) && tokens.takeByte(';');
        }

        private boolean readExpression(Pack draft, int open) {
            if (!readTerm(draft, open)) {
                return false;
            }
            for (int i = 0; i < TAPE_SIZE; i++) {
                int sign = tokens.signNumber();
                if (sign == NONE || sign >= FIRST_PRODUCT_SIGN) {
                    return true;
                }
                tokens.advance();
                if (!readTerm(draft, open)) {
                    return false;
                }
                draft.addStep(Pack.SIGNS_FROM + sign);
            }
            return true;
        }

        private boolean readTerm(Pack draft, int open) {
            if (!readFactor(draft, open)) {
                return false;
            }
            for (int i = 0; i < TAPE_SIZE; i++) {
                int sign = tokens.signNumber();
                if (sign < FIRST_PRODUCT_SIGN) {
                    return true;
                }
                tokens.advance();
                if (!readFactor(draft, open)) {
                    return false;
                }
                draft.addStep(Pack.SIGNS_FROM + sign);
            }
            return true;
        }

        private boolean readFactor(Pack draft, int open) {
            int number = tokens.number(MOST_DIGITS);
            if (number != NONE) {
                draft.addStep(number);
                tokens.advance();
                return true;
            }
            int word = tokens.take(VALUES);
            if (word != NONE) {
                draft.addStep(Pack.WORDS_FROM + word);
                return true;
            }
            if (open >= MOST_OPEN || !tokens.takeByte('(')) {
                return false;
            }
            return readExpression(draft, open + 1) && tokens.takeByte(')');
        }
    }

    /**
     * Where offices judge. The bodies for a kind stand in seats: of the kind, its family and so on
     * upwards two each, the first for the office's own body, the second for the common one.
     */
    private static final class Bench {
        private static final int SEATS = 8;
        private static final int OWN = 32;

        private final Pack common = new Pack();
        private final Pack[] own = new Pack[OFFICES];
        /** What is read becomes an office's only when it was read whole. */
        private Pack draft = new Pack();
        /** Nine brackets, each with a sum and a product left open, need 21 entries. */
        private final int[] stack = new int[32];
        private int begun;

        Bench() {
            for (int office = 0; office < OFFICES; office++) {
                own[office] = new Pack();
            }
        }

        void seatDraft(int office) {
            if (isOffice(office)) {
                Pack before = own[office];
                own[office] = draft;
                draft = before;
            }
        }

        int bodiesOf(int office) {
            return isOffice(office) ? own[office].bodies : NONE;
        }

        /** The kind whose body is taken, and OWN more if it is the office's; NONE without a body. */
        int choice(int kind, int rule, int office) {
            for (int seat = 0; seat < SEATS; seat++) {
                int seated = kindInSeat(kind, seat);
                if (packOfSeat(seat, office).find(rule, seated) != NONE) {
                    return seat % 2 == 0 ? seated + OWN : seated;
                }
            }
            return NONE;
        }

        /**
         * A part's number. The seats are gone through from the top down, so that each body finds
         * the value of next ready; the bodies that it begins are those it asks for that way.
         */
        int numberOf(Shield shield, Part piece, int rule, int office) {
            int value = 0;
            int bodies = 0;
            for (int seat = SEATS - 1; seat >= 0; seat--) {
                Pack pack = packOfSeat(seat, office);
                int body = pack.find(rule, kindInSeat(piece.kind, seat));
                if (body != NONE) {
                    value = run(pack, body, shield, piece, value);
                    bodies = 1 + pack.nexts[body] * bodies;
                }
            }
            begun += bodies;
            return value;
        }

        private Pack packOfSeat(int seat, int office) {
            return seat % 2 == 0 && isOffice(office) ? own[office] : common;
        }

        private static int kindInSeat(int kind, int seat) {
            int above = kind;
            for (int i = 0; i < seat / 2; i++) {
                above = familyOf(above);
            }
            return above;
        }

        private int run(Pack pack, int body, Shield shield, Part piece, int next) {
            int top = 0;
            for (int i = pack.starts[body]; i < pack.starts[body + 1]; i++) {
                int step = pack.steps[i];
                if (step >= Pack.SIGNS_FROM) {
                    if (top >= 2) {
                        top--;
                        stack[top - 1] = combine(step - Pack.SIGNS_FROM, stack[top - 1], stack[top]);
                    }
                } else if (top < stack.length) {
                    stack[top] = step < Pack.WORDS_FROM ? step : valueOf(step - Pack.WORDS_FROM, shield, piece, next);
                    top++;
                }
            }
            return top > 0 ? stack[0] : 0;
        }

        private static int combine(int sign, int left, int right) {
            switch (sign) {
                case 0:
                    return left + right;
                case 1:
                    return left - right;
                case 2:
                    return left * right;
                case 3:
                    return left == right ? 1 : 0;
                case 4:
                    return left < right ? 1 : 0;
                default:
                    return left > right ? 1 : 0;
            }
        }

        private static int valueOf(int word, Shield shield, Part piece, int next) {
            switch (word) {
                case 0:
                    return sortOf(piece.tincture);
                case 1:
                    return shield.sortBelow(piece);
                case 2:
                    return piece.tincture;
                case 3:
                    return piece.number;
                case 4:
                    return piece.attitude;
                case 5:
                    return piece.dutyCount();
                case 6:
                    return piece.kind;
                case 7:
                    return piece.place;
                default:
                    return next;
            }
        }
    }

    /** Draws shields. u and v count in half points from the middle of the shield. */
    private static final class Painter {
        private static final int WIDTH = 60;
        private static final int HEIGHT = 72;
        private static final int RIM = 5;
        private static final int MARK_SIDE = 8;
        private static final int MARK_V = -30;
        private static final int CHIEF_V = -49;

        /** Middles of charges on the field: one, two, three and so on, one behind the other. */
        private static final int[] FIELD_U = {0, -20, 20, -20, 20, 0, -20, 20, -20, 20, -20, 20, -20, 20, 0, -24, 0, 24, -14, 14, 0};
        private static final int[] FIELD_V = {0, 0, 0, -30, -30, 20, -30, -30, 20, 20, -30, -30, 20, 20, -5, -30, -30, -30, 0, 0, 30};

        static int[] pointsOf(Shield shield) {
            int[] found = new int[TINCTURE_COUNT];
            for (int y = 0; y < HEIGHT; y++) {
                for (int x = 0; x < WIDTH; x++) {
                    int tincture = tinctureAt(shield, x, y);
                    if (tincture >= 0 && tincture < TINCTURE_COUNT) {
                        found[tincture]++;
                    }
                }
            }
            return found;
        }

        static int tinctureAt(Shield shield, int x, int y) {
            if (!isInside(x, y)) {
                return NONE;
            }
            for (int place = PLACES - 1; place >= 0; place--) {
                Part piece = shield.partAt(place);
                if (piece != null && covers(piece, x, y)) {
                    return piece.tincture;
                }
            }
            return isSecond(shield.parting, x, y) ? shield.second : shield.first;
        }

        private static boolean isInside(int x, int y) {
            if (x < 0 || x >= WIDTH || y < 0 || y >= HEIGHT) {
                return false;
            }
            return y < 36 || Math.abs(2 * x - 59) <= 59 - (y - 36) * (y - 36) / 22;
        }

        private static boolean isSecond(int parting, int x, int y) {
            int u = 2 * x - 59;
            int v = 2 * y - 71;
            switch (parting) {
                case 1:
                    return u > 0;
                case 2:
                    return v > 0;
                case 3:
                    return u > v;
                case 4:
                    return v > Math.abs(u);
                case 5:
                    return Math.abs(u) > Math.abs(v);
                case 6:
                    return (u > 0) != (v > 0);
                case 7:
                    return isOdd(x / 10);
                case 8:
                    return isOdd(y / 12);
                case 9:
                    return isOdd((x + y) / 12);
                case 10:
                    return isOdd(x / 10 + y / 12);
                default:
                    return false;
            }
        }

        private static boolean covers(Part piece, int x, int y) {
            switch (piece.place) {
                case ORDINARY:
                    return ordinaryCovers(piece.kind, 2 * x - 59, 2 * y - 71);
                case CHIEF:
                    return y < 22;
                case BORDURE:
                    return !isInside(x - RIM, y) || !isInside(x + RIM, y) || !isInside(x, y - RIM) || !isInside(x, y + RIM);
                default:
                    return chargesCover(piece, 2 * x - 59, 2 * y - 71);
            }
        }

        private static boolean ordinaryCovers(int kind, int u, int v) {
            switch (kind) {
                case PALE:
                    return Math.abs(u) < 20;
                case FESS:
                    return Math.abs(v) < 24;
                case BEND:
                    return Math.abs(u - v) < 24;
                case CHEVRON:
                    return Math.abs(v - Math.abs(u)) < 20 && v > -30;
                case CROSS:
                    return Math.abs(u) < 14 || Math.abs(v) < 14;
                case SALTIRE:
                    return Math.abs(u - v) < 18 || Math.abs(u + v) < 18;
                case PILE:
                    return 3 * Math.abs(u) < 71 - v && v < 50;
                default:
                    return false;
            }
        }

        private static boolean chargesCover(Part piece, int u, int v) {
            int side = sideOf(piece);
            for (int i = 0; i < piece.number; i++) {
                if (chargeCovers(piece.kind, side, u - middleU(piece, side, i), v - middleV(piece, i))) {
                    return true;
                }
            }
            return false;
        }

        private static int sideOf(Part piece) {
            if (piece.place == MARK) {
                return MARK_SIDE;
            }
            if (piece.number == 1) {
                return 16;
            }
            return piece.number <= 3 ? 12 : 10;
        }

        private static int middleU(Part piece, int side, int i) {
            if (piece.place == CHARGES) {
                return entry(FIELD_U, piece.number * (piece.number - 1) / 2 + i);
            }
            return (2 * i - (piece.number - 1)) * (side + 2);
        }

        private static int middleV(Part piece, int i) {
            switch (piece.place) {
                case CHARGES:
                    return entry(FIELD_V, piece.number * (piece.number - 1) / 2 + i);
                case ON_CHIEF:
                    return CHIEF_V;
                case MARK:
                    return MARK_V;
                default:
                    return 0;
            }
        }

        /** Whether a charge of side h has the point d to the right of its middle and e below it. */
        private static boolean chargeCovers(int kind, int h, int d, int e) {
            switch (familyOf(kind)) {
                case BEAST:
                    return Math.abs(d) < h && Math.abs(e) < h;
                case BIRD:
                    return Math.abs(d) + Math.abs(e) < h;
                case PLANT:
                    return d * d + e * e < h * h;
                default:
                    return thingCovers(kind, h, d, e);
            }
        }

        private static boolean thingCovers(int kind, int h, int d, int e) {
            int wide = Math.abs(d);
            int high = Math.abs(e);
            int far = d * d + e * e;
            int lowered = e + h / 2;
            switch (kind) {
                case MULLET:
                    return wide + high < h || (wide < h / 2 && high < h / 2);
                case CRESCENT:
                    return far < h * h && d * d + lowered * lowered >= h * h / 2;
                case ANNULET:
                    return far < h * h && far >= h * h / 4;
                case ROUNDEL:
                    return far < h * h;
                case BILLET:
                    return 2 * wide < h && high < h;
                case TOWER:
                    return wide < h && high < h && (e > 0 || isOdd((d + 64) / 4));
                case LABEL:
                    return wide < h && (high < 2 || (e > 0 && isOdd((d + 64) / 4)));
                default:
                    return false;
            }
        }

        private static boolean isOdd(int n) {
            return (n & 1) == 1;
        }
    }

    /** A man or a woman of a family. */
    private static final class Person {
        private static final int MOST_QUARTERINGS = 32;

        private final int number;
        private final boolean man;
        private final Person father;
        private final Person mother;
        private final int shield;
        private final int mark;
        private final int generations;
        private Person married;
        private int sons;
        private int children;
        private final int[] quarterings = new int[MOST_QUARTERINGS];
        private int quarteringCount;
        /** A bit for each shield among the quarterings: there are fewer shields than bits. */
        private long quartered;

        Person(int number, boolean man, int shield) {
            this.number = number;
            this.man = man;
            this.father = null;
            this.mother = null;
            this.shield = shield;
            this.mark = 0;
            this.generations = 0;
        }

        /** A child, who has the mark of the sons who came before. */
        Person(int number, boolean man, Person father, Person mother) {
            this.number = number;
            this.man = man;
            this.father = father;
            this.mother = mother;
            this.shield = NONE;
            this.mark = man ? father.sons : 0;
            this.generations = father.generations + 1;
        }

        boolean isHeiress() {
            return !man && father != null && father.sons == 0;
        }

        /** Gathers the quarterings anew; those of the parents must be gathered already. */
        void gatherQuarterings() {
            quarteringCount = 0;
            quartered = 0L;
            if (father == null) {
                addQuartering(shield);
            } else {
                addQuarteringsOf(father);
            }
            if (mother != null && mother.isHeiress()) {
                addQuarteringsOf(mother);
            }
        }

        int quarteringAt(int i) {
            return i >= 0 && i < quarteringCount ? quarterings[i] : NONE;
        }

        private void addQuarteringsOf(Person parent) {
            for (int i = 0; i < parent.quarteringCount; i++) {
                addQuartering(parent.quarterings[i]);
            }
        }

        private void addQuartering(int added) {
            long bit = 1L << added;
            if ((quartered & bit) == 0L && quarteringCount < MOST_QUARTERINGS) {
                quarterings[quarteringCount] = added;
                quarteringCount++;
                quartered |= bit;
            }
        }
    }

    /** All persons, by their numbers. */
    private static final class Register {
        private static final int MOST_PERSONS = 100;
        private static final int FIRST_QUARTERING = 100;

        private final Person[] persons = new Person[MOST_PERSONS];
        private int size;
        /** For how many persons the quarterings were gathered: a later brother ends an heiress. */
        private int gathered;

        int addFounder(boolean man, int shield) {
            if (size >= MOST_PERSONS) {
                return NONE;
            }
            persons[size] = new Person(size, man, shield);
            size++;
            return size - 1;
        }

        int addChild(boolean man, int fatherNumber, int motherNumber) {
            Person father = personAt(fatherNumber);
            Person mother = personAt(motherNumber);
            if (size >= MOST_PERSONS || father == null || mother == null) {
                return NONE;
            }
            if (!father.man || father.married != mother) {
                return NONE;
            }
            persons[size] = new Person(size, man, father, mother);
            size++;
            father.children++;
            mother.children++;
            if (man) {
                father.sons++;
            }
            return size - 1;
        }

        boolean join(int manNumber, int womanNumber) {
            Person man = personAt(manNumber);
            Person woman = personAt(womanNumber);
            if (man == null || woman == null || !man.man || woman.man) {
                return false;
            }
            if (man.married != null || woman.married != null) {
                return false;
            }
            man.married = woman;
            woman.married = man;
            return true;
        }

        int detail(int p, int what) {
            Person asked = personAt(p);
            if (asked == null) {
                return NONE;
            }
            if (what == 0 || what >= FIRST_QUARTERING) {
                gather();
            }
            switch (what) {
                case 0:
                    return asked.quarteringCount;
                case 1:
                    return asked.isHeiress() ? 1 : 0;
                case 2:
                    return asked.mark;
                case 3:
                    return asked.generations;
                case 4:
                    return asked.married == null ? NONE : asked.married.number;
                case 5:
                    return asked.children;
                default:
                    return what >= FIRST_QUARTERING ? asked.quarteringAt(what - FIRST_QUARTERING) : NONE;
            }
        }

        private Person personAt(int p) {
            return p >= 0 && p < size ? persons[p] : null;
        }

        private void gather() {
            if (gathered == size) {
                return;
            }
            for (int i = 0; i < size; i++) {
                persons[i].gatherQuarterings();
            }
            gathered = size;
        }
    }
}
