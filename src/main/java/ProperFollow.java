import java.util.Arrays;
import java.util.NoSuchElementException;

/**
 * Following at a proper distance: a town, the persons who go about in it, and what can be told of them.
 * All rows are made once, by the constructor, so that no call makes anything new.
 */
public final class ProperFollow {
    public static final int NONE = -1;

    private static final int MOST_CORNERS = 8;
    private static final int MOST_STREETS = 14;
    private static final int MOST_PERSONS = 6;
    private static final int MOST_WAY = 8;
    private static final int MOST_BUNS_TOLD = 9;
    private static final int MOST_BEHIND = 5;
    private static final int KEPT_MINUTES = 6;
    private static final int MOST_PRINTS = 9999;
    private static final int ALL_OVER = 400;
    private static final int MOST_MINUTES = 60;
    private static final int MEET_WITHIN = 99;
    private static final int PROPER_WITHIN = 20;
    private static final int MOST_SEEDS = 30;
    private static final int ODDS_MINUTES = 10;
    private static final int NOT_KNOWN = 255;
    private static final int NO_SUCH_LIVES = -1000;
    private static final int IMAGES = 2;

    private static final int TOWN_BYTES = 900;
    private static final int BOOK_BYTES = 400;
    private static final int SENTENCE_BYTES = 200;

    private static final int CANNOT_COME = 1;
    private static final int BAD_NUMBER = 2;
    private static final int BAD_NAME = 3;
    private static final int TOO_MANY = 4;

    /** The words that no name may be, by the numbers below. */
    private static final String WORDS = "corner street person next follows goes drops leaves hires minute or and not alone ringed idle at after buns left behind number ";
    private static final int WORD_COUNT = 22;
    private static final int W_CORNER = 0;
    private static final int W_STREET = 1;
    private static final int W_PERSON = 2;
    private static final int W_NEXT = 3;
    private static final int W_FOLLOWS = 4;
    private static final int W_GOES = 5;
    private static final int W_DROPS = 6;
    private static final int W_LEAVES = 7;
    private static final int W_HIRES = 8;
    private static final int W_MINUTE = 9;
    private static final int W_OR = 10;
    private static final int W_AND = 11;
    private static final int W_NOT = 12;
    private static final int W_ALONE = 13;
    private static final int W_RINGED = 14;
    private static final int W_IDLE = 15;
    private static final int W_AT = 16;
    private static final int W_AFTER = 17;
    private static final int W_BUNS = 18;
    private static final int W_LEFT = 19;
    private static final int W_BEHIND = 20;

    private final Tape tape = new Tape();
    private final Reader reader = new Reader(tape);
    private final Plan plan = new Plan();
    private final Plan sparePlan = new Plan();
    private final Day day = new Day();
    private final Day spareDay = new Day();
    private final Sentence sentence = new Sentence();
    private final Sentence spareSentence = new Sentence();
    private final History history = new History();
    private final Kept[] images = new Kept[IMAGES];
    private final Book book = new Book();
    private final Pairing pairing = new Pairing();
    private final Draws draws = new Draws();
    private final Line line = new Line();
    private final int[] pathRow = new int[MOST_CORNERS];
    private int pathLength = NONE;
    private int faultKind;
    private int cutBits = NONE;
    private int barBits = NONE;
    private int askedMinutes = NONE;

    public ProperFollow() {
        for (int k = 0; k < IMAGES; k++) {
            images[k] = new Kept();
        }
    }

    public int feed(int a, int b, int c, int d, int e) {
        if (!tape.hasRoom(20)) {
            return NONE;
        }
        tape.addNumber(a);
        tape.addNumber(b);
        tape.addNumber(c);
        tape.addNumber(d);
        tape.addNumber(e);
        return tape.length();
    }

    public boolean end(int n) {
        return tape.shorten(n);
    }

    public int town() {
        reader.start(TOWN_BYTES);
        int lines = sparePlan.readFrom(reader, spareDay);
        faultKind = reader.faultKind();
        tape.clear();
        if (faultKind != 0) {
            return -1 - reader.place();
        }
        plan.copyFrom(sparePlan);
        day.copyFrom(spareDay);
        sentence.clear();
        history.clear();
        return lines;
    }

    public int fault() {
        return faultKind;
    }

    public int person(int p, int what) throws NoSuchElementException {
        if (!plan.hasPerson(p) || what < 0 || what > 6) {
            throw new NoSuchElementException("no such person, or no such thing of him");
        }
        switch (what) {
            case 0: return day.whereIs(p);
            case 1: return day.bunsOf(p);
            case 2: return day.followedBy(p);
            case 3: return day.minutesBehind(p);
            case 4: return day.wayLeft(p);
            case 5: return day.followersOf(p);
            default: return day.lastOfRow(p);
        }
    }

    public int was(int p, int k) {
        return plan.hasPerson(p) ? day.wasAt(p, k) : NONE;
    }

    public int corner(int c, int what) {
        if (!plan.hasCorner(c)) {
            return NONE;
        }
        switch (what) {
            case 0: return plan.besideOf(c);
            case 1: return day.whoWasAt(c, 0);
            case 2: return day.bunsAt(c);
            case 3: return day.printsAt(c);
            default: return NONE;
        }
    }

    public int now(int what) {
        switch (what) {
            case 0: return day.minuteNow();
            case 1: return day.whoFollows();
            case 2: return day.whoHasWay();
            case 3: return day.whoIsRinged();
            case 4: return Integer.bitCount(day.firstOfRings());
            case 5: return day.allPrints();
            case 6: return day.bunsFound();
            default: return NONE;
        }
    }

    public int send(int p, int c) {
        if (!plan.hasPerson(p) || !plan.hasCorner(c)) {
            return NONE;
        }
        spareDay.copyFrom(day);
        return settleIfDone(spareDay.goesTo(plan, p, c));
    }

    public int drop(int p) {
        if (!plan.hasPerson(p)) {
            return NONE;
        }
        spareDay.copyFrom(day);
        return settleIfDone(spareDay.dropsBun(p));
    }

    public int leave(int p) {
        if (!plan.hasPerson(p)) {
            return NONE;
        }
        spareDay.copyFrom(day);
        return settleIfDone(spareDay.leavesOff(p));
    }

    public int hire(int p, int q, int n) {
        if (!plan.hasPerson(p) || !plan.hasPerson(q) || p == q || n < 1 || n > MOST_BEHIND) {
            return NONE;
        }
        spareDay.copyFrom(day);
        return settleIfDone(spareDay.takesOn(p, q, n));
    }

    public int minutes(int n) {
        if (n < 1 || n > MOST_MINUTES) {
            return NONE;
        }
        spareDay.copyFrom(day);
        int gone = Math.min(n, spareDay.minutesLeft());
        spareDay.passMinutes(plan, gone);
        settle(gone);
        return gone;
    }

    public int undo() {
        if (history.length() == 0) {
            return NONE;
        }
        history.takeBack(day);
        return history.length();
    }

    public int ring(int p) {
        return plan.hasPerson(p) ? day.ringOf(p) : NONE;
    }

    public int cut() {
        // Rings share nobody, so one of each is the fewest, and the first of each the least as bits.
        cutBits = day.firstOfRings();
        return Integer.bitCount(cutBits);
    }

    public int cutting() {
        return cutBits;
    }

    public int meet(int p, int q) {
        if (!plan.hasPerson(p) || !plan.hasPerson(q) || p == q) {
            return NONE;
        }
        spareDay.copyFrom(day);
        for (int gone = 0; gone <= MEET_WITHIN; gone++) {
            if (spareDay.whereIs(p) == spareDay.whereIs(q)) {
                return gone;
            }
            spareDay.passMinutes(plan, 1);
        }
        return NONE;
    }

    public int proper(int p, int q) {
        if (!plan.hasPerson(p) || !plan.hasPerson(q) || p == q) {
            return NONE;
        }
        for (int n = 1; n <= MOST_BEHIND; n++) {
            if (staysUnseen(p, q, n)) {
                return n;
            }
        }
        return NONE;
    }

    public int fits() {
        int who = whoFitsTape();
        tape.clear();
        if (who > 0) {
            askedMinutes = bestQuestion(who);
        }
        return who;
    }

    public int ask() {
        return askedMinutes;
    }

    public int path(int p, int c) {
        if (!plan.hasPerson(p)) {
            return NONE;
        }
        int at = day.whereIs(p);
        int far = plan.farFrom(at, c);
        if (far == NONE) {
            return NONE;
        }
        for (int k = 0; k < far && k < MOST_CORNERS; k++) {
            at = plan.stepTowards(at, c);
            pathRow[k] = at;
        }
        pathLength = far;
        return far;
    }

    public int pathAt(int k) {
        return k >= 0 && k < pathLength && k < MOST_CORNERS ? pathRow[k] : NONE;
    }

    public int bar(int c, int d) {
        if (!plan.hasCorner(c) || !plan.hasCorner(d) || c == d || plan.areBeside(c, d)) {
            return NONE;
        }
        barBits = plan.leastBar(c, d);
        return Integer.bitCount(barBits);
    }

    public int barred() {
        return barBits;
    }

    public int hires() {
        pairing.choose(plan, day);
        return pairing.pairs();
    }

    public int hiresFar() {
        return pairing.farInAll();
    }

    public int hiredBy(int p) {
        return pairing.chosenFor(p);
    }

    public int mean(int what) throws NoSuchElementException {
        int persons = plan.persons();
        if (persons < 1 || what < 0 || what > 1) {
            throw new NoSuchElementException("no persons, or no such number of a fraction");
        }
        int prints = day.allPrints();
        int common = commonDivisor(prints, persons);
        if (common < 1) {
            return NONE;
        }
        return what == 0 ? prints / common : persons / common;
    }

    public int line(int p) {
        if (!plan.hasPerson(p)) {
            return NONE;
        }
        line.clear();
        line.addName(plan.personName(p));
        line.addText(" at ");
        line.addName(plan.cornerName(day.whereIs(p)));
        if (day.followedBy(p) != NONE) {
            line.addText(" after ");
            line.addName(plan.personName(day.followedBy(p)));
        } else if (day.wayLeft(p) > 0) {
            line.addText(" goes ");
            line.addDigit(day.wayLeft(p));
        } else {
            line.addText(" stays");
        }
        return line.length();
    }

    public int byteAt(int i) {
        return line.byteOf(i);
    }

    public int drawn(int n, int seed) {
        if (n < 1 || n > MOST_MINUTES) {
            return NONE;
        }
        spareDay.copyFrom(day);
        int gone = draws.passMinutes(plan, spareDay, n, seed);
        settle(gone);
        return gone;
    }

    public int odds(int p, int n, int seed) {
        if (!plan.hasPerson(p) || n < 1 || n > MOST_SEEDS) {
            return NONE;
        }
        int followed = 0;
        for (int k = 0; k < n; k++) {
            spareDay.copyFrom(day);
            draws.passMinutes(plan, spareDay, ODDS_MINUTES, seed + k);
            if (spareDay.followersOf(p) != 0) {
                followed++;
            }
        }
        return followed;
    }

    public int book(int lives) {
        if (lives < 0 || lives > 1) {
            return NO_SUCH_LIVES;
        }
        reader.start(BOOK_BYTES);
        book.readFrom(reader, plan);
        faultKind = reader.faultKind();
        tape.clear();
        if (faultKind != 0) {
            return -2 - reader.place();
        }
        spareDay.copyFrom(day);
        int wrong = book.judge(plan, spareDay);
        if (lives == 1) {
            settle(book.goodLines());
        }
        return wrong;
    }

    public int told(int what) {
        return book.toldOf(what);
    }

    public int sentence() {
        reader.start(SENTENCE_BYTES);
        spareSentence.readFrom(reader, plan);
        faultKind = reader.faultKind();
        tape.clear();
        if (faultKind != 0) {
            return -1 - reader.place();
        }
        sentence.copyFrom(spareSentence);
        return sentence.ones();
    }

    public int said(int k) {
        if (!sentence.isThere() || k < NONE) {
            return NONE;
        }
        int who = sentence.whoFits(plan, day);
        if (k == NONE) {
            return Integer.bitCount(who);
        }
        int before = 0;
        for (int p = 0; p < MOST_PERSONS; p++) {
            if (hasBit(who, p)) {
                if (before == k) {
                    return p;
                }
                before++;
            }
        }
        return NONE;
    }

    public boolean image(int k) {
        Kept kept = imageIn(k);
        if (kept == null) {
            return false;
        }
        kept.keep(plan, day, sentence);
        return true;
    }

    public boolean restore(int k) {
        Kept kept = imageIn(k);
        if (kept == null || !kept.isFull()) {
            return false;
        }
        kept.giveBack(plan, day, sentence);
        history.clear();
        return true;
    }

    public int count(int what) {
        switch (what) {
            case 0: return plan.corners();
            case 1: return plan.streets();
            case 2: return plan.persons();
            case 3: return tape.length();
            default: return NONE;
        }
    }

    private Kept imageIn(int k) {
        return k >= 0 && k < IMAGES ? images[k] : null;
    }

    private int settleIfDone(int why) {
        settle(why == 0 ? 1 : 0);
        return why;
    }

    /** What was tried on the spare day is so now, and can be undone, if anything was done. */
    private void settle(int done) {
        if (done > 0) {
            history.add(day);
            day.copyFrom(spareDay);
        }
    }

    private boolean staysUnseen(int p, int q, int n) {
        spareDay.copyFrom(day);
        spareDay.followsInstead(p, q, n);
        for (int gone = 0; gone < PROPER_WITHIN; gone++) {
            spareDay.passMinutes(plan, 1);
            int at = spareDay.whereIs(p);
            int his = spareDay.whereIs(q);
            if (at == his || plan.areBeside(at, his)) {
                return false;
            }
        }
        return true;
    }

    private int whoFitsTape() {
        int known = tape.length();
        if (known < 1 || known > KEPT_MINUTES) {
            return NONE;
        }
        int who = (1 << plan.persons()) - 1;
        for (int k = 0; k < known; k++) {
            int c = tape.byteOf(k);
            if (c != NOT_KNOWN && !plan.hasCorner(c)) {
                return NONE;
            }
            if (c != NOT_KNOWN) {
                who &= day.whoWasAt(c, k);
            }
        }
        return who;
    }

    private int bestQuestion(int who) {
        int best = NONE;
        int bestLeft = MOST_PERSONS + 1;
        for (int k = 0; k < KEPT_MINUTES; k++) {
            int left = 0;
            for (int c = 0; c < MOST_CORNERS; c++) {
                left = Math.max(left, Integer.bitCount(who & day.whoWasAt(c, k)));
            }
            if (left < bestLeft) {
                bestLeft = left;
                best = k;
            }
        }
        return best;
    }

    /** The greatest divisor of both, where the second one is at most the number of persons. */
    private static int commonDivisor(int above, int below) {
        for (int divisor = MOST_PERSONS; divisor > 1; divisor--) {
            if (above % divisor == 0 && below % divisor == 0) {
                return divisor;
            }
        }
        return 1;
    }

    private static boolean hasBit(int bits, int k) {
        return (bits >> k & 1) != 0;
    }

    /** The bytes that came and were not read yet. */
    private static final class Tape {
        private static final int MOST = 940;
        private final int[] bytes = new int[MOST];
        private int size;

        int length() {
            return size;
        }

        boolean hasRoom(int more) {
            return size + more <= MOST;
        }

        void addNumber(int number) {
            for (int shift = 24; shift >= 0; shift -= 8) {
                if (size < MOST) {
                    bytes[size] = number >>> shift & 255;
                    size++;
                }
            }
        }

        boolean shorten(int n) {
            if (n < 0 || n > size) {
                return false;
            }
            size = n;
            return true;
        }

        void clear() {
            size = 0;
        }

        int byteOf(int i) {
            return i >= 0 && i < size ? bytes[i] : NONE;
        }
    }

    /** Reads the tape token by token and holds the first fault; behind a fault it goes no further. */
    private static final class Reader {
        private static final int NO_TOKEN = 0;
        private static final int WORD = 1;
        private static final int NUMBER = 2;
        private static final int END = 3;
        private static final int MOST_LETTERS = 7;
        private static final int MOST_DIGITS = 3;

        private final Tape tape;
        private final long[] toldWords = packedWords();
        private int most;
        private int begin;
        private int behind;
        private int kind;
        private long word;
        private int number;
        private int faultSeen;

        Reader(Tape tape) {
            this.tape = tape;
        }

        private static long[] packedWords() {
            long[] packed = new long[WORD_COUNT];
            int k = 0;
            for (int i = 0; i < WORDS.length() && k < WORD_COUNT; i++) {
                char sign = WORDS.charAt(i);
                if (sign == ' ') {
                    k++;
                } else {
                    packed[k] = withLetter(packed[k], sign);
                }
            }
            return packed;
        }

        /** A word is held as a number of five bits a letter, so that words are compared as numbers. */
        private static long withLetter(long packed, int letter) {
            return packed * 32 + (letter - 'a' + 1);
        }

        void start(int mostBytes) {
            most = mostBytes;
            behind = 0;
            faultSeen = 0;
            goOn();
        }

        int place() {
            return begin;
        }

        int faultKind() {
            return faultSeen;
        }

        boolean isGood() {
            return faultSeen == 0;
        }

        boolean atEnd() {
            return kind == END;
        }

        boolean isSign(int sign) {
            return kind == sign;
        }

        long wordHere() {
            return word;
        }

        void fail(int faultKind) {
            if (faultSeen == 0) {
                faultSeen = faultKind;
            }
        }

        void goOn() {
            if (faultSeen != 0) {
                return;
            }
            int size = tape.length();
            int i = behind;
            for (int bound = Math.min(size, most); i < bound; i++) {
                int b = tape.byteOf(i);
                if (b != ' ' && b != '\n') {
                    break;
                }
            }
            if (size > most && i >= most) {
                begin = most;
                kind = NO_TOKEN;
            } else if (i >= size) {
                begin = size;
                kind = END;
            } else {
                begin = i;
                behind = i + 1;
                kind = tape.byteOf(i);
                if (!isSomeSign(kind)) {
                    readRun();
                }
            }
        }

        private static boolean isSomeSign(int b) {
            return b == ';' || b == '<' || b == '=' || b == '>' || b == '(' || b == ')';
        }

        /** A run of small letters and digits, to its end, however long it is. */
        private void readRun() {
            int letters = 0;
            int digits = 0;
            int i = begin;
            word = 0;
            number = 0;
            for (int size = tape.length(); i < size; i++) {
                int b = tape.byteOf(i);
                if (b >= 'a' && b <= 'z') {
                    letters++;
                    word = withLetter(word, b);
                } else if (b >= '0' && b <= '9') {
                    digits++;
                    number = number * 10 + (b - '0');
                } else {
                    break;
                }
            }
            behind = Math.max(i, begin + 1);
            if (digits == 0 && letters > 0 && letters <= MOST_LETTERS) {
                kind = WORD;
            } else if (letters == 0 && digits > 0 && digits <= MOST_DIGITS) {
                kind = NUMBER;
            } else {
                kind = NO_TOKEN;
            }
        }

        /** Which of the words that are no names stands here. */
        int toldWord() {
            if (kind == WORD) {
                for (int k = 0; k < WORD_COUNT; k++) {
                    if (toldWords[k] == word) {
                        return k;
                    }
                }
            }
            return NONE;
        }

        boolean needName() {
            if (kind != WORD || toldWord() != NONE) {
                fail(CANNOT_COME);
            }
            return isGood();
        }

        int needCorner(Plan plan) {
            int c = needName() ? plan.cornerNamed(word) : NONE;
            if (c == NONE) {
                fail(BAD_NAME);
            }
            return c;
        }

        int needPerson(Plan plan) {
            int p = needName() ? plan.personNamed(word) : NONE;
            if (p == NONE) {
                fail(BAD_NAME);
            }
            return p;
        }

        /** The number here, and on to the token behind it. */
        int takeNumber(int least, int greatest) {
            int n = number;
            if (kind != NUMBER) {
                fail(CANNOT_COME);
            } else if (n < least || n > greatest) {
                fail(BAD_NUMBER);
            }
            goOn();
            return n;
        }

        /** One of < = >, and on to the token behind it. */
        int takeComparison() {
            int sign = kind;
            if (sign != '<' && sign != '=' && sign != '>') {
                fail(CANNOT_COME);
            }
            goOn();
            return sign;
        }

        void takeSign(int sign) {
            if (kind != sign) {
                fail(CANNOT_COME);
            }
            goOn();
        }
    }

    /** What is told once of a town: names, and what is beside what. */
    private static final class Plan {
        private final long[] cornerNames = new long[MOST_CORNERS];
        private final long[] personNames = new long[MOST_PERSONS];
        private final int[] beside = new int[MOST_CORNERS];
        private final int[] far = new int[MOST_CORNERS * MOST_CORNERS];
        private int corners;
        private int streets;
        private int persons;

        int corners() {
            return corners;
        }

        int streets() {
            return streets;
        }

        int persons() {
            return persons;
        }

        boolean hasCorner(int c) {
            return c >= 0 && c < corners && c < MOST_CORNERS;
        }

        boolean hasPerson(int p) {
            return p >= 0 && p < persons && p < MOST_PERSONS;
        }

        long cornerName(int c) {
            return hasCorner(c) ? cornerNames[c] : 0;
        }

        long personName(int p) {
            return hasPerson(p) ? personNames[p] : 0;
        }

        int cornerNamed(long name) {
            for (int c = 0; c < corners && c < MOST_CORNERS; c++) {
                if (cornerNames[c] == name) {
                    return c;
                }
            }
            return NONE;
        }

        int personNamed(long name) {
            for (int p = 0; p < persons && p < MOST_PERSONS; p++) {
                if (personNames[p] == name) {
                    return p;
                }
            }
            return NONE;
        }

        int besideOf(int c) {
            return hasCorner(c) ? beside[c] : 0;
        }

        boolean areBeside(int c, int d) {
            return hasCorner(d) && hasBit(besideOf(c), d);
        }

        int farFrom(int c, int d) {
            return hasCorner(c) && hasCorner(d) ? far[c * MOST_CORNERS + d] : NONE;
        }

        /** The first corner of the row to another one; the same corner, if there is none or he is there. */
        int stepTowards(int c, int d) {
            int whole = farFrom(c, d);
            if (whole > 0) {
                for (int e = 0; e < MOST_CORNERS; e++) {
                    if (hasBit(besideOf(c), e) && farFrom(e, d) == whole - 1) {
                        return e;
                    }
                }
            }
            return c;
        }

        /** Sets are tried as bits upwards, so that the first of the fewest is the least. */
        int leastBar(int c, int d) {
            int best = (1 << corners) - 1;
            int fewest = MOST_CORNERS + 1;
            for (int without = 0; without < 1 << corners; without++) {
                boolean others = !hasBit(without, c) && !hasBit(without, d);
                if (others && Integer.bitCount(without) < fewest && !hasBit(reached(c, without), d)) {
                    best = without;
                    fewest = Integer.bitCount(without);
                }
            }
            return best;
        }

        private int reached(int c, int without) {
            int reached = 1 << c;
            for (int steps = 0; steps < MOST_CORNERS; steps++) {
                reached |= besideAny(reached) & ~without;
            }
            return reached;
        }

        private int besideAny(int bits) {
            int all = 0;
            for (int c = 0; c < MOST_CORNERS; c++) {
                if (hasBit(bits, c)) {
                    all |= beside[c];
                }
            }
            return all;
        }

        void copyFrom(Plan other) {
            System.arraycopy(other.cornerNames, 0, cornerNames, 0, MOST_CORNERS);
            System.arraycopy(other.personNames, 0, personNames, 0, MOST_PERSONS);
            System.arraycopy(other.beside, 0, beside, 0, MOST_CORNERS);
            System.arraycopy(other.far, 0, far, 0, MOST_CORNERS * MOST_CORNERS);
            corners = other.corners;
            streets = other.streets;
            persons = other.persons;
        }

        private void clear() {
            Arrays.fill(beside, 0);
            corners = 0;
            streets = 0;
            persons = 0;
        }

        /** Reads a town, with the day on which it begins: how many lines; the reader tells a fault. */
        int readFrom(Reader reader, Day day) {
            clear();
            day.clear();
            int lines = 0;
            for (int bound = TOWN_BYTES; lines < bound; lines++) {
                if (!reader.isGood() || reader.atEnd()) {
                    break;
                }
                readLine(reader, day);
                reader.takeSign(';');
            }
            measure();
            return lines;
        }

        private void readLine(Reader reader, Day day) {
            switch (reader.toldWord()) {
                case W_CORNER: readCorner(reader); break;
                case W_STREET: readStreet(reader); break;
                case W_PERSON: readPerson(reader, day); break;
                case W_NEXT: readNext(reader, day); break;
                case W_FOLLOWS: readFollows(reader, day); break;
                default: reader.fail(CANNOT_COME); break;
            }
        }

        private void readCorner(Reader reader) {
            if (corners >= MOST_CORNERS) {
                reader.fail(TOO_MANY);
                return;
            }
            reader.goOn();
            if (needNewName(reader)) {
                cornerNames[corners] = reader.wordHere();
                corners++;
            }
            reader.goOn();
        }

        private boolean needNewName(Reader reader) {
            if (reader.needName()) {
                long name = reader.wordHere();
                if (cornerNamed(name) != NONE || personNamed(name) != NONE) {
                    reader.fail(BAD_NAME);
                }
            }
            return reader.isGood();
        }

        private void readStreet(Reader reader) {
            if (streets >= MOST_STREETS) {
                reader.fail(TOO_MANY);
                return;
            }
            reader.goOn();
            int c = reader.needCorner(this);
            reader.goOn();
            int d = reader.needCorner(this);
            if (c == d || areBeside(c, d)) {
                reader.fail(BAD_NAME);
            }
            reader.goOn();
            if (reader.isGood() && hasCorner(c) && hasCorner(d)) {
                beside[c] |= 1 << d;
                beside[d] |= 1 << c;
                streets++;
            }
        }

        private void readPerson(Reader reader, Day day) {
            if (persons >= MOST_PERSONS) {
                reader.fail(TOO_MANY);
                return;
            }
            reader.goOn();
            needNewName(reader);
            long name = reader.wordHere();
            reader.goOn();
            int c = reader.needCorner(this);
            reader.goOn();
            int buns = reader.takeNumber(0, MOST_BUNS_TOLD);
            if (reader.isGood()) {
                personNames[persons] = name;
                day.begin(persons, c, buns);
                persons++;
            }
        }

        private void readNext(Reader reader, Day day) {
            reader.goOn();
            int p = reader.needPerson(this);
            if (day.followedBy(p) != NONE) {
                reader.fail(BAD_NAME);
            }
            if (day.wayLeft(p) >= MOST_WAY) {
                reader.fail(TOO_MANY);
            }
            reader.goOn();
            int c = reader.needCorner(this);
            if (reader.isGood() && day.goesTo(this, p, c) != 0) {
                reader.fail(BAD_NAME);
            }
            reader.goOn();
        }

        private void readFollows(Reader reader, Day day) {
            reader.goOn();
            int p = reader.needPerson(this);
            if (day.followedBy(p) != NONE || day.wayLeft(p) > 0) {
                reader.fail(BAD_NAME);
            }
            reader.goOn();
            int q = reader.needPerson(this);
            if (p == q) {
                reader.fail(BAD_NAME);
            }
            reader.goOn();
            int n = reader.takeNumber(1, MOST_BEHIND);
            if (reader.isGood()) {
                day.takesOn(q, p, n);
            }
        }

        private void measure() {
            Arrays.fill(far, NONE);
            for (int c = 0; c < corners && c < MOST_CORNERS; c++) {
                int seen = 0;
                int edge = 1 << c;
                for (int steps = 0; steps < MOST_CORNERS; steps++) {
                    noteFar(c, edge, steps);
                    seen |= edge;
                    edge = besideAny(edge) & ~seen;
                }
            }
        }

        private void noteFar(int c, int edge, int steps) {
            for (int d = 0; d < MOST_CORNERS; d++) {
                if (hasBit(edge, d)) {
                    far[c * MOST_CORNERS + d] = steps;
                }
            }
        }
    }

    /** All that is so in a town at one minute. */
    private static final class Day {
        /** Of each person where he was so many minutes ago, the nearest first; NONE: no such person. */
        private final int[] places = new int[MOST_PERSONS * KEPT_MINUTES];
        private final int[] buns = new int[MOST_PERSONS];
        private final int[] leaders = new int[MOST_PERSONS];
        private final int[] distances = new int[MOST_PERSONS];
        private final int[] ways = new int[MOST_PERSONS * MOST_WAY];
        private final int[] left = new int[MOST_PERSONS];
        private final int[] lying = new int[MOST_CORNERS];
        private final int[] prints = new int[MOST_CORNERS];
        private final int[] coming = new int[MOST_PERSONS];
        private int minute;
        private int found;

        Day() {
            Arrays.fill(places, NONE);
            Arrays.fill(leaders, NONE);
            Arrays.fill(distances, NONE);
        }

        void clear() {
            Arrays.fill(places, NONE);
            Arrays.fill(leaders, NONE);
            Arrays.fill(distances, NONE);
            Arrays.fill(buns, 0);
            Arrays.fill(left, 0);
            Arrays.fill(lying, 0);
            Arrays.fill(prints, 0);
            minute = 0;
            found = 0;
        }

        void copyFrom(Day other) {
            System.arraycopy(other.places, 0, places, 0, MOST_PERSONS * KEPT_MINUTES);
            System.arraycopy(other.buns, 0, buns, 0, MOST_PERSONS);
            System.arraycopy(other.leaders, 0, leaders, 0, MOST_PERSONS);
            System.arraycopy(other.distances, 0, distances, 0, MOST_PERSONS);
            System.arraycopy(other.ways, 0, ways, 0, MOST_PERSONS * MOST_WAY);
            System.arraycopy(other.left, 0, left, 0, MOST_PERSONS);
            System.arraycopy(other.lying, 0, lying, 0, MOST_CORNERS);
            System.arraycopy(other.prints, 0, prints, 0, MOST_CORNERS);
            minute = other.minute;
            found = other.found;
        }

        private static boolean mayBe(int p) {
            return p >= 0 && p < MOST_PERSONS;
        }

        private static boolean mayBeCorner(int c) {
            return c >= 0 && c < MOST_CORNERS;
        }

        void begin(int p, int c, int hisBuns) {
            if (mayBe(p)) {
                for (int k = 0; k < KEPT_MINUTES; k++) {
                    places[p * KEPT_MINUTES + k] = c;
                }
                buns[p] = hisBuns;
            }
        }

        int minuteNow() {
            return minute;
        }

        int minutesLeft() {
            return ALL_OVER - minute;
        }

        int bunsFound() {
            return found;
        }

        int wasAt(int p, int k) {
            return mayBe(p) && k >= 0 && k < KEPT_MINUTES ? places[p * KEPT_MINUTES + k] : NONE;
        }

        int whereIs(int p) {
            return wasAt(p, 0);
        }

        int bunsOf(int p) {
            return mayBe(p) ? buns[p] : 0;
        }

        int bunsAt(int c) {
            return mayBeCorner(c) ? lying[c] : 0;
        }

        int printsAt(int c) {
            return mayBeCorner(c) ? prints[c] : 0;
        }

        /** Whom he follows. */
        int followedBy(int p) {
            return mayBe(p) ? leaders[p] : NONE;
        }

        int minutesBehind(int p) {
            return mayBe(p) ? distances[p] : NONE;
        }

        int wayLeft(int p) {
            return mayBe(p) ? left[p] : 0;
        }

        boolean isIdle(int p) {
            return followedBy(p) == NONE && wayLeft(p) == 0;
        }

        int allPrints() {
            int all = 0;
            for (int c = 0; c < MOST_CORNERS; c++) {
                all += prints[c];
            }
            return all;
        }

        int whoWasAt(int c, int k) {
            int who = 0;
            for (int p = 0; p < MOST_PERSONS; p++) {
                if (wasAt(p, k) == c) {
                    who |= 1 << p;
                }
            }
            return who;
        }

        int followersOf(int p) {
            int who = 0;
            for (int q = 0; q < MOST_PERSONS; q++) {
                if (leaders[q] == p) {
                    who |= 1 << q;
                }
            }
            return who;
        }

        int whoFollows() {
            int who = 0;
            for (int p = 0; p < MOST_PERSONS; p++) {
                if (leaders[p] != NONE) {
                    who |= 1 << p;
                }
            }
            return who;
        }

        int whoHasWay() {
            int who = 0;
            for (int p = 0; p < MOST_PERSONS; p++) {
                if (left[p] > 0) {
                    who |= 1 << p;
                }
            }
            return who;
        }

        int whoIsRinged() {
            int who = 0;
            for (int p = 0; p < MOST_PERSONS; p++) {
                who |= ringOf(p);
            }
            return who;
        }

        /** Of each ring the person with the least number. */
        int firstOfRings() {
            int first = 0;
            for (int p = 0; p < MOST_PERSONS; p++) {
                first |= Integer.lowestOneBit(ringOf(p));
            }
            return first;
        }

        int ringOf(int p) {
            int ring = 0;
            int q = p;
            for (int k = 0; k < MOST_PERSONS; k++) {
                q = followedBy(q);
                if (q == NONE) {
                    return 0;
                }
                ring |= 1 << q;
                if (q == p) {
                    return ring;
                }
            }
            return 0;
        }

        int lastOfRow(int p) {
            int seen = 1 << p;
            int last = p;
            for (int k = 0; k < MOST_PERSONS; k++) {
                int q = followedBy(last);
                if (q == NONE || hasBit(seen, q)) {
                    break;
                }
                seen |= 1 << q;
                last = q;
            }
            return last;
        }

        /** Sends a person: 0, or why not. */
        int goesTo(Plan plan, int p, int c) {
            if (followedBy(p) != NONE) {
                return 1;
            }
            int n = wayLeft(p);
            if (!mayBe(p) || n >= MOST_WAY) {
                return 2;
            }
            int last = n > 0 ? ways[p * MOST_WAY + n - 1] : whereIs(p);
            if (!plan.areBeside(last, c)) {
                return 3;
            }
            ways[p * MOST_WAY + n] = c;
            left[p] = n + 1;
            return 0;
        }

        int dropsBun(int p) {
            int c = whereIs(p);
            if (bunsOf(p) < 1 || !mayBe(p) || !mayBeCorner(c)) {
                return 1;
            }
            buns[p]--;
            lying[c]++;
            return 0;
        }

        int leavesOff(int p) {
            if (!mayBe(p) || followedBy(p) == NONE) {
                return 1;
            }
            leaders[p] = NONE;
            distances[p] = NONE;
            return 0;
        }

        /** A person hires another one, q, who follows him then: 0, or why not. */
        int takesOn(int p, int q, int n) {
            if (followedBy(q) != NONE) {
                return 1;
            }
            if (wayLeft(q) > 0) {
                return 2;
            }
            followsInstead(q, p, n);
            return 0;
        }

        /** He follows another one by n minutes, whatever he did before. */
        void followsInstead(int p, int q, int n) {
            if (mayBe(p) && mayBe(q)) {
                leaders[p] = q;
                distances[p] = n;
                left[p] = 0;
            }
        }

        /** Minutes go, even behind the last one: whoever must not go so far asks minutesLeft first. */
        void passMinutes(Plan plan, int n) {
            for (int k = 0; k < n; k++) {
                for (int p = 0; p < MOST_PERSONS; p++) {
                    coming[p] = nextPlace(plan, p);
                }
                for (int p = 0; p < MOST_PERSONS; p++) {
                    shortenWay(p);
                    move(p, coming[p]);
                }
                for (int p = 0; p < MOST_PERSONS; p++) {
                    findBun(p);
                }
                minute++;
            }
        }

        private int nextPlace(Plan plan, int p) {
            if (left[p] > 0) {
                return ways[p * MOST_WAY];
            }
            int at = whereIs(p);
            int leader = leaders[p];
            return leader == NONE ? at : plan.stepTowards(at, wasAt(leader, distances[p] - 1));
        }

        private void shortenWay(int p) {
            if (left[p] > 0) {
                int first = p * MOST_WAY;
                left[p]--;
                for (int k = 0; k < left[p] && k < MOST_WAY - 1; k++) {
                    ways[first + k] = ways[first + k + 1];
                }
            }
        }

        private void move(int p, int c) {
            int first = p * KEPT_MINUTES;
            boolean moved = places[first] != c;
            for (int k = KEPT_MINUTES - 1; k > 0; k--) {
                places[first + k] = places[first + k - 1];
            }
            places[first] = c;
            if (moved && mayBeCorner(c)) {
                prints[c] = Math.min(MOST_PRINTS, prints[c] + 1);
            }
        }

        private void findBun(int p) {
            int c = whereIs(p);
            if (leaders[p] != NONE && bunsAt(c) > 0 && mayBeCorner(c)) {
                lying[c]--;
                buns[p]++;
                found++;
            }
        }
    }

    /** The latest days that an act changed, the newest at the end, at most eight. */
    private static final class History {
        private static final int MOST = 8;
        private final Day[] days = new Day[MOST];
        private int next;
        private int size;

        History() {
            for (int k = 0; k < MOST; k++) {
                days[k] = new Day();
            }
        }

        int length() {
            return size;
        }

        void clear() {
            size = 0;
        }

        private Day dayIn(int k) {
            return k >= 0 && k < MOST ? days[k] : null;
        }

        void add(Day day) {
            Day kept = dayIn(next);
            if (kept != null) {
                kept.copyFrom(day);
                next = (next + 1) % MOST;
                size = Math.min(MOST, size + 1);
            }
        }

        void takeBack(Day day) {
            next = (next + MOST - 1) % MOST;
            size = Math.max(0, size - 1);
            Day kept = dayIn(next);
            if (kept != null) {
                day.copyFrom(kept);
            }
        }
    }

    /** An image: a town, its day and its sentence. */
    private static final class Kept {
        private final Plan plan = new Plan();
        private final Day day = new Day();
        private final Sentence sentence = new Sentence();
        private boolean full;

        boolean isFull() {
            return full;
        }

        void keep(Plan itsPlan, Day itsDay, Sentence itsSentence) {
            plan.copyFrom(itsPlan);
            day.copyFrom(itsDay);
            sentence.copyFrom(itsSentence);
            full = true;
        }

        void giveBack(Plan itsPlan, Day itsDay, Sentence itsSentence) {
            itsPlan.copyFrom(plan);
            itsDay.copyFrom(day);
            itsSentence.copyFrom(sentence);
        }
    }

    /** Minutes whose acts are drawn by a seed. */
    private static final class Draws {
        private static final int FACTOR = 1103515245;
        private static final int SUMMAND = 12345;
        private static final int ACTS = 8;
        private int x;

        private int draw(int n) {
            x = x * FACTOR + SUMMAND;
            return n > 0 ? (x >>> 8) % n : 0;
        }

        int passMinutes(Plan plan, Day day, int n, int seed) {
            x = seed;
            int gone = Math.min(n, day.minutesLeft());
            for (int k = 0; k < gone; k++) {
                for (int p = 0; p < plan.persons(); p++) {
                    act(plan, day, p);
                }
                day.passMinutes(plan, 1);
            }
            return gone;
        }

        /** What can't be done is left out: the day itself sees to that. */
        private void act(Plan plan, Day day, int p) {
            switch (draw(ACTS)) {
                case 0:
                    int q = draw(plan.persons());
                    int n = draw(MOST_BEHIND) + 1;
                    if (p != q) {
                        day.takesOn(p, q, n);
                    }
                    break;
                case 1:
                    day.leavesOff(p);
                    break;
                case 2:
                case 3:
                case 4:
                    day.goesTo(plan, p, draw(plan.corners()));
                    break;
                case 5:
                    day.dropsBun(p);
                    break;
                default:
                    break;
            }
        }
    }

    /** Who should be hired by whom, as it was chosen last. */
    private static final class Pairing {
        private final int[] trial = new int[MOST_PERSONS];
        private final int[] chosen = new int[MOST_PERSONS];
        private int bestPairs = NONE;
        private int bestFar = NONE;

        Pairing() {
            Arrays.fill(chosen, NONE);
        }

        int pairs() {
            return bestPairs;
        }

        int farInAll() {
            return bestFar;
        }

        int chosenFor(int p) {
            return p >= 0 && p < MOST_PERSONS ? chosen[p] : NONE;
        }

        void choose(Plan plan, Day day) {
            int idle = 0;
            for (int p = 0; p < plan.persons(); p++) {
                if (day.isIdle(p)) {
                    idle |= 1 << p;
                }
            }
            bestPairs = NONE;
            bestFar = NONE;
            tryFrom(plan, day, 0, idle, 0, 0);
        }

        /** Tries the least person first and nobody last, so that the first of the best is the one told. */
        private void tryFrom(Plan plan, Day day, int p, int idle, int pairs, int far) {
            if (p >= MOST_PERSONS) {
                keepIfBetter(pairs, far);
                return;
            }
            if (day.wayLeft(p) > 0 && day.followersOf(p) == 0) {
                for (int q = 0; q < MOST_PERSONS; q++) {
                    int his = hasBit(idle, q) ? plan.farFrom(day.whereIs(q), day.whereIs(p)) : NONE;
                    if (his != NONE) {
                        trial[p] = q;
                        tryFrom(plan, day, p + 1, idle & ~(1 << q), pairs + 1, far + his);
                    }
                }
            }
            trial[p] = NONE;
            tryFrom(plan, day, p + 1, idle, pairs, far);
        }

        private void keepIfBetter(int pairs, int far) {
            if (pairs > bestPairs || pairs == bestPairs && far < bestFar) {
                bestPairs = pairs;
                bestFar = far;
                System.arraycopy(trial, 0, chosen, 0, MOST_PERSONS);
            }
        }
    }

    /** What is told of a person in one line. */
    private static final class Line {
        private static final int MOST = 40;
        private static final int LETTERS_END = 35;
        private final int[] bytes = new int[MOST];
        private int size;

        int length() {
            return size;
        }

        int byteOf(int i) {
            return i >= 0 && i < size && i < MOST ? bytes[i] : NONE;
        }

        void clear() {
            size = 0;
        }

        private void addByte(int b) {
            if (size < MOST) {
                bytes[size] = b;
                size++;
            }
        }

        void addText(String text) {
            for (int i = 0; i < text.length(); i++) {
                addByte(text.charAt(i));
            }
        }

        void addDigit(int digit) {
            addByte('0' + digit);
        }

        void addName(long name) {
            for (int shift = LETTERS_END - 5; shift >= 0; shift -= 5) {
                int letter = (int) (name >> shift & 31);
                if (letter != 0) {
                    addByte('a' + letter - 1);
                }
            }
        }
    }

    /** A book's lines, and what was told of the latest one that was judged. */
    private static final class Book {
        private static final int MOST_LINES = 40;
        private static final int WHY_DROPPING = 10;
        private static final int WHY_LEAVING = 20;
        private static final int WHY_HIRING = 30;
        private static final int TOO_FEW_MINUTES = 41;
        private final int[] acts = new int[MOST_LINES];
        private final int[] actors = new int[MOST_LINES];
        private final int[] others = new int[MOST_LINES];
        private final int[] numbers = new int[MOST_LINES];
        private int lines;
        private boolean judged;
        private int why;
        private int good;
        private int minuteThen;
        private int printsThen;

        int goodLines() {
            return good;
        }

        int toldOf(int what) {
            if (!judged) {
                return NONE;
            }
            switch (what) {
                case 0: return why;
                case 1: return good;
                case 2: return minuteThen;
                case 3: return printsThen;
                default: return NONE;
            }
        }

        void readFrom(Reader reader, Plan plan) {
            lines = 0;
            for (int k = 0; k <= MOST_LINES; k++) {
                if (!reader.isGood() || reader.atEnd()) {
                    break;
                }
                readLine(reader, plan);
                reader.takeSign(';');
                lines++;
            }
        }

        private void readLine(Reader reader, Plan plan) {
            int p = NONE;
            int act = reader.toldWord();
            if (act != W_MINUTE) {
                p = reader.needPerson(plan);
            }
            if (lines >= MOST_LINES) {
                reader.fail(TOO_MANY);
                return;
            }
            reader.goOn();
            if (act != W_MINUTE) {
                act = reader.toldWord();
            }
            acts[lines] = act;
            actors[lines] = p;
            readAct(reader, plan, act, p);
        }

        private void readAct(Reader reader, Plan plan, int act, int p) {
            switch (act) {
                case W_MINUTE:
                    numbers[lines] = reader.takeNumber(1, MOST_MINUTES);
                    break;
                case W_GOES:
                    reader.goOn();
                    others[lines] = reader.needCorner(plan);
                    reader.goOn();
                    break;
                case W_DROPS:
                case W_LEAVES:
                    reader.goOn();
                    break;
                case W_HIRES:
                    reader.goOn();
                    others[lines] = reader.needPerson(plan);
                    if (others[lines] == p) {
                        reader.fail(BAD_NAME);
                    }
                    reader.goOn();
                    numbers[lines] = reader.takeNumber(1, MOST_BEHIND);
                    break;
                default:
                    reader.fail(CANNOT_COME);
                    break;
            }
        }

        /** Lives the book on a day, as far as it is not wrong: the line that is, or NONE. */
        int judge(Plan plan, Day day) {
            int wrong = NONE;
            why = 0;
            good = 0;
            for (int k = 0; k < lines && k < MOST_LINES; k++) {
                why = doLine(plan, day, k);
                if (why != 0) {
                    wrong = k;
                    break;
                }
                good++;
            }
            judged = true;
            minuteThen = day.minuteNow();
            printsThen = day.allPrints();
            return wrong;
        }

        private int doLine(Plan plan, Day day, int k) {
            switch (acts[k]) {
                case W_GOES: return day.goesTo(plan, actors[k], others[k]);
                case W_DROPS: return shifted(day.dropsBun(actors[k]), WHY_DROPPING);
                case W_LEAVES: return shifted(day.leavesOff(actors[k]), WHY_LEAVING);
                case W_HIRES: return shifted(day.takesOn(actors[k], others[k], numbers[k]), WHY_HIRING);
                default: break;
            }
            if (numbers[k] > day.minutesLeft()) {
                return TOO_FEW_MINUTES;
            }
            day.passMinutes(plan, numbers[k]);
            return 0;
        }

        private static int shifted(int reason, int by) {
            return reason == 0 ? 0 : reason + by;
        }
    }

    /** What may be said of persons: its parts stand in the order in which they are reckoned. */
    private static final class Sentence {
        private static final int MOST_ONES = 20;
        private static final int MOST_WITHIN = 8;
        private static final int MOST_PARTS = 40;
        private static final int MOST_NUMBER = 999;
        private static final int OPEN = WORD_COUNT;
        private final int[] parts = new int[MOST_PARTS];
        private final int[] others = new int[MOST_PARTS];
        private final int[] numbers = new int[MOST_PARTS];
        private final int[] pending = new int[MOST_PARTS];
        private final int[] held = new int[MOST_PARTS];
        private int size;
        private int waiting;
        private int within;
        private int ones;
        private boolean oneDue;
        private boolean there;

        boolean isThere() {
            return there;
        }

        int ones() {
            return ones;
        }

        void clear() {
            size = 0;
            waiting = 0;
            within = 0;
            ones = 0;
            there = false;
        }

        void copyFrom(Sentence other) {
            System.arraycopy(other.parts, 0, parts, 0, MOST_PARTS);
            System.arraycopy(other.others, 0, others, 0, MOST_PARTS);
            System.arraycopy(other.numbers, 0, numbers, 0, MOST_PARTS);
            size = other.size;
            ones = other.ones;
            there = other.there;
        }

        void readFrom(Reader reader, Plan plan) {
            clear();
            oneDue = true;
            for (int k = 0; k <= SENTENCE_BYTES; k++) {
                if (!reader.isGood() || !oneDue && within == 0 && reader.atEnd()) {
                    break;
                }
                if (oneDue) {
                    readOne(reader, plan);
                } else {
                    readJoint(reader);
                }
            }
            settleWaiting(W_OR);
            there = reader.isGood();
        }

        private void readOne(Reader reader, Plan plan) {
            int word = reader.toldWord();
            boolean opens = reader.isSign('(');
            if (!opens && word < W_NOT) {
                reader.fail(CANNOT_COME);
            }
            if (ones >= MOST_ONES || within >= MOST_WITHIN) {
                reader.fail(TOO_MANY);
            }
            ones++;
            reader.goOn();
            if (opens || word == W_NOT) {
                addWaiting(opens ? OPEN : W_NOT);
                within++;
            } else {
                readPlain(reader, plan, word);
                endOne();
            }
        }

        private void readPlain(Reader reader, Plan plan, int word) {
            int other = NONE;
            int number = 0;
            if (word == W_AT) {
                other = reader.needCorner(plan);
                reader.goOn();
            } else if (word == W_AFTER) {
                other = reader.needPerson(plan);
                reader.goOn();
            } else if (word >= W_BUNS) {
                other = reader.takeComparison();
                number = reader.takeNumber(0, MOST_NUMBER);
            }
            addPart(word, other, number);
        }

        /** What may stand behind a one: 'and', 'or', or the end of a bracket. */
        private void readJoint(Reader reader) {
            int word = reader.toldWord();
            if (word == W_AND || word == W_OR) {
                settleWaiting(word);
                addWaiting(word);
                oneDue = true;
                reader.goOn();
            } else if (reader.isSign(')') && settleBracket()) {
                endOne();
                reader.goOn();
            } else {
                reader.fail(CANNOT_COME);
            }
        }

        /** A one is read whole: each 'not' right ahead of it has what it turns round. */
        private void endOne() {
            oneDue = false;
            for (int k = 0; k < MOST_WITHIN && lastWaiting() == W_NOT; k++) {
                addPart(W_NOT, NONE, 0);
                waiting--;
                within--;
            }
        }

        /** Each 'and' that waits has both its sides; ahead of an 'or', or the end, each 'or' has, too. */
        private void settleWaiting(int word) {
            for (int k = 0; k < MOST_PARTS; k++) {
                int last = lastWaiting();
                if (last != W_AND && (last != W_OR || word != W_OR)) {
                    break;
                }
                addPart(last, NONE, 0);
                waiting--;
            }
        }

        private boolean settleBracket() {
            settleWaiting(W_OR);
            if (lastWaiting() != OPEN) {
                return false;
            }
            waiting--;
            within--;
            return true;
        }

        private int lastWaiting() {
            return waiting > 0 && waiting <= MOST_PARTS ? pending[waiting - 1] : NONE;
        }

        private void addWaiting(int word) {
            if (waiting < MOST_PARTS) {
                pending[waiting] = word;
                waiting++;
            }
        }

        private void addPart(int word, int other, int number) {
            if (size < MOST_PARTS) {
                parts[size] = word;
                others[size] = other;
                numbers[size] = number;
                size++;
            }
        }

        /** Reckons part by part, each for all persons at once, as bits. */
        int whoFits(Plan plan, Day day) {
            int all = (1 << plan.persons()) - 1;
            int depth = 0;
            for (int k = 0; k < size && k < MOST_PARTS; k++) {
                int part = parts[k];
                if (part == W_NOT && depth > 0) {
                    held[depth - 1] = all & ~held[depth - 1];
                } else if ((part == W_AND || part == W_OR) && depth > 1) {
                    depth--;
                    held[depth - 1] = part == W_AND
                            ? held[depth - 1] & held[depth]
                            : held[depth - 1] | held[depth];
                } else if (depth < MOST_PARTS) {
                    held[depth] = whoFitsPlain(plan, day, k);
                    depth++;
                }
            }
            return depth > 0 ? held[0] : 0;
        }

        private int whoFitsPlain(Plan plan, Day day, int k) {
            int who = 0;
            for (int p = 0; p < plan.persons(); p++) {
                if (fitsPlain(day, k, p)) {
                    who |= 1 << p;
                }
            }
            return who;
        }

        private boolean fitsPlain(Day day, int k, int p) {
            switch (parts[k]) {
                case W_ALONE: return day.followersOf(p) == 0;
                case W_RINGED: return day.ringOf(p) != 0;
                case W_IDLE: return day.isIdle(p);
                case W_AT: return day.whereIs(p) == others[k];
                case W_AFTER: return day.followedBy(p) == others[k];
                case W_BUNS: return compares(day.bunsOf(p), k);
                case W_LEFT: return compares(day.wayLeft(p), k);
                case W_BEHIND: return compares(Integer.bitCount(day.followersOf(p)), k);
                default: return compares(p, k);
            }
        }

        private boolean compares(int value, int k) {
            switch (others[k]) {
                case '<': return value < numbers[k];
                case '=': return value == numbers[k];
                default: return value > numbers[k];
            }
        }
    }
}
