import java.util.Arrays;
import java.util.NoSuchElementException;

/**
 * A vestry that lends coffins, by the numbered promises of DOC.md.
 *
 * <p>Every row is made when the object is made, and used again by each call: no call makes an
 * object, but for the exceptions that the document asks for.
 */
public final class LentBoxes {
    public static final int NONE = -1;

    private static final int BOXES = 9;
    private static final int PLOTS = 5;
    private static final int DEAD = 12;
    private static final int KINS = 12;
    private static final int FROSTS = 4;
    private static final int HAD = 4;
    private static final int IMAGES = 2;
    private static final int UNDOABLE = 8;

    private static final int COMING = 0;
    private static final int WAITING = 1;
    private static final int LYING = 2;
    private static final int LAID = 3;

    private static final int DAYS_IN_ALL = 400;
    private static final int SOON_DAYS = 300;
    private static final int ODDS_DAYS = 20;
    private static final int NO_PLACE = 255;

    private static final int TAPE_BYTES = 940;
    private static final int FEED_BYTES = 20;
    private static final int VESTRY_BYTES = 900;
    private static final int BOOK_BYTES = 400;
    private static final int SENTENCE_BYTES = 200;
    private static final int WORD_LETTERS = 7;
    private static final int NUMBER_DIGITS = 3;
    private static final int BOOK_LINES = 40;
    private static final int ONES = 20;
    private static final int WITHIN = 8;

    private static final int CANT_COME = 1;
    private static final int BAD_NUMBER = 2;
    private static final int BAD_NAME = 3;
    private static final int TOO_MANY = 4;

    private static final String COMES_TAG = " comes";
    private static final String WAITS_TAG = " waits";
    private static final String LIES_TAG = " lies in ";
    private static final String LAID_TAG = " laid in ";
    private static final int TAG_BYTES = 32;

    private final Tape tape;
    private final World world;
    private final World[] images;
    private final Past past;
    private final State trial;
    private final Vestry freshVestry;
    private final Sentence freshSentence;
    private final Book latestBook;
    private final Matching matching;
    private final Draws draws;
    private final int[] ringOf;
    private final byte[] tagBytes;
    private final int[] toldLast;
    private int latestFault;
    private int soonPlot;
    private int ringLength;
    private int asked;
    private int tagLength;
    private boolean anyTold;

    public LentBoxes() {
        tape = new Tape();
        world = new World();
        images = new World[IMAGES];
        for (int k = 0; k < IMAGES; k++) {
            images[k] = new World();
        }
        past = new Past();
        trial = new State();
        freshVestry = new Vestry();
        freshSentence = new Sentence();
        latestBook = new Book();
        matching = new Matching();
        draws = new Draws();
        ringOf = new int[DEAD];
        tagBytes = new byte[TAG_BYTES];
        toldLast = new int[4];
        soonPlot = NONE;
        asked = NONE;
    }

    public int feed(int a, int b, int c, int d, int e) {
        if (tape.length + FEED_BYTES > TAPE_BYTES) {
            return NONE;
        }
        tape.append(a);
        tape.append(b);
        tape.append(c);
        tape.append(d);
        tape.append(e);
        return tape.length;
    }

    public boolean end(int n) {
        if (n < 0 || n > tape.length) {
            return false;
        }
        tape.length = n;
        return true;
    }

    public int vestry() {
        tape.open(VESTRY_BYTES);
        int lines = freshVestry.readFrom(tape);
        latestFault = tape.fault;
        if (latestFault != 0) {
            return -1 - tape.place;
        }
        world.vestry.copyOf(freshVestry);
        world.state.begin(world.vestry);
        world.sentence.wipe();
        past.forget();
        return lines;
    }

    public int fault() {
        return latestFault;
    }

    public int box(int b, int what) {
        if (!isBox(b)) {
            return NONE;
        }
        State s = world.state;
        switch (what) {
            case 0:
                return world.vestry.boxLong[b];
            case 1:
                return world.vestry.boxLasts[b];
            case 2:
                return s.lent[b];
            case 3:
                return s.holds[b];
            case 4:
                return s.boxFree(b) ? 1 : 0;
            case 5:
                return s.daysTill(s.airedTill[b]);
            default:
                return NONE;
        }
    }

    public int plot(int p, int what) {
        if (!isPlot(p)) {
            return NONE;
        }
        State s = world.state;
        switch (what) {
            case 0:
                return world.vestry.plotRest[p];
            case 1:
                return s.latest[p];
            case 2:
                return s.daysTill(s.restsTill[p]);
            case 3:
                return s.laidThere[p];
            default:
                return NONE;
        }
    }

    public int dead(int d, int what) throws NoSuchElementException {
        if (!isDead(d)) {
            throw new NoSuchElementException("no such one");
        }
        State s = world.state;
        switch (what) {
            case 0:
                return world.vestry.deadLong[d];
            case 1:
                return s.how[d];
            case 2:
                return s.inBox[d];
            case 3:
                return s.inPlot[d];
            case 4:
                return s.waited[d];
            case 5:
                return s.lain[d];
            case 6:
                return world.vestry.kin[d];
            case 7:
                return world.vestry.asks[d];
            default:
                throw new NoSuchElementException("no such what");
        }
    }

    public int now(int what) {
        State s = world.state;
        switch (what) {
            case 0:
                return s.day;
            case 1:
                return s.bitsOf(COMING, world.vestry);
            case 2:
                return s.bitsOf(WAITING, world.vestry);
            case 3:
                return s.bitsOf(LYING, world.vestry);
            case 4:
                return s.bitsOf(LAID, world.vestry);
            case 5:
                return s.freeBoxes(world.vestry);
            case 6:
                return s.freePlots(world.vestry);
            case 7:
                return world.vestry.frostOn(s.day) ? 1 : 0;
            default:
                return NONE;
        }
    }

    public int lend(int d, int b) {
        if (!isDead(d) || !isBox(b)) {
            return NONE;
        }
        trial.copyOf(world.state);
        return done(world.state.lendHim(d, b, world.vestry));
    }

    public int lay(int d, int p) {
        if (!isDead(d) || !isPlot(p)) {
            return NONE;
        }
        trial.copyOf(world.state);
        return done(world.state.layHim(d, p, world.vestry));
    }

    public int swap(int d, int e) {
        if (!isDead(d) || !isDead(e) || d == e) {
            return NONE;
        }
        trial.copyOf(world.state);
        return done(world.state.swapThem(d, e, world.vestry));
    }

    public int mend(int b) {
        if (!isBox(b)) {
            return NONE;
        }
        trial.copyOf(world.state);
        return done(world.state.mendIt(b));
    }

    public int days(int n) {
        if (n < 1 || n > 60) {
            return NONE;
        }
        trial.copyOf(world.state);
        return wentBy(world.state.passDays(n, world.vestry));
    }

    public int undo() {
        return past.backTo(world.state);
    }

    public int match() {
        return matching.find(world.vestry, world.state);
    }

    public int matchOf(int d) {
        return d < 0 || d >= DEAD ? NONE : matching.chosen[d];
    }

    public int soon(int d) {
        if (!isDead(d) || world.state.how[d] != LYING) {
            return NONE;
        }
        for (int n = 0; n <= SOON_DAYS; n++) {
            int p = plotBehind(d, n);
            if (p != NONE) {
                soonPlot = p;
                return n;
            }
        }
        return NONE;
    }

    public int soonIn() {
        return soonPlot;
    }

    public int crowd(int n) {
        if (n < 0 || n > 99) {
            return NONE;
        }
        // If nothing is done nobody stops waiting, so the last of these days has the most.
        int many = 0;
        for (int d = 0; d < world.vestry.dead; d++) {
            int how = world.state.how[d];
            if (how == WAITING || how == COMING && world.vestry.deadDay[d] <= world.state.day + n) {
                many++;
            }
        }
        return many;
    }

    public int need(int n, int m) {
        if (n < 0 || n > 99 || m < 1 || m > 60) {
            return NONE;
        }
        int most = 0;
        for (int i = 0; i <= n; i++) {
            most = Math.max(most, outOn(world.state.day + i, m + world.vestry.air));
        }
        return most;
    }

    public int ring(int d) {
        if (!isDead(d) || world.state.how[d] != LYING) {
            return NONE;
        }
        int length = ringFrom(d, false);
        if (length != NONE) {
            ringFrom(d, true);
            ringLength = length;
        }
        return length;
    }

    public int ringAt(int k) {
        return k < 0 || k >= ringLength ? NONE : ringOf[k];
    }

    public int who() {
        int length = tape.length;
        tape.length = 0;
        if (length < 2 || length > 12 || length % 2 != 0) {
            return NONE;
        }
        int found = world.vestry.allDead();
        for (int i = 0; i < length; i += 2) {
            int what = tape.byteOf(i);
            if (what > 3) {
                return NONE;
            }
            found &= thoseWith(what, tape.byteOf(i + 1));
        }
        if (found != 0) {
            asked = bestToAsk(found);
        }
        return found;
    }

    public int ask() {
        return asked;
    }

    public int near(int d, int e) {
        if (!isDead(d) || !isDead(e)) {
            return NONE;
        }
        int reached = 1 << d;
        for (int steps = 0; steps < DEAD; steps++) {
            if ((reached >> e & 1) != 0) {
                return steps;
            }
            reached |= world.vestry.kinOfAny(reached);
        }
        return NONE;
    }

    public int had(int b, int k) {
        return !isBox(b) || k < 0 || k >= HAD ? NONE : world.state.had[b * HAD + k];
    }

    public int wear(int b, int what) throws NoSuchElementException {
        if (!isBox(b) || what < 0 || what > 1) {
            throw new NoSuchElementException("no such ones");
        }
        return inLeastTerms(world.state.lent[b], world.vestry.boxLasts[b], what);
    }

    public int mean(int what) throws NoSuchElementException {
        if (world.vestry.dead == 0 || what < 0 || what > 1) {
            throw new NoSuchElementException("no such ones");
        }
        int sum = 0;
        for (int d = 0; d < world.vestry.dead; d++) {
            sum += world.state.waited[d];
        }
        return inLeastTerms(sum, world.vestry.dead, what);
    }

    public int longest() {
        int most = 0;
        int who = NONE;
        for (int d = 0; d < world.vestry.dead; d++) {
            if (world.state.waited[d] > most) {
                most = world.state.waited[d];
                who = d;
            }
        }
        return who;
    }

    public int tag(int d) {
        if (!isDead(d)) {
            return NONE;
        }
        tagLength = 0;
        tagName(world.vestry.deadName[d]);
        int how = world.state.how[d];
        int b = world.state.inBox[d];
        int p = world.state.inPlot[d];
        if (how == COMING) {
            tagText(COMES_TAG);
        } else if (how == WAITING) {
            tagText(WAITS_TAG);
        } else if (how == LYING && isBox(b)) {
            tagText(LIES_TAG);
            tagName(world.vestry.boxName[b]);
        } else if (how == LAID && isPlot(p)) {
            tagText(LAID_TAG);
            tagName(world.vestry.plotName[p]);
        }
        return tagLength;
    }

    public int byteAt(int i) {
        return i < 0 || i >= tagLength ? NONE : tagBytes[i] & 255;
    }

    public int drawn(int n, int seed) {
        if (n < 1 || n > 60) {
            return NONE;
        }
        trial.copyOf(world.state);
        return wentBy(draws.live(n, seed, world.vestry, world.state));
    }

    public int odds(int d, int n, int seed) {
        if (!isDead(d) || n < 1 || n > 30) {
            return NONE;
        }
        int many = 0;
        for (int i = 0; i < n; i++) {
            trial.copyOf(world.state);
            draws.live(ODDS_DAYS, seed + i, world.vestry, trial);
            if (trial.how[d] == LAID) {
                many++;
            }
        }
        return many;
    }

    public int book(int lives) {
        if (lives < 0 || lives > 1) {
            return -1000;
        }
        tape.open(BOOK_BYTES);
        latestBook.readFrom(tape, world.vestry);
        latestFault = tape.fault;
        if (latestFault != 0) {
            return -2 - tape.place;
        }
        trial.copyOf(world.state);
        int right = judge();
        if (lives == 1 && right > 0) {
            past.keep(world.state);
            world.state.copyOf(trial);
        }
        return right < latestBook.lines ? right : NONE;
    }

    public int told(int what) {
        return !anyTold || what < 0 || what >= toldLast.length ? NONE : toldLast[what];
    }

    public int sentence() {
        tape.open(SENTENCE_BYTES);
        freshSentence.wipe();
        if (freshSentence.readCond(tape, world.vestry, 1) && tape.kind != Tape.END) {
            tape.fail(CANT_COME);
        }
        latestFault = tape.fault;
        if (latestFault != 0) {
            return -1 - tape.place;
        }
        world.sentence.copyOf(freshSentence);
        return world.sentence.ones;
    }

    public int said(int k) {
        if (world.sentence.ones == 0 || k < NONE) {
            return NONE;
        }
        int those = world.sentence.saidOf(world.vestry, world.state);
        if (k == NONE) {
            return Integer.bitCount(those);
        }
        int ahead = 0;
        for (int d = 0; d < DEAD; d++) {
            if ((those >> d & 1) != 0) {
                if (ahead == k) {
                    return d;
                }
                ahead++;
            }
        }
        return NONE;
    }

    public boolean image(int k) {
        if (k < 0 || k >= IMAGES) {
            return false;
        }
        images[k].copyOf(world);
        images[k].kept = true;
        return true;
    }

    public boolean restore(int k) {
        if (k < 0 || k >= IMAGES || !images[k].kept) {
            return false;
        }
        world.copyOf(images[k]);
        past.forget();
        return true;
    }

    public int count(int what) {
        switch (what) {
            case 0:
                return world.vestry.boxes;
            case 1:
                return world.vestry.plots;
            case 2:
                return world.vestry.dead;
            case 3:
                return world.vestry.kins;
            case 4:
                return world.vestry.frosts;
            case 5:
                return world.vestry.air;
            case 6:
                return tape.length;
            default:
                return NONE;
        }
    }

    private boolean isBox(int b) {
        return b >= 0 && b < world.vestry.boxes;
    }

    private boolean isPlot(int p) {
        return p >= 0 && p < world.vestry.plots;
    }

    private boolean isDead(int d) {
        return d >= 0 && d < world.vestry.dead;
    }

    /** The trial holds all as it was ahead of an act: it can be undone, if the act was done. */
    private int done(int why) {
        if (why == 0) {
            past.keep(trial);
        }
        return why;
    }

    private int wentBy(int many) {
        if (many > 0) {
            past.keep(trial);
        }
        return many;
    }

    /** The least plot in which one could be laid behind n days, if nothing else is done. */
    private int plotBehind(int d, int n) {
        int day = world.state.day + n;
        if (world.vestry.frostOn(day)) {
            return NONE;
        }
        for (int p = 0; p < world.vestry.plots; p++) {
            if (world.state.restsTill[p] <= day && !world.vestry.areKin(d, world.state.latest[p])) {
                return p;
            }
        }
        return NONE;
    }

    /** How many boxes are out on a day, if each is out for so many days. */
    private int outOn(int day, int length) {
        int many = 0;
        for (int d = 0; d < world.vestry.dead; d++) {
            int how = world.state.how[d];
            int from = how == COMING ? world.vestry.deadDay[d] : world.state.day;
            if (how != LAID && from <= day && day < from + length) {
                many++;
            }
        }
        return many;
    }

    /** How many go round from one who is lying; they are noted only when the ring is known to close. */
    private int ringFrom(int first, boolean noted) {
        int home = world.state.inBox[first];
        int d = first;
        for (int k = 0; k < DEAD; k++) {
            if (noted) {
                ringOf[k] = d;
            }
            int b = world.vestry.asks[d];
            if (!isBox(b) || world.vestry.deadLong[d] > world.vestry.boxLong[b]) {
                return NONE;
            }
            if (b == home) {
                return k + 1;
            }
            d = world.state.holds[b];
            if (!isDead(d)) {
                return NONE;
            }
        }
        return NONE;
    }

    /** One of the four numbers that WHO and ASK go by. */
    private int numberOf(int what, int d) {
        switch (what) {
            case 0:
                return world.vestry.deadLong[d];
            case 1:
                return world.state.waited[d];
            case 2:
                return world.state.inBox[d] == NONE ? NO_PLACE : world.state.inBox[d];
            default:
                return world.state.inPlot[d] == NONE ? NO_PLACE : world.state.inPlot[d];
        }
    }

    private int thoseWith(int what, int number) {
        int those = 0;
        for (int d = 0; d < world.vestry.dead; d++) {
            if (numberOf(what, d) == number) {
                those |= 1 << d;
            }
        }
        return those;
    }

    private int bestToAsk(int those) {
        int best = NONE;
        int least = DEAD + 1;
        for (int what = 0; what < 4; what++) {
            int greatest = greatestAlike(what, those);
            if (greatest < least) {
                least = greatest;
                best = what;
            }
        }
        return best;
    }

    private int greatestAlike(int what, int those) {
        int greatest = 0;
        for (int d = 0; d < world.vestry.dead; d++) {
            if ((those >> d & 1) != 0) {
                int alike = those & thoseWith(what, numberOf(what, d));
                greatest = Math.max(greatest, Integer.bitCount(alike));
            }
        }
        return greatest;
    }

    private void tagText(String text) {
        for (int i = 0; i < text.length(); i++) {
            tagByte(text.charAt(i));
        }
    }

    private void tagName(long name) {
        for (int shift = 8 * (WORD_LETTERS - 1); shift >= 0; shift -= 8) {
            int letter = (int) (name >>> shift & 255);
            if (letter != 0) {
                tagByte(letter);
            }
        }
    }

    private void tagByte(int value) {
        if (tagLength < TAG_BYTES) {
            tagBytes[tagLength] = (byte) value;
            tagLength++;
        }
    }

    /** Lives the book in the trial as far as it is not wrong: how many of its lines are not. */
    private int judge() {
        int why = 0;
        int right = 0;
        while (right < latestBook.lines && why == 0) {
            why = latestBook.liveLine(right, world.vestry, trial);
            if (why == 0) {
                right++;
            }
        }
        toldLast[0] = why;
        toldLast[1] = right;
        toldLast[2] = trial.day;
        toldLast[3] = trial.bitsOf(LAID, world.vestry);
        anyTold = true;
        return right;
    }

    private static int inLeastTerms(int above, int below, int what) {
        int common = below;
        int rest = above;
        for (int i = 0; i < 64 && rest != 0; i++) {
            int next = common % rest;
            common = rest;
            rest = next;
        }
        if (common == 0) {
            return NONE;
        }
        return what == 0 ? above / common : below / common;
    }

    /** The words that no name may be, each packed as a name is: its letters, eight bits each. */
    private enum Word {
        BOX("box"), PLOT("plot"), DEAD("dead"), KIN("kin"), ASKS("asks"), FROST("frost"), AIR("air"),
        LEND("lend"), LAY("lay"), SWAP("swap"), MEND("mend"), DAY("day"),
        OR("or"), AND("and"), NOT("not"), COMING("coming"), WAITING("waiting"), LYING("lying"),
        LAID("laid"), IN("in"), LONG("long"), WAITED("waited"), LAIN("lain"), NUMBER("number");

        private static final Word[] ALL = values();

        private final long letters;

        Word(String text) {
            long packed = 0;
            for (int i = 0; i < text.length(); i++) {
                packed = packed << 8 | text.charAt(i);
            }
            letters = packed;
        }

        static Word of(long letters) {
            for (int i = 0; i < ALL.length; i++) {
                if (ALL[i].letters == letters) {
                    return ALL[i];
                }
            }
            return null;
        }
    }

    /** The bytes that were fed, and where one is in reading them token by token. */
    private static final class Tape {
        static final int END = 0;
        static final int BROKEN = 1;
        static final int WORD = 2;
        static final int NAME = 3;
        static final int NUMBER = 4;

        final byte[] bytes = new byte[TAPE_BYTES];
        int length;
        /** END to NUMBER, or the sign itself. */
        int kind;
        /** The word, if it is one that no name may be; else null. */
        Word word;
        long name;
        int number;
        int fault;
        int place;
        private int textEnd;
        private int most;
        private int at;
        private int after;

        void append(int four) {
            for (int shift = 24; shift >= 0 && length < TAPE_BYTES; shift -= 8) {
                bytes[length] = (byte) (four >>> shift);
                length++;
            }
        }

        int byteOf(int i) {
            return i < 0 || i >= TAPE_BYTES ? 0 : bytes[i] & 255;
        }

        /** The tape is empty from here on, but what was on it is read as a text. */
        void open(int mostBytes) {
            textEnd = length;
            length = 0;
            most = mostBytes;
            after = 0;
            fault = 0;
            place = 0;
            advance();
        }

        void advance() {
            int limit = Math.min(textEnd, most);
            at = after;
            while (at < limit && (bytes[at] == 32 || bytes[at] == 10)) {
                at++;
            }
            word = null;
            if (at >= limit) {
                // A token that is read whole may end behind the most bytes: the fault is at them all the same.
                at = limit;
                after = limit;
                kind = textEnd > most ? BROKEN : END;
                return;
            }
            int letters = 0;
            int digits = 0;
            name = 0;
            number = 0;
            for (after = at; after < textEnd; after++) {
                int sign = bytes[after];
                if (sign >= 'a' && sign <= 'z') {
                    letters++;
                    name = name << 8 | sign;
                } else if (sign >= '0' && sign <= '9') {
                    digits++;
                    number = number * 10 + sign - '0';
                } else {
                    break;
                }
            }
            if (after == at) {
                kind = signOf(bytes[at]);
                after++;
            } else if (digits == 0 && letters <= WORD_LETTERS) {
                word = Word.of(name);
                kind = word == null ? NAME : WORD;
            } else {
                kind = letters == 0 && digits <= NUMBER_DIGITS ? NUMBER : BROKEN;
            }
        }

        private static int signOf(int sign) {
            boolean known = sign == ';' || sign == '<' || sign == '=' || sign == '>' || sign == '(' || sign == ')';
            return known ? sign : BROKEN;
        }

        /** Notes a fault at the token; false, so that a reader can hand it on. */
        boolean fail(int why) {
            fault = why;
            place = at;
            return false;
        }

        boolean isWord(Word wanted) {
            return word == wanted;
        }

        boolean takeSign(int wanted) {
            if (kind != wanted) {
                return fail(CANT_COME);
            }
            advance();
            return true;
        }

        /** The number here, if it is from low to high; NONE with a fault. */
        int takeNumber(int low, int high) {
            if (kind != NUMBER || number < low || number > high) {
                fail(kind != NUMBER ? CANT_COME : BAD_NUMBER);
                return NONE;
            }
            int taken = number;
            advance();
            return taken;
        }
    }

    /** What a vestry's text tells. */
    private static final class Vestry {
        int boxes;
        int plots;
        int dead;
        int kins;
        int frosts;
        int air = 1;
        private boolean airTold;
        final long[] boxName = new long[BOXES];
        final int[] boxLong = new int[BOXES];
        final int[] boxLasts = new int[BOXES];
        final long[] plotName = new long[PLOTS];
        final int[] plotRest = new int[PLOTS];
        final long[] deadName = new long[DEAD];
        final int[] deadLong = new int[DEAD];
        final int[] deadDay = new int[DEAD];
        final int[] kin = new int[DEAD];
        final int[] asks = new int[DEAD];
        private final int[] frostFrom = new int[FROSTS];
        private final int[] frostMany = new int[FROSTS];

        void copyOf(Vestry from) {
            boxes = from.boxes;
            plots = from.plots;
            dead = from.dead;
            kins = from.kins;
            frosts = from.frosts;
            air = from.air;
            airTold = from.airTold;
            System.arraycopy(from.boxName, 0, boxName, 0, BOXES);
            System.arraycopy(from.boxLong, 0, boxLong, 0, BOXES);
            System.arraycopy(from.boxLasts, 0, boxLasts, 0, BOXES);
            System.arraycopy(from.plotName, 0, plotName, 0, PLOTS);
            System.arraycopy(from.plotRest, 0, plotRest, 0, PLOTS);
            System.arraycopy(from.deadName, 0, deadName, 0, DEAD);
            System.arraycopy(from.deadLong, 0, deadLong, 0, DEAD);
            System.arraycopy(from.deadDay, 0, deadDay, 0, DEAD);
            System.arraycopy(from.kin, 0, kin, 0, DEAD);
            System.arraycopy(from.asks, 0, asks, 0, DEAD);
            System.arraycopy(from.frostFrom, 0, frostFrom, 0, FROSTS);
            System.arraycopy(from.frostMany, 0, frostMany, 0, FROSTS);
        }

        int allDead() {
            return (1 << dead) - 1;
        }

        boolean areKin(int d, int e) {
            return e != NONE && (kin[d] >> e & 1) != 0;
        }

        int kinOfAny(int those) {
            int found = 0;
            for (int d = 0; d < dead; d++) {
                if ((those >> d & 1) != 0) {
                    found |= kin[d];
                }
            }
            return found;
        }

        boolean frostOn(int day) {
            for (int i = 0; i < frosts; i++) {
                if (frostFrom[i] <= day && day < frostFrom[i] + frostMany[i]) {
                    return true;
                }
            }
            return false;
        }

        /** How many lines there are; what it answers with a fault is no matter. */
        int readFrom(Tape t) {
            boxes = 0;
            plots = 0;
            dead = 0;
            kins = 0;
            frosts = 0;
            air = 1;
            airTold = false;
            Arrays.fill(kin, 0);
            Arrays.fill(asks, NONE);
            for (int lines = 0; lines < TAPE_BYTES; lines++) {
                if (t.kind == Tape.END) {
                    return lines;
                }
                if (!readLine(t) || !t.takeSign(';')) {
                    return NONE;
                }
            }
            return NONE;
        }

        private boolean readLine(Tape t) {
            Word word = t.word;
            if (word == null) {
                return t.fail(CANT_COME);
            }
            switch (word) {
                case BOX:
                    return boxes < BOXES ? readBox(t) : t.fail(TOO_MANY);
                case PLOT:
                    return plots < PLOTS ? readPlot(t) : t.fail(TOO_MANY);
                case DEAD:
                    return dead < DEAD ? readOne(t) : t.fail(TOO_MANY);
                case KIN:
                    return kins < KINS ? readKin(t) : t.fail(TOO_MANY);
                case ASKS:
                    return readAsks(t);
                case FROST:
                    return frosts < FROSTS ? readFrost(t) : t.fail(TOO_MANY);
                case AIR:
                    return airTold ? t.fail(BAD_NAME) : readAir(t);
                default:
                    return t.fail(CANT_COME);
            }
        }

        private boolean readBox(Tape t) {
            t.advance();
            boxName[boxes] = t.name;
            if (!takeNewName(t)) {
                return false;
            }
            boxLong[boxes] = t.takeNumber(10, 99);
            if (boxLong[boxes] == NONE) {
                return false;
            }
            boxLasts[boxes] = t.takeNumber(1, 99);
            if (boxLasts[boxes] == NONE) {
                return false;
            }
            boxes++;
            return true;
        }

        private boolean readPlot(Tape t) {
            t.advance();
            plotName[plots] = t.name;
            if (!takeNewName(t)) {
                return false;
            }
            plotRest[plots] = t.takeNumber(0, 60);
            if (plotRest[plots] == NONE) {
                return false;
            }
            plots++;
            return true;
        }

        private boolean readOne(Tape t) {
            t.advance();
            deadName[dead] = t.name;
            if (!takeNewName(t)) {
                return false;
            }
            deadLong[dead] = t.takeNumber(10, 99);
            if (deadLong[dead] == NONE) {
                return false;
            }
            deadDay[dead] = t.takeNumber(0, 99);
            if (deadDay[dead] == NONE) {
                return false;
            }
            dead++;
            return true;
        }

        private boolean readKin(Tape t) {
            t.advance();
            int d = takeDead(t);
            if (d == NONE) {
                return false;
            }
            int e = seeDead(t);
            if (e == NONE) {
                return false;
            }
            if (d == e || areKin(d, e)) {
                return t.fail(BAD_NAME);
            }
            t.advance();
            kin[d] |= 1 << e;
            kin[e] |= 1 << d;
            kins++;
            return true;
        }

        private boolean readAsks(Tape t) {
            t.advance();
            int d = seeDead(t);
            if (d == NONE) {
                return false;
            }
            if (asks[d] != NONE) {
                return t.fail(BAD_NAME);
            }
            t.advance();
            asks[d] = takeBox(t);
            return asks[d] != NONE;
        }

        private boolean readFrost(Tape t) {
            t.advance();
            frostFrom[frosts] = t.takeNumber(0, 199);
            if (frostFrom[frosts] == NONE) {
                return false;
            }
            frostMany[frosts] = t.takeNumber(1, 60);
            if (frostMany[frosts] == NONE) {
                return false;
            }
            frosts++;
            return true;
        }

        private boolean readAir(Tape t) {
            t.advance();
            airTold = true;
            air = t.takeNumber(0, 9);
            return air != NONE;
        }

        private boolean takeNewName(Tape t) {
            if (t.kind != Tape.NAME) {
                return t.fail(CANT_COME);
            }
            if (placeOf(t.name, boxName, boxes) != NONE || placeOf(t.name, plotName, plots) != NONE
                    || placeOf(t.name, deadName, dead) != NONE) {
                return t.fail(BAD_NAME);
            }
            t.advance();
            return true;
        }

        private static int placeOf(long name, long[] names, int many) {
            for (int i = 0; i < many && i < names.length; i++) {
                if (names[i] == name) {
                    return i;
                }
            }
            return NONE;
        }

        /** The one of some names that stands here; NONE with a fault. It is not gone past. */
        private static int see(Tape t, long[] names, int many) {
            if (t.kind != Tape.NAME) {
                t.fail(CANT_COME);
                return NONE;
            }
            int found = placeOf(t.name, names, many);
            if (found == NONE) {
                t.fail(BAD_NAME);
            }
            return found;
        }

        int seeDead(Tape t) {
            return see(t, deadName, dead);
        }

        int takeDead(Tape t) {
            int d = see(t, deadName, dead);
            if (d != NONE) {
                t.advance();
            }
            return d;
        }

        int takeBox(Tape t) {
            int b = see(t, boxName, boxes);
            if (b != NONE) {
                t.advance();
            }
            return b;
        }

        int takePlot(Tape t) {
            int p = see(t, plotName, plots);
            if (p != NONE) {
                t.advance();
            }
            return p;
        }
    }

    /** All that is so on a day: what acts and days change, and what undoing brings back. */
    private static final class State {
        int day;
        final int[] lent = new int[BOXES];
        final int[] holds = new int[BOXES];
        final int[] airedTill = new int[BOXES];
        final int[] had = new int[BOXES * HAD];
        final int[] latest = new int[PLOTS];
        final int[] restsTill = new int[PLOTS];
        final int[] laidThere = new int[PLOTS];
        final int[] how = new int[DEAD];
        final int[] inBox = new int[DEAD];
        final int[] inPlot = new int[DEAD];
        final int[] waited = new int[DEAD];
        final int[] lain = new int[DEAD];

        void copyOf(State from) {
            day = from.day;
            System.arraycopy(from.lent, 0, lent, 0, BOXES);
            System.arraycopy(from.holds, 0, holds, 0, BOXES);
            System.arraycopy(from.airedTill, 0, airedTill, 0, BOXES);
            System.arraycopy(from.had, 0, had, 0, BOXES * HAD);
            System.arraycopy(from.latest, 0, latest, 0, PLOTS);
            System.arraycopy(from.restsTill, 0, restsTill, 0, PLOTS);
            System.arraycopy(from.laidThere, 0, laidThere, 0, PLOTS);
            System.arraycopy(from.how, 0, how, 0, DEAD);
            System.arraycopy(from.inBox, 0, inBox, 0, DEAD);
            System.arraycopy(from.inPlot, 0, inPlot, 0, DEAD);
            System.arraycopy(from.waited, 0, waited, 0, DEAD);
            System.arraycopy(from.lain, 0, lain, 0, DEAD);
        }

        void begin(Vestry v) {
            day = 0;
            Arrays.fill(lent, 0);
            Arrays.fill(holds, NONE);
            Arrays.fill(airedTill, 0);
            Arrays.fill(had, NONE);
            Arrays.fill(latest, NONE);
            Arrays.fill(restsTill, 0);
            Arrays.fill(laidThere, 0);
            Arrays.fill(how, COMING);
            Arrays.fill(inBox, NONE);
            Arrays.fill(inPlot, NONE);
            Arrays.fill(waited, 0);
            Arrays.fill(lain, 0);
            arrive(v);
        }

        private void arrive(Vestry v) {
            for (int d = 0; d < v.dead; d++) {
                if (how[d] == COMING && v.deadDay[d] <= day) {
                    how[d] = WAITING;
                }
            }
        }

        boolean boxFree(int b) {
            return holds[b] == NONE && airedTill[b] <= day;
        }

        boolean plotFree(int p) {
            return restsTill[p] <= day;
        }

        int daysTill(int then) {
            return Math.max(0, then - day);
        }

        int bitsOf(int wanted, Vestry v) {
            int bits = 0;
            for (int d = 0; d < v.dead; d++) {
                if (how[d] == wanted) {
                    bits |= 1 << d;
                }
            }
            return bits;
        }

        int freeBoxes(Vestry v) {
            int bits = 0;
            for (int b = 0; b < v.boxes; b++) {
                if (boxFree(b)) {
                    bits |= 1 << b;
                }
            }
            return bits;
        }

        int freePlots(Vestry v) {
            int bits = 0;
            for (int p = 0; p < v.plots; p++) {
                if (plotFree(p)) {
                    bits |= 1 << p;
                }
            }
            return bits;
        }

        int whyNotLent(int d, int b, Vestry v) {
            if (how[d] != WAITING) {
                return 1;
            }
            if (!boxFree(b)) {
                return 2;
            }
            if (v.deadLong[d] > v.boxLong[b]) {
                return 3;
            }
            return lent[b] >= v.boxLasts[b] ? 4 : 0;
        }

        /** Why he can't be lent it; if he can (0), he is. */
        int lendHim(int d, int b, Vestry v) {
            int why = whyNotLent(d, b, v);
            if (why != 0) {
                return why;
            }
            how[d] = LYING;
            inBox[d] = b;
            holds[b] = d;
            lent[b]++;
            for (int k = HAD - 1; k > 0; k--) {
                had[b * HAD + k] = had[b * HAD + k - 1];
            }
            had[b * HAD] = d;
            return 0;
        }

        /** Why he can't be laid there; if he can (0), he is. */
        int layHim(int d, int p, Vestry v) {
            int b = inBox[d];
            if (how[d] != LYING || b == NONE) {
                return 1;
            }
            if (v.frostOn(day)) {
                return 2;
            }
            if (!plotFree(p)) {
                return 3;
            }
            if (v.areKin(d, latest[p])) {
                return 4;
            }
            how[d] = LAID;
            inBox[d] = NONE;
            inPlot[d] = p;
            latest[p] = d;
            laidThere[p]++;
            restsTill[p] = day + v.plotRest[p];
            holds[b] = NONE;
            airedTill[b] = day + v.air;
            return 0;
        }

        /** Why two can't swap; if they can (0), they do. */
        int swapThem(int d, int e, Vestry v) {
            int b = inBox[d];
            int c = inBox[e];
            if (how[d] != LYING || how[e] != LYING || b == NONE || c == NONE) {
                return 1;
            }
            if (v.deadLong[d] > v.boxLong[c] || v.deadLong[e] > v.boxLong[b]) {
                return 2;
            }
            inBox[d] = c;
            holds[c] = d;
            inBox[e] = b;
            holds[b] = e;
            return 0;
        }

        /** Why it can't be mended; if it can (0), it is. Who had it stays known. */
        int mendIt(int b) {
            if (lent[b] == 0) {
                return 1;
            }
            if (holds[b] != NONE) {
                return 2;
            }
            lent[b] = 0;
            return 0;
        }

        /** How many of n days go by ahead of the last one. */
        int passDays(int n, Vestry v) {
            int many = 0;
            while (many < n && day < DAYS_IN_ALL) {
                for (int d = 0; d < v.dead; d++) {
                    waited[d] += how[d] == WAITING ? 1 : 0;
                    lain[d] += how[d] == LYING ? 1 : 0;
                }
                day++;
                arrive(v);
                many++;
            }
            return many;
        }
    }

    /** What an image keeps. */
    private static final class World {
        final Vestry vestry = new Vestry();
        final State state = new State();
        final Sentence sentence = new Sentence();
        boolean kept;

        World() {
            state.begin(vestry);
        }

        void copyOf(World from) {
            vestry.copyOf(from.vestry);
            state.copyOf(from.state);
            sentence.copyOf(from.sentence);
        }
    }

    /** The states ahead of the latest acts, the oldest given up for a ninth. */
    private static final class Past {
        private final State[] states = new State[UNDOABLE];
        private int first;
        private int many;

        Past() {
            for (int i = 0; i < UNDOABLE; i++) {
                states[i] = new State();
            }
        }

        void keep(State s) {
            states[(first + many) % UNDOABLE].copyOf(s);
            if (many < UNDOABLE) {
                many++;
            } else {
                first = (first + 1) % UNDOABLE;
            }
        }

        /** How many more there are; NONE, and all stays, if there is none. */
        int backTo(State s) {
            if (many == 0) {
                return NONE;
            }
            many--;
            s.copyOf(states[(first + many) % UNDOABLE]);
            return many;
        }

        void forget() {
            first = 0;
            many = 0;
        }
    }

    /** The most of those waiting who could be lent boxes, each his own. */
    private static final class Matching {
        final int[] chosen = new int[DEAD];
        private final int[] could = new int[DEAD];
        private final int[] owner = new int[BOXES];
        private int tried;

        Matching() {
            Arrays.fill(chosen, NONE);
        }

        int find(Vestry v, State s) {
            for (int d = 0; d < DEAD; d++) {
                could[d] = 0;
                for (int b = 0; d < v.dead && b < v.boxes; b++) {
                    if (s.whyNotLent(d, b, v) == 0) {
                        could[d] |= 1 << b;
                    }
                }
            }
            int most = mostFrom(0, 0);
            chooseFirst(most);
            return most;
        }

        /** Each in turn takes the least box with which the rest can still be as many as they must. */
        private void chooseFirst(int most) {
            int left = most;
            int gone = 0;
            for (int d = 0; d < DEAD; d++) {
                chosen[d] = NONE;
                for (int b = 0; b < BOXES && chosen[d] == NONE; b++) {
                    int bit = 1 << b;
                    if ((could[d] & bit & ~gone) != 0 && mostFrom(d + 1, gone | bit) + 1 == left) {
                        chosen[d] = b;
                        gone |= bit;
                        left--;
                    }
                }
            }
        }

        private int mostFrom(int first, int gone) {
            Arrays.fill(owner, NONE);
            int many = 0;
            for (int d = first; d < DEAD; d++) {
                tried = gone;
                if (finds(d, 0)) {
                    many++;
                }
            }
            return many;
        }

        /** Whether one finds a box, if need be by sending its owner to another one. */
        private boolean finds(int d, int depth) {
            if (d < 0 || d >= DEAD || depth > BOXES) {
                return false;
            }
            for (int b = 0; b < BOXES; b++) {
                if ((could[d] >> b & 1) != 0 && (tried >> b & 1) == 0) {
                    tried |= 1 << b;
                    if (owner[b] == NONE || finds(owner[b], depth + 1)) {
                        owner[b] = d;
                        return true;
                    }
                }
            }
            return false;
        }
    }

    /** Days whose acts are drawn by a seed. */
    private static final class Draws {
        private int x;

        private int draw(int n) {
            x = x * 1103515245 + 12345;
            return n < 1 ? 0 : (x >>> 8) % n;
        }

        int live(int n, int seed, Vestry v, State s) {
            x = seed;
            int many = 0;
            while (many < n && s.day < DAYS_IN_ALL) {
                actOnce(v, s);
                s.passDays(1, v);
                many++;
            }
            return many;
        }

        private void actOnce(Vestry v, State s) {
            int act = draw(8);
            if (act <= 2 && v.dead > 0 && v.boxes > 0) {
                int d = draw(v.dead);
                s.lendHim(d, draw(v.boxes), v);
            } else if ((act == 3 || act == 4) && v.dead > 0 && v.plots > 0) {
                int d = draw(v.dead);
                s.layHim(d, draw(v.plots), v);
            } else if (act == 5 && v.boxes > 0) {
                s.mendIt(draw(v.boxes));
            } else if (act == 6 && v.dead > 0) {
                int d = draw(v.dead);
                int e = draw(v.dead);
                if (d != e) {
                    s.swapThem(d, e, v);
                }
            }
        }
    }

    /** The lines of a book: of each what is done, to whom or which, and the other one. */
    private static final class Book {
        private static final int LENDS = 0;
        private static final int LAYS = 1;
        private static final int SWAPS = 2;
        private static final int MENDS = 3;
        private static final int PASSES = 4;

        int lines;
        private final int[] act = new int[BOOK_LINES];
        private final int[] first = new int[BOOK_LINES];
        private final int[] second = new int[BOOK_LINES];

        void readFrom(Tape t, Vestry v) {
            lines = 0;
            for (int i = 0; i < TAPE_BYTES && t.kind != Tape.END; i++) {
                if (!readLine(t, v) || !t.takeSign(';')) {
                    return;
                }
                lines++;
            }
        }

        private boolean readLine(Tape t, Vestry v) {
            int what = actOf(t);
            if (what == NONE) {
                return t.fail(CANT_COME);
            }
            if (lines >= BOOK_LINES) {
                return t.fail(TOO_MANY);
            }
            t.advance();
            act[lines] = what;
            if (what == PASSES) {
                first[lines] = t.takeNumber(1, 60);
                return first[lines] != NONE;
            }
            first[lines] = what == MENDS ? v.takeBox(t) : v.takeDead(t);
            if (first[lines] == NONE || what == MENDS) {
                return first[lines] != NONE;
            }
            if (what == SWAPS) {
                return readOther(t, v);
            }
            second[lines] = what == LENDS ? v.takeBox(t) : v.takePlot(t);
            return second[lines] != NONE;
        }

        private boolean readOther(Tape t, Vestry v) {
            second[lines] = v.seeDead(t);
            if (second[lines] == NONE) {
                return false;
            }
            if (second[lines] == first[lines]) {
                return t.fail(BAD_NAME);
            }
            t.advance();
            return true;
        }

        private static int actOf(Tape t) {
            Word word = t.word;
            if (word == null) {
                return NONE;
            }
            switch (word) {
                case LEND:
                    return LENDS;
                case LAY:
                    return LAYS;
                case SWAP:
                    return SWAPS;
                case MEND:
                    return MENDS;
                case DAY:
                    return PASSES;
                default:
                    return NONE;
            }
        }

        /** Why the line is wrong, with its tens by what is done; 0 if it is not: then it is lived. */
        int liveLine(int i, Vestry v, State s) {
            if (i < 0 || i >= lines) {
                return 0;
            }
            int why = liveAct(i, v, s);
            return why == 0 ? 0 : 10 * act[i] + why;
        }

        private int liveAct(int i, Vestry v, State s) {
            switch (act[i]) {
                case LENDS:
                    return s.lendHim(first[i], second[i], v);
                case LAYS:
                    return s.layHim(first[i], second[i], v);
                case SWAPS:
                    return s.swapThem(first[i], second[i], v);
                case MENDS:
                    return s.mendIt(first[i]);
                default:
                    if (s.day + first[i] > DAYS_IN_ALL) {
                        return 1;
                    }
                    s.passDays(first[i], v);
                    return 0;
            }
        }
    }

    /** A sentence, its parts ahead of what joins them, so that it is said with a stack of sets of dead. */
    private static final class Sentence {
        private static final int PARTS = 2 * ONES;
        private static final int NOT = 0;
        private static final int AND = 1;
        private static final int OR = 2;
        private static final int IS_SO = 3;
        private static final int LIES_IN = 4;
        private static final int IS_KIN = 5;
        private static final int LONG_IS = 6;
        private static final int WAITED_IS = 7;
        private static final int LAIN_IS = 8;
        private static final int NUMBER_IS = 9;

        /** 0: there is no sentence. */
        int ones;
        private int parts;
        private final int[] part = new int[PARTS];
        private final int[] sign = new int[PARTS];
        private final int[] value = new int[PARTS];
        private final int[] stack = new int[PARTS];

        void wipe() {
            ones = 0;
            parts = 0;
        }

        void copyOf(Sentence from) {
            ones = from.ones;
            parts = from.parts;
            System.arraycopy(from.part, 0, part, 0, PARTS);
            System.arraycopy(from.sign, 0, sign, 0, PARTS);
            System.arraycopy(from.value, 0, value, 0, PARTS);
        }

        /** Reads what may stand at a depth; within others, it ends where they go on. */
        boolean readCond(Tape t, Vestry v, int within) {
            if (!readEach(t, v, within)) {
                return false;
            }
            for (int i = 0; i < ONES && t.isWord(Word.OR); i++) {
                t.advance();
                if (!readEach(t, v, within) || !put(OR, 0, 0)) {
                    return false;
                }
            }
            return true;
        }

        private boolean readEach(Tape t, Vestry v, int within) {
            if (!readOne(t, v, within)) {
                return false;
            }
            for (int i = 0; i < ONES && t.isWord(Word.AND); i++) {
                t.advance();
                if (!readOne(t, v, within) || !put(AND, 0, 0)) {
                    return false;
                }
            }
            return true;
        }

        private boolean readOne(Tape t, Vestry v, int within) {
            Word word = t.word;
            boolean bracket = t.kind == '(';
            if (!bracket && !beginsOne(word)) {
                return t.fail(CANT_COME);
            }
            if (ones >= ONES || within > WITHIN) {
                return t.fail(TOO_MANY);
            }
            ones++;
            t.advance();
            if (bracket) {
                return readCond(t, v, within + 1) && t.takeSign(')');
            }
            if (word == Word.NOT) {
                return readOne(t, v, within + 1) && put(NOT, 0, 0);
            }
            return readPlain(word, t, v);
        }

        private static boolean beginsOne(Word word) {
            if (word == null) {
                return false;
            }
            switch (word) {
                case NOT:
                case COMING:
                case WAITING:
                case LYING:
                case LAID:
                case IN:
                case KIN:
                case LONG:
                case WAITED:
                case LAIN:
                case NUMBER:
                    return true;
                default:
                    return false;
            }
        }

        private boolean readPlain(Word word, Tape t, Vestry v) {
            int what = partOf(word);
            if (what == IS_SO) {
                return put(IS_SO, 0, howOf(word));
            }
            if (what == LIES_IN || what == IS_KIN) {
                int named = what == LIES_IN ? v.takeBox(t) : v.takeDead(t);
                return named != NONE && put(what, 0, named);
            }
            int compared = t.kind;
            if (compared != '<' && compared != '=' && compared != '>') {
                return t.fail(CANT_COME);
            }
            t.advance();
            int number = t.takeNumber(0, 999);
            return number != NONE && put(what, compared, number);
        }

        private static int partOf(Word word) {
            if (word == Word.IN) {
                return LIES_IN;
            }
            if (word == Word.KIN) {
                return IS_KIN;
            }
            if (word == Word.LONG) {
                return LONG_IS;
            }
            if (word == Word.WAITED) {
                return WAITED_IS;
            }
            if (word == Word.LAIN) {
                return LAIN_IS;
            }
            return word == Word.NUMBER ? NUMBER_IS : IS_SO;
        }

        private static int howOf(Word word) {
            if (word == Word.COMING) {
                return COMING;
            }
            if (word == Word.WAITING) {
                return WAITING;
            }
            return word == Word.LYING ? LYING : LAID;
        }

        private boolean put(int what, int compared, int number) {
            if (parts < PARTS) {
                part[parts] = what;
                sign[parts] = compared;
                value[parts] = number;
                parts++;
            }
            return true;
        }

        /** Those of whom it may be said, as bits. */
        int saidOf(Vestry v, State s) {
            int top = 0;
            for (int i = 0; i < parts; i++) {
                if (part[i] == NOT && top > 0) {
                    stack[top - 1] ^= v.allDead();
                } else if (part[i] == AND && top > 1) {
                    top--;
                    stack[top - 1] &= stack[top];
                } else if (part[i] == OR && top > 1) {
                    top--;
                    stack[top - 1] |= stack[top];
                } else if (part[i] > OR) {
                    stack[top] = thoseBy(i, v, s);
                    top++;
                }
            }
            return top > 0 ? stack[0] : 0;
        }

        private int thoseBy(int i, Vestry v, State s) {
            int those = 0;
            for (int d = 0; d < v.dead; d++) {
                if (isSo(i, d, v, s)) {
                    those |= 1 << d;
                }
            }
            return those;
        }

        private boolean isSo(int i, int d, Vestry v, State s) {
            switch (part[i]) {
                case IS_SO:
                    return s.how[d] == value[i];
                case LIES_IN:
                    return s.inBox[d] == value[i];
                case IS_KIN:
                    return v.areKin(d, value[i]);
                case LONG_IS:
                    return compares(v.deadLong[d], i);
                case WAITED_IS:
                    return compares(s.waited[d], i);
                case LAIN_IS:
                    return compares(s.lain[d], i);
                default:
                    return compares(d, i);
            }
        }

        private boolean compares(int number, int i) {
            if (sign[i] == '<') {
                return number < value[i];
            }
            return sign[i] == '=' ? number == value[i] : number > value[i];
        }
    }
}
