import java.util.Arrays;
import java.util.NoSuchElementException;

/**
 * People who have things that look well, or not so well, over a hedge: whoever wants one has it,
 * and who has it runs it down so that nobody wants it. The document DOC.md says what each call does.
 *
 * <p>Every row is made in a constructor and used again: a call makes no object.
 */
public final class HedgeWants {
    public static final int NONE = -1;

    private static final int MOST_PEOPLE = 8;
    private static final int MOST_THINGS = 12;
    private static final int MOST_BYTES = 700;
    private static final int FEED_BYTES = 20;
    private static final int MOST_WORTH = 9;
    private static final int MOST_RUN = 9;
    private static final int MOST_ACTS = 40;
    private static final int MOST_SEEN = 8;
    private static final int MOST_DAYS_AT_ONCE = 20;
    private static final int MOST_DAYS_SEEN = 20;
    private static final int MOST_DAYS_AHEAD = 60;
    private static final int MOST_SHY_DAYS = 5;
    private static final int LAST_DAY = 999;

    /** What STATUS counts. */
    private static final int TEXTS = 0;
    private static final int ACTS = 1;
    private static final int SIGHTS = 2;
    private static final int STATUSES = 3;

    private final int[] tape;
    private int taped;
    private final Reader reader;
    private int faultPlace;
    private Province told;
    private Province draft;
    private final World now;
    private final Memory memory;
    private final World imageOfNow;
    private final Memory imageOfMemory;
    private boolean imaged;
    private final Ahead ahead;
    private final Guess guess;
    private final Gifts gifts;

    public HedgeWants() {
        tape = new int[MOST_BYTES];
        told = new Province();
        draft = new Province();
        reader = new Reader(tape, draft);
        faultPlace = NONE;
        now = new World(told);
        memory = new Memory();
        imageOfNow = new World(told);
        imageOfMemory = new Memory();
        World spare = new World(told);
        ahead = new Ahead(now, spare);
        guess = new Guess(now, memory, spare);
        gifts = new Gifts();
    }

    // ---- the text ----

    public int feed(int a, int b, int c, int d, int e) {
        if (taped + FEED_BYTES > MOST_BYTES) {
            return NONE;
        }
        tapeNumber(a);
        tapeNumber(b);
        tapeNumber(c);
        tapeNumber(d);
        tapeNumber(e);
        return taped;
    }

    private void tapeNumber(int number) {
        for (int shift = 24; shift >= 0; shift -= 8) {
            if (taped >= 0 && taped < tape.length) {
                tape[taped] = (number >>> shift) & 255;
                taped++;
            }
        }
    }

    public int province(int n) throws IllegalArgumentException {
        if (n < 0 || n > taped) {
            throw new IllegalArgumentException("the tape has not so many bytes");
        }
        taped = 0;
        int fault = reader.read(n, draft);
        faultPlace = reader.faultPlace();
        if (fault != 0) {
            memory.refuse(TEXTS);
            return fault;
        }
        Province old = told;
        told = draft;
        draft = old;
        now.begin(told);
        memory.beginAnew();
        imaged = false;
        return 0;
    }

    public int fault() {
        return faultPlace;
    }

    // ---- what is so now ----

    public int count(int what) throws NoSuchElementException {
        switch (what) {
            case 0: return now.people();
            case 1: return now.things();
            case 2: return now.day();
            case 3: return now.safeThings();
            case 4: return Envy.couples(now);
            case 5: return Envy.swaps(now);
            case 6: return Envy.firstSwap(now);
            case 7: return Envy.nobodyWouldSwapAll(now) ? 1 : 0;
            case 8: return Hedges.parts(now);
            case 9: return Hedges.howMany(now);
            case 10: return now.allRun();
            case 11: return memory.acts();
            case 12: return memory.seen();
            case 13: return taped;
            case 14: return memory.refused(TEXTS);
            case 15: return memory.refused(ACTS);
            case 16: return memory.refused(SIGHTS);
            default: throw new NoSuchElementException("nothing such is counted");
        }
    }

    public int person(int person, int what) throws NoSuchElementException {
        checkPerson(person);
        switch (what) {
            case 0: return told.boldOf(person);
            case 1: return now.thingsOf(person);
            case 2: return now.wealthOf(person);
            case 3: return now.sightOf(person);
            case 4: return now.wishesOf(person);
            default: throw new NoSuchElementException("nothing such of a person");
        }
    }

    public int thing(int thing, int what) throws NoSuchElementException {
        checkThing(thing);
        switch (what) {
            case 0: return now.ownerOf(thing);
            case 1: return now.runOf(thing);
            case 2: return now.wantersOf(thing);
            case 3: return now.takerOf(thing);
            case 4: return told.isFirm(thing) ? 1 : 0;
            case 5: return ahead.toSpoil(thing);
            default: throw new NoSuchElementException("nothing such of a thing");
        }
    }

    public int look(int person, int thing, int what) throws NoSuchElementException {
        checkPerson(person);
        checkThing(thing);
        checkWhat(what, 1);
        return what == 0 ? now.worthOf(person, thing) : now.lookOf(person, thing);
    }

    // ---- acts ----

    public int days(int many) {
        if (many < 1 || many > MOST_DAYS_AT_ONCE || now.day() + many > LAST_DAY) {
            return memory.refuse(ACTS);
        }
        memory.keepAct(now);
        for (int i = 0; i < many; i++) {
            now.pass(0);
        }
        return now.day();
    }

    public int ask(int person, int thing) throws NoSuchElementException {
        checkPerson(person);
        checkThing(thing);
        if (!now.isWantedBy(thing, person)) {
            return memory.refuse(ACTS);
        }
        memory.keepAct(now);
        int owner = now.ownerOf(thing);
        now.setOwner(thing, person);
        now.setRun(thing, 0);
        return owner;
    }

    public int spoil(int thing) throws NoSuchElementException {
        checkThing(thing);
        int run = now.runOf(thing);
        if (run >= MOST_RUN) {
            return memory.refuse(ACTS);
        }
        memory.keepAct(now);
        now.setRun(thing, run + 1);
        return run + 1;
    }

    public int mend(int thing) throws NoSuchElementException {
        checkThing(thing);
        int run = now.runOf(thing);
        if (run == 0) {
            return memory.refuse(ACTS);
        }
        memory.keepAct(now);
        now.setRun(thing, 0);
        return run;
    }

    public int give(int thing, int person) throws NoSuchElementException {
        checkThing(thing);
        checkPerson(person);
        int owner = now.ownerOf(thing);
        if (owner == person) {
            return memory.refuse(ACTS);
        }
        memory.keepAct(now);
        now.setOwner(thing, person);
        return owner;
    }

    public int taste(int person, int thing, int worth) throws NoSuchElementException {
        checkPerson(person);
        checkThing(thing);
        int old = now.worthOf(person, thing);
        if (worth < 0 || worth > MOST_WORTH || worth == old) {
            return memory.refuse(ACTS);
        }
        memory.keepAct(now);
        now.setWorth(person, thing, worth);
        return old;
    }

    public boolean hedge(int person, int other, boolean is) throws NoSuchElementException {
        checkPerson(person);
        checkPerson(other);
        if (person == other || now.areNeighbours(person, other) == is) {
            memory.refuse(ACTS);
            return false;
        }
        memory.keepAct(now);
        now.setHedge(person, other, is);
        return true;
    }

    public int undo() {
        return memory.takeBackAct(now) ? memory.acts() : NONE;
    }

    // ---- if only days go by ----

    public int then(int thing, int days, int what) throws NoSuchElementException, IllegalArgumentException {
        checkThing(thing);
        checkWhat(what, 2);
        checkRange(days, 0, MOST_DAYS_AHEAD);
        World later = ahead.behind(days);
        if (what == 0) {
            return later.ownerOf(thing);
        }
        return what == 1 ? later.runOf(thing) : Integer.bitCount(later.wantersOf(thing));
    }

    public int has(int person, int days, int what) throws NoSuchElementException, IllegalArgumentException {
        checkPerson(person);
        checkWhat(what, 1);
        checkRange(days, 0, MOST_DAYS_AHEAD);
        World later = ahead.behind(days);
        return what == 0 ? Integer.bitCount(later.thingsOf(person)) : later.wealthOf(person);
    }

    public int kept(int thing) throws NoSuchElementException {
        checkThing(thing);
        return ahead.keptFor(thing);
    }

    public int held(int person, int thing, int days) throws NoSuchElementException, IllegalArgumentException {
        checkPerson(person);
        checkThing(thing);
        checkRange(days, 1, MOST_DAYS_AHEAD);
        return ahead.daysHeld(person, thing, days);
    }

    public int taken(int thing, int days) throws NoSuchElementException, IllegalArgumentException {
        checkThing(thing);
        checkRange(days, 0, MOST_DAYS_AHEAD);
        return ahead.behind(days).takesOf(thing);
    }

    public int later(int days, int what) throws NoSuchElementException, IllegalArgumentException {
        checkWhat(what, 3);
        checkRange(days, 0, MOST_DAYS_AHEAD);
        World later = ahead.behind(days);
        switch (what) {
            case 0: return later.allTakes();
            case 1: return later.mostTaken();
            case 2: return later.richest();
            default: return later.whoHasNothing();
        }
    }

    public int rests(int what) throws NoSuchElementException {
        checkWhat(what, 1);
        return what == 0 ? ahead.calm() : ahead.round();
    }

    // ---- comparing, sharing, hedges ----

    public boolean envies(int person, int other) throws NoSuchElementException {
        checkPerson(person);
        checkPerson(other);
        return Envy.isBetween(now, person, other);
    }

    public int each(int person) throws NoSuchElementException {
        if (person != NONE) {
            checkPerson(person);
        }
        gifts.share(now);
        return person == NONE ? gifts.worth() : gifts.thingFor(person);
    }

    public int far(int person, int other) throws NoSuchElementException {
        checkPerson(person);
        checkPerson(other);
        return Hedges.distance(now, person, other);
    }

    public int away(int person, int other) throws NoSuchElementException {
        checkPerson(person);
        checkPerson(other);
        return Hedges.fewestBetween(now, person, other);
    }

    // ---- advice ----

    public int toAsk(int person, int days) throws NoSuchElementException, IllegalArgumentException {
        checkPerson(person);
        checkRange(days, 1, MOST_DAYS_AHEAD);
        return ahead.bestToAsk(person, days);
    }

    public int toGive(int thing) throws NoSuchElementException {
        checkThing(thing);
        return ahead.bestToGive(thing);
    }

    // ---- what is seen, and whose taste was another ----

    public int see(int thing, int days, int person) throws NoSuchElementException {
        checkThing(thing);
        checkPerson(person);
        if (memory.seen() >= MOST_SEEN || days < 0 || days > MOST_DAYS_SEEN) {
            return memory.refuse(SIGHTS);
        }
        memory.keepSeen(thing, days, person);
        return memory.seen();
    }

    public int tastes(int what) throws NoSuchElementException {
        checkWhat(what, 2);
        if (what == 0) {
            return guess.howMany();
        }
        return what == 1 ? guess.first() : guess.fitsWithout();
    }

    public int next(int what) throws NoSuchElementException {
        checkWhat(what, 1);
        guess.gatherOwners();
        return what == 0 ? guess.thingToLookAt() : guess.mostOwners();
    }

    public void forget() {
        memory.forgetSeen();
    }

    // ---- chance and choice ----

    public int shy(int thing, int days, int tenths) throws NoSuchElementException, IllegalArgumentException {
        checkThing(thing);
        checkRange(days, 1, MOST_SHY_DAYS);
        checkRange(tenths, 0, 10);
        return ahead.stillOwned(thing, days, tenths);
    }

    public int game(int person, int other, int what) throws NoSuchElementException, IllegalArgumentException {
        checkPerson(person);
        checkPerson(other);
        checkWhat(what, 1);
        if (person == other) {
            throw new IllegalArgumentException("both are one");
        }
        ahead.play(person, other);
        return what == 0 ? ahead.restingCouples() : ahead.firstRestingCouple();
    }

    public int years(int seed, int n, int what) throws NoSuchElementException, IllegalArgumentException {
        checkWhat(what, 2);
        checkRange(n, 0, MOST_DAYS_AHEAD);
        World later = ahead.behindDrawnDays(seed, n);
        if (what == 0) {
            return later.allTakes();
        }
        return what == 1 ? Integer.bitCount(later.whoHasNothing()) : later.allRun();
    }

    // ---- the image ----

    public void image() {
        imageOfNow.follow(now);
        imageOfMemory.follow(memory);
        imaged = true;
    }

    public boolean restore() {
        if (!imaged) {
            return false;
        }
        now.follow(imageOfNow);
        memory.follow(imageOfMemory);
        return true;
    }

    // ---- refusals ----

    private void checkPerson(int person) {
        if (person < 0 || person >= now.people()) {
            throw new NoSuchElementException("no such person");
        }
    }

    private void checkThing(int thing) {
        if (thing < 0 || thing >= now.things()) {
            throw new NoSuchElementException("no such thing");
        }
    }

    private static void checkWhat(int what, int most) {
        if (what < 0 || what > most) {
            throw new NoSuchElementException("no such what");
        }
    }

    private static void checkRange(int number, int least, int most) {
        if (number < least || number > most) {
            throw new IllegalArgumentException("out of its range");
        }
    }

    private static boolean hasBit(int bits, int place) {
        return place >= 0 && place < 32 && (bits >>> place & 1) == 1;
    }

    /** An EXPR of WANTS or RUNS, kept as steps on a stack: what is joined stands ahead of what joins it. */
    private static final class Rule {
        /** Facts are the VALUES of an EXPR. As a step, a fact is kept as -1 less its number. */
        static final int RUN = 0;
        static final int DAY = 1;
        static final int LOOK = 2;
        static final int BOLD = 3;
        static final int OWN = 4;
        static final int THEIRS = 5;
        static final int WORTH = 6;
        static final int WANTED = 7;
        static final int FACTS = 8;

        static final int OR = -20;
        static final int AND = -21;
        static final int NOT = -22;
        static final int LESS = -23;
        static final int LIKE = -24;
        static final int PLUS = -25;
        static final int MINUS = -26;
        static final int TIMES = -27;
        static final int OVER = -28;

        /** Six EXPRS in one another, each with a left side open of or, and, a test, a sum, a product. */
        private static final int MOST_OPEN = 64;

        private final int[] steps = new int[MOST_BYTES];
        private int length;
        private boolean isTold;
        private int usedFacts;
        private final int[] stack = new int[MOST_OPEN];

        void clear() {
            length = 0;
            isTold = false;
            usedFacts = 0;
        }

        void begin() {
            isTold = true;
        }

        boolean isTold() {
            return isTold;
        }

        boolean uses(int fact) {
            return hasBit(usedFacts, fact);
        }

        /** A step that is a NUMBER (0 or more) or one that joins. */
        void add(int step) {
            if (length >= 0 && length < steps.length) {
                steps[length] = step;
                length++;
            }
        }

        void addFact(int fact) {
            add(-1 - fact);
            usedFacts |= 1 << fact;
        }

        int value(int[] facts) {
            int top = 0;
            for (int i = 0; i < length && i < steps.length; i++) {
                int step = steps[i];
                if (step >= -FACTS) {
                    int fact = -1 - step;
                    boolean isFact = fact >= 0 && fact < facts.length;
                    if (top >= 0 && top < stack.length) {
                        stack[top] = isFact ? facts[fact] : step;
                        top++;
                    }
                } else if (step == NOT) {
                    if (top >= 1 && top <= stack.length) {
                        stack[top - 1] = stack[top - 1] == 0 ? 1 : 0;
                    }
                } else if (top >= 2 && top <= stack.length) {
                    top--;
                    stack[top - 1] = joined(step, stack[top - 1], stack[top]);
                }
            }
            return top >= 1 && top <= stack.length ? stack[top - 1] : 0;
        }

        private static int joined(int step, int a, int b) {
            switch (step) {
                case OR: return a != 0 || b != 0 ? 1 : 0;
                case AND: return a != 0 && b != 0 ? 1 : 0;
                case LESS: return a < b ? 1 : 0;
                case LIKE: return a == b ? 1 : 0;
                case PLUS: return a + b;
                case MINUS: return a - b;
                case TIMES: return a * b;
                default: return b == 0 ? 0 : a / b;
            }
        }
    }

    /** What a TEXT tells: what never changes till the next one, and how all is at first. */
    private static final class Province {
        private int people;
        private int things;
        private int firm;
        private boolean anyHedge;
        private final int[] bolds = new int[MOST_PEOPLE];
        private final int[] hedges = new int[MOST_PEOPLE];
        private final int[] owners = new int[MOST_THINGS];
        private final int[] worths = new int[MOST_PEOPLE * MOST_THINGS];
        private final Rule wants = new Rule();
        private final Rule runs = new Rule();

        void clear() {
            people = 0;
            things = 0;
            firm = 0;
            anyHedge = false;
            Arrays.fill(hedges, 0);
            wants.clear();
            runs.clear();
        }

        int people() {
            return people;
        }

        int things() {
            return things;
        }

        Rule wants() {
            return wants;
        }

        Rule runs() {
            return runs;
        }

        boolean namesDay() {
            return wants.uses(Rule.DAY) || runs.uses(Rule.DAY);
        }

        int boldOf(int person) {
            return person >= 0 && person < bolds.length ? bolds[person] : 0;
        }

        boolean isFirm(int thing) {
            return hasBit(firm, thing);
        }

        int firstOwnerOf(int thing) {
            return thing >= 0 && thing < owners.length ? owners[thing] : NONE;
        }

        /** Whom a PERSON sees at first: without any HEDGE told, all others. */
        int firstSightOf(int person) {
            if (person < 0 || person >= people || person >= hedges.length) {
                return 0;
            }
            return anyHedge ? hedges[person] : ((1 << people) - 1) & ~(1 << person);
        }

        void copyWorths(int[] into) {
            if (into.length >= worths.length) {
                System.arraycopy(worths, 0, into, 0, worths.length);
            }
        }

        void addPerson(int bold) {
            if (people >= 0 && people < bolds.length) {
                bolds[people] = bold;
                people++;
            }
        }

        void addThing(int owner, boolean isFirm) {
            if (things >= 0 && things < owners.length) {
                owners[things] = owner;
                firm |= isFirm ? 1 << things : 0;
                things++;
            }
        }

        /** WORTH of the THING that was added last. */
        void addWorth(int person, int worth) {
            int place = person * MOST_THINGS + things - 1;
            if (place >= 0 && place < worths.length) {
                worths[place] = worth;
            }
        }

        boolean isHedge(int person, int other) {
            return person >= 0 && person < hedges.length && hasBit(hedges[person], other);
        }

        void addHedge(int person, int other) {
            if (person >= 0 && person < hedges.length && other >= 0 && other < hedges.length) {
                hedges[person] |= 1 << other;
                hedges[other] |= 1 << person;
                anyHedge = true;
            }
        }
    }

    /**
     * Reads a TEXT into a Province. Behind a FAULT the token is the END and stays it: nothing more can stand,
     * so that all that reads on ends, and the first FAULT is the one that is kept.
     */
    private static final class Reader {
        private static final int END = 0;
        private static final int WORD = 1;
        private static final int NUMBER = 2;
        private static final int SIGN = 3;
        private static final int BLANK = 4;
        private static final int STRAY = 5;

        private static final int CANT_STAND = 1;
        private static final int TOO_MUCH = 2;
        private static final int UNKNOWN = 3;
        private static final int OUT_OF_ROW = 4;
        private static final int SECOND_RULE = 5;

        private static final int MOST_DIGITS = 4;
        private static final int MOST_EXPRS_AROUND = 5;
        private static final int MOST_NOTS = 6;

        private final int[] text;
        private int length;
        private int start;
        private int end;
        private int kind;
        /** Of a NUMBER its value, of a SIGN its byte. */
        private int value;
        private int fault;
        private int faultPlace;
        private Province draft;
        private Rule rule;
        private boolean isOfWants;

        Reader(int[] text, Province draft) {
            this.text = text;
            this.faultPlace = NONE;
            this.draft = draft;
            this.rule = draft.wants();
        }

        int faultPlace() {
            return faultPlace;
        }

        /** Reads the first bytes into the draft: 0 or the FAULT. */
        int read(int bytes, Province into) {
            length = bytes;
            end = 0;
            fault = 0;
            faultPlace = NONE;
            draft = into;
            draft.clear();
            advance();
            for (int i = 0; i < MOST_BYTES && kind != END; i++) {
                readLine();
            }
            return fault;
        }

        private void refuse(int code) {
            if (fault == 0) {
                fault = code;
                faultPlace = start;
            }
            kind = END;
        }

        // ---- tokens ----

        private void advance() {
            if (fault != 0) {
                return;
            }
            start = rowEnd(end, BLANK);
            if (start < 0 || start >= length || start >= text.length) {
                start = length;
                end = length;
                kind = END;
                return;
            }
            kind = kindOf(text[start]);
            value = text[start];
            end = kind == WORD || kind == NUMBER ? rowEnd(start, kind) : start + 1;
            if (kind == NUMBER) {
                value = numberOf();
            }
        }

        /** Where a row of bytes of one kind ends that starts there. */
        private int rowEnd(int from, int rowKind) {
            int i = from;
            while (i >= 0 && i < length && i < text.length && kindOf(text[i]) == rowKind) {
                i++;
            }
            return i;
        }

        private static int kindOf(int sign) {
            if (sign >= 'a' && sign <= 'z') {
                return WORD;
            }
            if (sign >= '0' && sign <= '9') {
                return NUMBER;
            }
            switch (sign) {
                case ' ':
                case '\n':
                    return BLANK;
                case ';':
                case '(':
                case ')':
                case '+':
                case '-':
                case '*':
                case '/':
                case '<':
                case '=':
                    return SIGN;
                default:
                    return STRAY;
            }
        }

        /** Of a NUMBER of too many digits the first ones. */
        private int numberOf() {
            int number = 0;
            for (int i = start; i >= 0 && i < end && i < text.length && i < start + MOST_DIGITS; i++) {
                number = number * 10 + text[i] - '0';
            }
            return number;
        }

        private boolean isTooLong() {
            return end - start > MOST_DIGITS;
        }

        private boolean isWord(String word) {
            if (kind != WORD || end - start != word.length()) {
                return false;
            }
            for (int i = 0; i < word.length(); i++) {
                int place = start + i;
                if (place < 0 || place >= text.length || text[place] != word.charAt(i)) {
                    return false;
                }
            }
            return true;
        }

        private boolean isSign(char sign) {
            return kind == SIGN && value == sign;
        }

        // ---- lines ----

        private void readLine() {
            if (isWord("person")) {
                readPerson();
            } else if (isWord("thing")) {
                readThing(false);
            } else if (isWord("firm")) {
                readThing(true);
            } else if (isWord("hedge")) {
                readHedge();
            } else if (isWord("wants")) {
                beginRule(draft.wants(), true);
                readExpr(0);
            } else if (isWord("runs")) {
                beginRule(draft.runs(), false);
                readExpr(0);
            } else {
                refuse(CANT_STAND);
            }
            passSign(';');
        }

        private void readPerson() {
            if (draft.people() >= MOST_PEOPLE) {
                refuse(TOO_MUCH);
            } else if (draft.things() > 0) {
                refuse(OUT_OF_ROW);
            }
            advance();
            draft.addPerson(readNumber(MOST_WORTH));
        }

        private void readThing(boolean isFirm) {
            if (draft.things() >= MOST_THINGS) {
                refuse(TOO_MUCH);
            }
            advance();
            draft.addThing(readKnownPerson(NONE), isFirm);
            for (int person = 0; person < draft.people() && person < MOST_PEOPLE; person++) {
                draft.addWorth(person, readNumber(MOST_WORTH));
            }
        }

        private void readHedge() {
            advance();
            int person = readKnownPerson(NONE);
            int other = readKnownPerson(person);
            draft.addHedge(person, other);
        }

        private void beginRule(Rule into, boolean wants) {
            if (into.isTold()) {
                refuse(SECOND_RULE);
            }
            advance();
            into.begin();
            rule = into;
            isOfWants = wants;
        }

        private void passSign(char sign) {
            if (!isSign(sign)) {
                refuse(CANT_STAND);
            }
            advance();
        }

        private int readNumber(int most) {
            if (kind != NUMBER) {
                refuse(CANT_STAND);
            } else if (isTooLong() || value > most) {
                refuse(TOO_MUCH);
            }
            int number = value;
            advance();
            return fault == 0 ? number : 0;
        }

        /** A PERSON told ahead; behind another one (not NONE) the second one of a HEDGE. */
        private int readKnownPerson(int first) {
            if (kind != NUMBER) {
                refuse(CANT_STAND);
            } else if (isTooLong()) {
                refuse(TOO_MUCH);
            } else if (value >= draft.people()) {
                refuse(UNKNOWN);
            } else if (value == first || draft.isHedge(first, value)) {
                refuse(OUT_OF_ROW);
            }
            int person = value;
            advance();
            return fault == 0 ? person : NONE;
        }

        // ---- an EXPR: a method for each level, by how many EXPRS stand around it ----

        private void readExpr(int around) {
            if (around > MOST_EXPRS_AROUND) {
                refuse(kind == NUMBER || kind == WORD || isSign('(') ? TOO_MUCH : CANT_STAND);
                return;
            }
            readAnd(around);
            for (int i = 0; i < MOST_BYTES && isWord("or"); i++) {
                advance();
                readAnd(around);
                rule.add(Rule.OR);
            }
        }

        private void readAnd(int around) {
            readNot(around);
            for (int i = 0; i < MOST_BYTES && isWord("and"); i++) {
                advance();
                readNot(around);
                rule.add(Rule.AND);
            }
        }

        private void readNot(int around) {
            int nots = 0;
            while (nots < MOST_NOTS && isWord("not")) {
                advance();
                nots++;
            }
            if (isWord("not")) {
                refuse(TOO_MUCH);
            }
            readTest(around);
            for (int i = 0; i < nots; i++) {
                rule.add(Rule.NOT);
            }
        }

        private void readTest(int around) {
            readSum(around);
            if (isSign('<') || isSign('=')) {
                int step = isSign('<') ? Rule.LESS : Rule.LIKE;
                advance();
                readSum(around);
                rule.add(step);
            }
        }

        private void readSum(int around) {
            readProduct(around);
            for (int i = 0; i < MOST_BYTES && (isSign('+') || isSign('-')); i++) {
                int step = isSign('+') ? Rule.PLUS : Rule.MINUS;
                advance();
                readProduct(around);
                rule.add(step);
            }
        }

        private void readProduct(int around) {
            readPart(around);
            for (int i = 0; i < MOST_BYTES && (isSign('*') || isSign('/')); i++) {
                int step = isSign('*') ? Rule.TIMES : Rule.OVER;
                advance();
                readPart(around);
                rule.add(step);
            }
        }

        private void readPart(int around) {
            if (kind == NUMBER) {
                rule.add(value);
                if (isTooLong()) {
                    refuse(TOO_MUCH);
                }
                advance();
            } else if (kind == WORD) {
                int fact = factOfWord();
                if (fact == NONE) {
                    refuse(UNKNOWN);
                } else {
                    rule.addFact(fact);
                }
                advance();
            } else if (isSign('(')) {
                advance();
                readExpr(around + 1);
                passSign(')');
            } else {
                refuse(CANT_STAND);
            }
        }

        /** Which VALUE of the EXPR that is read the word is, or NONE. */
        private int factOfWord() {
            if (isWord("run")) {
                return Rule.RUN;
            }
            if (isWord("day")) {
                return Rule.DAY;
            }
            if (isOfWants) {
                return isWord("look") ? Rule.LOOK
                    : isWord("bold") ? Rule.BOLD
                    : isWord("own") ? Rule.OWN
                    : isWord("theirs") ? Rule.THEIRS : NONE;
            }
            return isWord("worth") ? Rule.WORTH : isWord("wanted") ? Rule.WANTED : NONE;
        }
    }

    /** What is so at one time, and how a DAY changes it. */
    private static final class World {
        /** The DAY, OWNERS, RUNS, who sees whom, WORTHS. */
        static final int ROW = 1 + MOST_THINGS + MOST_THINGS + MOST_PEOPLE + MOST_PEOPLE * MOST_THINGS;

        private static final int WANTED_LOOK = 5;
        private static final int MOST_WEAR = 3;

        private Province told;
        private int people;
        private int things;
        private int day;
        private final int[] owners = new int[MOST_THINGS];
        private final int[] runs = new int[MOST_THINGS];
        private final int[] sights = new int[MOST_PEOPLE];
        private final int[] worths = new int[MOST_PEOPLE * MOST_THINGS];
        /** How often each THING was TAKEN since this world last followed another one. */
        private final int[] takes = new int[MOST_THINGS];
        private final int[] facts = new int[Rule.FACTS];
        /** Who WANTS nothing on the DAY that goes by (bits). */
        private int silent;
        /** The last DAY changed nothing: unless a rule names the day, no later one will. */
        private boolean settled;

        World(Province told) {
            this.told = told;
        }

        // ---- as a whole ----

        void begin(Province province) {
            told = province;
            people = province.people();
            things = province.things();
            day = 0;
            settled = false;
            for (int thing = 0; thing < owners.length && thing < runs.length; thing++) {
                owners[thing] = province.firstOwnerOf(thing);
                runs[thing] = 0;
            }
            for (int person = 0; person < sights.length; person++) {
                sights[person] = province.firstSightOf(person);
            }
            province.copyWorths(worths);
            Arrays.fill(takes, 0);
        }

        void follow(World other) {
            told = other.told;
            people = other.people;
            things = other.things;
            day = other.day;
            settled = other.settled;
            System.arraycopy(other.owners, 0, owners, 0, MOST_THINGS);
            System.arraycopy(other.runs, 0, runs, 0, MOST_THINGS);
            System.arraycopy(other.sights, 0, sights, 0, MOST_PEOPLE);
            System.arraycopy(other.worths, 0, worths, 0, MOST_PEOPLE * MOST_THINGS);
            Arrays.fill(takes, 0);
        }

        void save(int[] rows, int row) {
            int at = row * ROW;
            if (row < 0 || at < 0 || at + ROW > rows.length) {
                return;
            }
            rows[at] = day;
            at++;
            System.arraycopy(owners, 0, rows, at, MOST_THINGS);
            at += MOST_THINGS;
            System.arraycopy(runs, 0, rows, at, MOST_THINGS);
            at += MOST_THINGS;
            System.arraycopy(sights, 0, rows, at, MOST_PEOPLE);
            at += MOST_PEOPLE;
            System.arraycopy(worths, 0, rows, at, MOST_PEOPLE * MOST_THINGS);
        }

        void load(int[] rows, int row) {
            int at = row * ROW;
            if (row < 0 || at < 0 || at + ROW > rows.length) {
                return;
            }
            settled = false;
            day = rows[at];
            at++;
            System.arraycopy(rows, at, owners, 0, MOST_THINGS);
            at += MOST_THINGS;
            System.arraycopy(rows, at, runs, 0, MOST_THINGS);
            at += MOST_THINGS;
            System.arraycopy(rows, at, sights, 0, MOST_PEOPLE);
            at += MOST_PEOPLE;
            System.arraycopy(rows, at, worths, 0, MOST_PEOPLE * MOST_THINGS);
        }

        // ---- one by one ----

        int people() {
            return people;
        }

        int things() {
            return things;
        }

        int day() {
            return day;
        }

        int ownerOf(int thing) {
            return thing >= 0 && thing < owners.length ? owners[thing] : NONE;
        }

        int runOf(int thing) {
            return thing >= 0 && thing < runs.length ? runs[thing] : 0;
        }

        int takesOf(int thing) {
            return thing >= 0 && thing < takes.length ? takes[thing] : 0;
        }

        int sightOf(int person) {
            return person >= 0 && person < sights.length ? sights[person] : 0;
        }

        boolean areNeighbours(int person, int other) {
            return hasBit(sightOf(person), other);
        }

        int worthOf(int person, int thing) {
            int place = person * MOST_THINGS + thing;
            return place >= 0 && place < worths.length ? worths[place] : 0;
        }

        int lookOf(int person, int thing) {
            int worth = worthOf(person, thing);
            return ownerOf(thing) == person ? worth : Math.max(0, worth - runOf(thing));
        }

        void setOwner(int thing, int person) {
            if (thing >= 0 && thing < owners.length) {
                owners[thing] = person;
                settled = false;
            }
        }

        void setRun(int thing, int run) {
            if (thing >= 0 && thing < runs.length) {
                runs[thing] = run;
                settled = false;
            }
        }

        void setWorth(int person, int thing, int worth) {
            int place = person * MOST_THINGS + thing;
            if (place >= 0 && place < worths.length) {
                worths[place] = worth;
                settled = false;
            }
        }

        void setHedge(int person, int other, boolean is) {
            if (person >= 0 && person < sights.length && other >= 0 && other < sights.length) {
                sights[person] = is ? sights[person] | 1 << other : sights[person] & ~(1 << other);
                sights[other] = is ? sights[other] | 1 << person : sights[other] & ~(1 << person);
                settled = false;
            }
        }

        // ---- who WANTS what ----

        boolean isWantedBy(int thing, int person) {
            int owner = ownerOf(thing);
            if (!hasBit(sightOf(owner), person) || hasBit(silent, person)) {
                return false;
            }
            int look = lookOf(person, thing);
            Rule wants = told.wants();
            if (!wants.isTold()) {
                return look >= WANTED_LOOK;
            }
            facts[Rule.RUN] = runOf(thing);
            facts[Rule.DAY] = day;
            facts[Rule.LOOK] = look;
            facts[Rule.BOLD] = told.boldOf(person);
            facts[Rule.OWN] = wants.uses(Rule.OWN) ? howManyOf(person) : 0;
            facts[Rule.THEIRS] = wants.uses(Rule.THEIRS) ? howManyOf(owner) : 0;
            return wants.value(facts) > 0;
        }

        int wantersOf(int thing) {
            int wanters = 0;
            for (int person = 0; person < people; person++) {
                wanters |= isWantedBy(thing, person) ? 1 << person : 0;
            }
            return wanters;
        }

        int wishesOf(int person) {
            int wishes = 0;
            for (int thing = 0; thing < things; thing++) {
                wishes |= isWantedBy(thing, person) ? 1 << thing : 0;
            }
            return wishes;
        }

        int safeThings() {
            int safe = 0;
            for (int thing = 0; thing < things; thing++) {
                safe |= wantersOf(thing) == 0 ? 1 << thing : 0;
            }
            return safe;
        }

        /** Who would TAKE a THING. Whether one WANTS it is asked only where it looks better than so far. */
        int takerOf(int thing) {
            int taker = NONE;
            int most = NONE;
            for (int person = 0; person < people; person++) {
                int look = lookOf(person, thing);
                if (look > most && isWantedBy(thing, person)) {
                    taker = person;
                    most = look;
                }
            }
            return taker;
        }

        // ---- a DAY ----

        /** A DAY goes by, on which the silent ones (bits) WANT nothing: how many THINGS are TAKEN. */
        int pass(int silentOnes) {
            if (settled && silentOnes == 0 && !told.namesDay()) {
                day++;
                return 0;
            }
            silent = silentOnes;
            int taken = 0;
            for (int thing = 0; thing < things && thing < takes.length; thing++) {
                int taker = takerOf(thing);
                if (taker != NONE) {
                    setOwner(thing, taker);
                    setRun(thing, 0);
                    takes[thing]++;
                    taken++;
                }
            }
            int worn = 0;
            for (int thing = 0; thing < things; thing++) {
                int run = runOf(thing);
                int more = run < MOST_RUN ? Math.min(wearOf(thing), MOST_RUN - run) : 0;
                setRun(thing, run + more);
                worn += more;
            }
            silent = 0;
            settled = silentOnes == 0 && taken == 0 && worn == 0;
            day++;
            return taken;
        }

        /** By how much a THING is RUN down more on this DAY. */
        private int wearOf(int thing) {
            Rule rule = told.runs();
            int wanted = 0;
            if (!rule.isTold() || rule.uses(Rule.WANTED)) {
                for (int person = 0; person < people; person++) {
                    wanted += isWantedBy(thing, person) ? 1 : 0;
                }
            }
            int wear = wanted > 0 ? 1 : 0;
            if (rule.isTold()) {
                facts[Rule.RUN] = runOf(thing);
                facts[Rule.DAY] = day;
                facts[Rule.WORTH] = worthOf(ownerOf(thing), thing);
                facts[Rule.WANTED] = wanted;
                wear = Math.max(0, Math.min(rule.value(facts), MOST_WEAR));
            }
            return told.isFirm(thing) ? wear / 2 : wear;
        }

        // ---- who has what ----

        int thingsOf(int person) {
            int bits = 0;
            for (int thing = 0; thing < things; thing++) {
                bits |= ownerOf(thing) == person ? 1 << thing : 0;
            }
            return bits;
        }

        private int howManyOf(int person) {
            int many = 0;
            for (int thing = 0; thing < owners.length && thing < things; thing++) {
                many += owners[thing] == person ? 1 : 0;
            }
            return many;
        }

        int wealthOf(int person) {
            int wealth = 0;
            for (int thing = 0; thing < things; thing++) {
                wealth += ownerOf(thing) == person ? worthOf(person, thing) : 0;
            }
            return wealth;
        }

        int richest() {
            int richest = NONE;
            int most = NONE;
            for (int person = 0; person < people; person++) {
                int wealth = wealthOf(person);
                if (wealth > most) {
                    richest = person;
                    most = wealth;
                }
            }
            return richest;
        }

        int whoHasNothing() {
            int bits = 0;
            for (int person = 0; person < people; person++) {
                bits |= thingsOf(person) == 0 ? 1 << person : 0;
            }
            return bits;
        }

        int allRun() {
            int all = 0;
            for (int thing = 0; thing < things; thing++) {
                all += runOf(thing);
            }
            return all;
        }

        int allTakes() {
            int all = 0;
            for (int thing = 0; thing < things; thing++) {
                all += takesOf(thing);
            }
            return all;
        }

        int mostTaken() {
            int mostTaken = NONE;
            int most = 0;
            for (int thing = 0; thing < things; thing++) {
                if (takesOf(thing) > most) {
                    mostTaken = thing;
                    most = takesOf(thing);
                }
            }
            return mostTaken;
        }

        boolean hasOwnersOf(World other) {
            for (int thing = 0; thing < things; thing++) {
                if (ownerOf(thing) != other.ownerOf(thing)) {
                    return false;
                }
            }
            return true;
        }
    }

    /** What is kept of ACTS, what is SEEN, STATUS. */
    private static final class Memory {
        private static final int SEEN_ROW = 3;

        /** How all was ahead of each ACT, the latest one last. */
        private final int[] actRows = new int[MOST_ACTS * World.ROW];
        private int acts;
        /** The THING, DAYS, the PERSON of each. */
        private final int[] seenRows = new int[MOST_SEEN * SEEN_ROW];
        private int seen;
        private final int[] refused = new int[STATUSES];

        void follow(Memory other) {
            System.arraycopy(other.actRows, 0, actRows, 0, MOST_ACTS * World.ROW);
            acts = other.acts;
            System.arraycopy(other.seenRows, 0, seenRows, 0, MOST_SEEN * SEEN_ROW);
            seen = other.seen;
            System.arraycopy(other.refused, 0, refused, 0, STATUSES);
        }

        void beginAnew() {
            acts = 0;
            seen = 0;
        }

        int acts() {
            return acts;
        }

        int seen() {
            return seen;
        }

        /** Counts a call that is refused: NONE, its answer. */
        int refuse(int status) {
            if (status >= 0 && status < refused.length) {
                refused[status]++;
            }
            return NONE;
        }

        int refused(int status) {
            return status >= 0 && status < refused.length ? refused[status] : 0;
        }

        /** Called ahead of an ACT. */
        void keepAct(World world) {
            if (acts >= MOST_ACTS) {
                System.arraycopy(actRows, World.ROW, actRows, 0, (MOST_ACTS - 1) * World.ROW);
                acts = MOST_ACTS - 1;
            }
            world.save(actRows, acts);
            acts++;
        }

        boolean takeBackAct(World world) {
            if (acts <= 0) {
                return false;
            }
            acts--;
            world.load(actRows, acts);
            return true;
        }

        void keepSeen(int thing, int days, int person) {
            int at = seen * SEEN_ROW;
            if (at >= 0 && at + 2 < seenRows.length) {
                seenRows[at] = thing;
                seenRows[at + 1] = days;
                seenRows[at + 2] = person;
                seen++;
            }
        }

        void forgetSeen() {
            seen = 0;
        }

        int lastDaySeen() {
            int last = 0;
            for (int at = 0; at < seen * SEEN_ROW && at + 2 < seenRows.length; at += SEEN_ROW) {
                last = Math.max(last, seenRows[at + 1]);
            }
            return last;
        }

        /** Whether all that is SEEN behind so many DAYS is so in a world. */
        boolean agrees(World world, int days) {
            for (int at = 0; at < seen * SEEN_ROW && at + 2 < seenRows.length; at += SEEN_ROW) {
                if (seenRows[at + 1] == days && world.ownerOf(seenRows[at]) != seenRows[at + 2]) {
                    return false;
                }
            }
            return true;
        }
    }

    /** ENVY and SWAPS, be there a HEDGE or not. */
    private static final class Envy {
        static boolean isBetween(World world, int person, int other) {
            int theirs = 0;
            for (int thing = 0; thing < world.things(); thing++) {
                theirs += world.ownerOf(thing) == other ? world.lookOf(person, thing) : 0;
            }
            return person != other && theirs > world.wealthOf(person);
        }

        static int couples(World world) {
            int couples = 0;
            for (int person = 0; person < world.people(); person++) {
                for (int other = 0; other < world.people(); other++) {
                    couples += isBetween(world, person, other) ? 1 : 0;
                }
            }
            return couples;
        }

        static boolean nobodyWouldSwapAll(World world) {
            for (int person = 0; person < world.people(); person++) {
                for (int other = 0; other < world.people(); other++) {
                    if (world.areNeighbours(person, other) && isBetween(world, person, other)) {
                        return false;
                    }
                }
            }
            return true;
        }

        static int swaps(World world) {
            int swaps = 0;
            for (int thing = 0; thing < world.things(); thing++) {
                for (int other = thing + 1; other < world.things(); other++) {
                    swaps += bothGain(world, thing, other) ? 1 : 0;
                }
            }
            return swaps;
        }

        static int firstSwap(World world) {
            for (int thing = 0; thing < world.things(); thing++) {
                for (int other = thing + 1; other < world.things(); other++) {
                    if (bothGain(world, thing, other)) {
                        return 100 * thing + other;
                    }
                }
            }
            return NONE;
        }

        private static boolean bothGain(World world, int thing, int other) {
            int one = world.ownerOf(thing);
            int two = world.ownerOf(other);
            return one != two
                && world.lookOf(one, other) > world.worthOf(one, thing)
                && world.lookOf(two, thing) > world.worthOf(two, other);
        }
    }

    /** Ways over HEDGES. */
    private static final class Hedges {
        static int howMany(World world) {
            int both = 0;
            for (int person = 0; person < world.people(); person++) {
                both += Integer.bitCount(world.sightOf(person));
            }
            return both / 2;
        }

        static int distance(World world, int person, int other) {
            int reached = 1 << person;
            for (int steps = 0; steps < MOST_PEOPLE; steps++) {
                if (hasBit(reached, other)) {
                    return steps;
                }
                reached |= seenBy(world, reached);
            }
            return NONE;
        }

        static int parts(World world) {
            int parts = 0;
            int counted = 0;
            for (int person = 0; person < world.people(); person++) {
                if (!hasBit(counted, person)) {
                    parts++;
                    counted |= reachedFrom(world, person, 0);
                }
            }
            return parts;
        }

        static int fewestBetween(World world, int person, int other) {
            if (person == other || world.areNeighbours(person, other)) {
                return NONE;
            }
            int fewest = NONE;
            for (int bits = 0; bits < 1 << MOST_PEOPLE; bits++) {
                boolean isFewer = fewest == NONE || Integer.bitCount(bits) < Integer.bitCount(fewest);
                if (isFewer && !hasBit(bits, person) && !hasBit(bits, other)
                    && !hasBit(reachedFrom(world, person, bits), other)) {
                    fewest = bits;
                }
            }
            return fewest;
        }

        private static int reachedFrom(World world, int person, int lookingAway) {
            int reached = 1 << person;
            for (int steps = 0; steps < MOST_PEOPLE; steps++) {
                reached |= seenBy(world, reached) & ~lookingAway;
            }
            return reached;
        }

        private static int seenBy(World world, int bits) {
            int seen = 0;
            for (int person = 0; person < world.people(); person++) {
                seen |= hasBit(bits, person) ? world.sightOf(person) : 0;
            }
            return seen;
        }
    }

    /**
     * ONE EACH. A row of gifts is one number: WORTH all together, then a digit for each PERSON, the first one's
     * highest, that is the greater the lesser the THING is (0: none). So the greatest number is the first row
     * of those of most WORTH.
     */
    private static final class Gifts {
        private static final int BASE = MOST_THINGS + 1;
        /** BASE to the power of MOST_PEOPLE. */
        private static final long WORTH_UNIT = 815730721L;

        /** By bits of who is given a THING: the greatest number. */
        private final long[] best = new long[1 << MOST_PEOPLE];
        private long row;

        void share(World world) {
            Arrays.fill(best, NONE);
            best[0] = 0;
            int everybody = (1 << world.people()) - 1;
            for (int thing = 0; thing < world.things(); thing++) {
                for (int given = everybody; given > 0 && given < best.length; given--) {
                    best[given] = Math.max(best[given], bestWith(world, thing, given));
                }
            }
            int many = Math.min(world.people(), world.things());
            row = 0;
            for (int given = 0; given <= everybody && given < best.length; given++) {
                row = Integer.bitCount(given) == many ? Math.max(row, best[given]) : row;
            }
        }

        private long bestWith(World world, int thing, int given) {
            long most = NONE;
            long unit = WORTH_UNIT;
            for (int person = 0; person < world.people(); person++) {
                unit = unit / BASE;
                int others = given & ~(1 << person);
                if (hasBit(given, person) && others >= 0 && others < best.length && best[others] >= 0) {
                    long gift = world.worthOf(person, thing) * WORTH_UNIT + (MOST_THINGS - thing) * unit;
                    most = Math.max(most, best[others] + gift);
                }
            }
            return most;
        }

        int worth() {
            return (int) (row / WORTH_UNIT);
        }

        int thingFor(int person) {
            long digits = row % WORTH_UNIT;
            for (int i = person + 1; i < MOST_PEOPLE; i++) {
                digits = digits / BASE;
            }
            int digit = (int) (digits % BASE);
            return digit == 0 ? NONE : MOST_THINGS - digit;
        }
    }

    /** What comes of it, from now on: tried out in a spare world. */
    private static final class Ahead {
        private static final int NEVER = MOST_DAYS_AHEAD + 1;
        private static final int GAME_DAYS = 4;
        private static final int TONGUE_HELD = 2;
        private static final int ALL_SILENT = (1 << MOST_PEOPLE) - 1;

        private final World now;
        private final World spare;
        private int seed;
        /** By 2 times the first one's choice and the other one's. */
        private final int[] firstGains = new int[4];
        private final int[] otherGains = new int[4];

        Ahead(World now, World spare) {
            this.now = now;
            this.spare = spare;
        }

        World behind(int days) {
            spare.follow(now);
            passDays(days);
            return spare;
        }

        private void passDays(int days) {
            for (int i = 0; i < days; i++) {
                spare.pass(0);
            }
        }

        int toSpoil(int thing) {
            spare.follow(now);
            int run = now.runOf(thing);
            for (int more = 0; run + more <= MOST_RUN; more++) {
                spare.setRun(thing, run + more);
                if (spare.wantersOf(thing) == 0) {
                    return more;
                }
            }
            return NONE;
        }

        int keptFor(int thing) {
            spare.follow(now);
            int days = daysTillTaken(thing);
            return days == NEVER ? NONE : days;
        }

        private int daysTillTaken(int thing) {
            for (int days = 1; days <= MOST_DAYS_AHEAD; days++) {
                spare.pass(0);
                if (spare.takesOf(thing) > 0) {
                    return days;
                }
            }
            return NEVER;
        }

        int daysHeld(int person, int thing, int days) {
            spare.follow(now);
            int held = 0;
            for (int i = 0; i < days; i++) {
                spare.pass(0);
                held += spare.ownerOf(thing) == person ? 1 : 0;
            }
            return held;
        }

        int calm() {
            spare.follow(now);
            int last = 0;
            for (int days = 1; days <= MOST_DAYS_AHEAD; days++) {
                last = spare.pass(0) > 0 ? days : last;
            }
            return last == MOST_DAYS_AHEAD ? NONE : last;
        }

        int round() {
            spare.follow(now);
            boolean wasAnother = false;
            for (int days = 1; days <= MOST_DAYS_AHEAD; days++) {
                spare.pass(0);
                boolean isAsNow = spare.hasOwnersOf(now);
                if (isAsNow && wasAnother) {
                    return days;
                }
                wasAnother = wasAnother || !isAsNow;
            }
            return NONE;
        }

        int bestToAsk(int person, int days) {
            int best = NONE;
            spare.follow(now);
            passDays(days);
            int most = spare.wealthOf(person);
            for (int thing = 0; thing < now.things(); thing++) {
                if (now.isWantedBy(thing, person)) {
                    spare.follow(now);
                    spare.setOwner(thing, person);
                    spare.setRun(thing, 0);
                    passDays(days);
                    int wealth = spare.wealthOf(person);
                    best = wealth > most ? thing : best;
                    most = Math.max(most, wealth);
                }
            }
            return best;
        }

        int bestToGive(int thing) {
            int best = NONE;
            spare.follow(now);
            int soonest = daysTillTaken(thing);
            for (int person = 0; person < now.people(); person++) {
                if (person != now.ownerOf(thing)) {
                    spare.follow(now);
                    spare.setOwner(thing, person);
                    int days = daysTillTaken(thing);
                    best = days < soonest ? person : best;
                    soonest = Math.min(soonest, days);
                }
            }
            return best;
        }

        /** SHY, by every row of shy DAYS and others. */
        int stillOwned(int thing, int days, int tenths) {
            int likely = 0;
            for (int row = 0; row < 1 << days; row++) {
                int weight = 1;
                for (int i = 0; i < days; i++) {
                    weight *= hasBit(row, i) ? tenths : 10 - tenths;
                }
                if (weight > 0) {
                    passShyDays(row, days);
                    likely += spare.ownerOf(thing) == now.ownerOf(thing) ? weight : 0;
                }
            }
            return likely;
        }

        private void passShyDays(int row, int days) {
            spare.follow(now);
            for (int i = 0; i < days; i++) {
                spare.pass(hasBit(row, i) ? ALL_SILENT : 0);
            }
        }

        /** A GAME: gains of both by their choices. */
        void play(int person, int other) {
            for (int row = 0; row < firstGains.length && row < otherGains.length; row++) {
                boolean oneHolds = row >= 2;
                boolean otherHolds = row % 2 == 1;
                spare.follow(now);
                spare.pass((oneHolds ? 1 << person : 0) | (otherHolds ? 1 << other : 0));
                passDays(GAME_DAYS - 1);
                firstGains[row] = spare.wealthOf(person) + (oneHolds ? TONGUE_HELD : 0);
                otherGains[row] = spare.wealthOf(other) + (otherHolds ? TONGUE_HELD : 0);
            }
        }

        private boolean rested(int row) {
            return row >= 0 && row < 4
                && firstGains[row] >= firstGains[row ^ 2] && otherGains[row] >= otherGains[row ^ 1];
        }

        int restingCouples() {
            int couples = 0;
            for (int row = 0; row < 4; row++) {
                couples += rested(row) ? 1 : 0;
            }
            return couples;
        }

        int firstRestingCouple() {
            for (int row = 0; row < 4; row++) {
                if (rested(row)) {
                    return 10 * (row / 2) + row % 2;
                }
            }
            return NONE;
        }

        World behindDrawnDays(int firstSeed, int days) {
            seed = firstSeed;
            spare.follow(now);
            for (int i = 0; i < days; i++) {
                int what = draw(6);
                if (now.things() > 0) {
                    doDrawn(what);
                }
                spare.pass(0);
            }
            return spare;
        }

        private void doDrawn(int what) {
            if (what > 2) {
                return;
            }
            int thing = draw(now.things());
            if (what == 0) {
                int person = draw(now.people());
                spare.setWorth(person, thing, draw(10));
            } else if (what == 1) {
                spare.setRun(thing, 0);
            } else {
                spare.setOwner(thing, draw(now.people()));
            }
        }

        private int draw(int of) {
            seed = seed * 1103515245 + 12345;
            return of > 0 ? (seed >>> 16 & 32767) % of : 0;
        }
    }

    /** TASTES by which all that is SEEN would be so, and where to LOOK NEXT. */
    private static final class Guess {
        private static final int LOOK_DAYS = 5;
        private static final int WORTHS = MOST_WORTH + 1;

        private final World now;
        private final Memory memory;
        private final World spare;
        /** By THING: whose it would be by TASTES (bits). */
        private final int[] ownersThen = new int[MOST_THINGS];

        Guess(World now, Memory memory, World spare) {
            this.now = now;
            this.memory = memory;
            this.spare = spare;
        }

        private int allTastes() {
            return now.people() * now.things() * WORTHS;
        }

        /** The spare world is as now, but for one taste: whether it is another one. TASTES are numbered in a row. */
        private boolean tries(int taste) {
            int things = now.things();
            if (things <= 0) {
                return false;
            }
            int worth = taste % WORTHS;
            int thing = taste / WORTHS % things;
            int person = taste / WORTHS / things;
            spare.follow(now);
            spare.setWorth(person, thing, worth);
            return now.worthOf(person, thing) != worth;
        }

        /** Whether all that is SEEN comes to be so in the spare world. */
        private boolean comesTrue() {
            int last = memory.lastDaySeen();
            boolean agrees = memory.agrees(spare, 0);
            for (int days = 1; days <= last && agrees; days++) {
                spare.pass(0);
                agrees = memory.agrees(spare, days);
            }
            return agrees;
        }

        int howMany() {
            int many = 0;
            for (int taste = 0; taste < allTastes(); taste++) {
                many += tries(taste) && comesTrue() ? 1 : 0;
            }
            return many;
        }

        int first() {
            for (int taste = 0; taste < allTastes(); taste++) {
                if (tries(taste) && comesTrue()) {
                    int things = Math.max(1, now.things());
                    int place = taste / WORTHS;
                    return 1000 * (place / things) + 10 * (place % things) + taste % WORTHS;
                }
            }
            return NONE;
        }

        int fitsWithout() {
            spare.follow(now);
            return comesTrue() ? 1 : 0;
        }

        /** Whose each THING would be behind some DAYS, by TASTES. */
        void gatherOwners() {
            Arrays.fill(ownersThen, 0);
            for (int taste = 0; taste < allTastes(); taste++) {
                if (tries(taste) && comesTrue()) {
                    tries(taste);
                    for (int days = 0; days < LOOK_DAYS; days++) {
                        spare.pass(0);
                    }
                    for (int thing = 0; thing < now.things() && thing < ownersThen.length; thing++) {
                        ownersThen[thing] |= 1 << spare.ownerOf(thing);
                    }
                }
            }
        }

        int mostOwners() {
            int most = 0;
            for (int thing = 0; thing < ownersThen.length; thing++) {
                most = Math.max(most, Integer.bitCount(ownersThen[thing]));
            }
            return most;
        }

        int thingToLookAt() {
            int most = mostOwners();
            for (int thing = 0; thing < ownersThen.length; thing++) {
                if (most > 0 && Integer.bitCount(ownersThen[thing]) == most) {
                    return thing;
                }
            }
            return NONE;
        }
    }
}
