import java.util.Arrays;
import java.util.NoSuchElementException;

/** A deposit of wills: what is told of two lands, their people and their papers, and what follows from it. */
public final class WillDeposit {
    public static final int NONE = -1;

    /** The document's second and third answers behind NONE; what they mean is said at each promise. */
    private static final int MINUS_TWO = -2;
    private static final int MINUS_THREE = -3;
    private static final int NO_GAIN = -1000000;

    private static final int LANDS = 2;
    private static final int MAX_PERSONS = 10;
    private static final int MAX_WEDDINGS = 6;
    private static final int MAX_THINGS = 8;
    private static final int MAX_PAPERS = 12;
    private static final int MAX_LAND_WITNESSES = 4;
    private static final int MAX_WITNESSES = 4;
    private static final int MAX_GIVES = 6;
    private static final int MAX_STRIKES = 3;
    private static final int MAX_PARENTS = 2;
    private static final int MAX_COPIES = 3;
    private static final int MAX_WORTH = 9999;
    private static final int LAST_DAY = 9999;
    private static final int TAPE_BYTES = 1200;
    private static final int FEED_BYTES = 20;
    private static final int MAX_ACTS = 16;
    private static final int HUNDREDTHS = 100;

    /** The CROWN has its place among those who have a part behind the PERSONS: its bit is 1024. */
    private static final int CROWN = MAX_PERSONS;

    /** Days to try in dayFor: the first one, and two for each paper, wedding and death. */
    private static final int MAX_TURNS = 1 + 2 * (MAX_PAPERS + MAX_WEDDINGS + MAX_PERSONS);

    private static final Token[] TOKENS = Token.values();

    private final byte[] tape = new byte[TAPE_BYTES];
    private int tapeLength = 0;
    private int latestFault = 0;
    private int latestPlace = NONE;
    private final Register told = new Register();
    /** A text is read into the draft first, so that one with a FAULT leaves all else as it is. */
    private final Register draft = new Register();
    private final Tokens tokens = new Tokens(tape);
    private final TextReader draftReader = new TextReader(tokens, draft);
    private final TextReader reader = new TextReader(tokens, told);
    private final Law law = new Law(told);
    private final Estate estate = new Estate(told, law);
    private final History history = new History(told);

    public WillDeposit() {
    }

    // ---- the tape and the text

    public int feed(int a, int b, int c, int d, int e) {
        if (tapeLength > TAPE_BYTES - FEED_BYTES) {
            return NONE;
        }
        putNumber(a);
        putNumber(b);
        putNumber(c);
        putNumber(d);
        putNumber(e);
        return tapeLength;
    }

    private void putNumber(int number) {
        for (int shift = 24; shift >= 0 && tapeLength < TAPE_BYTES; shift -= 8) {
            tape[tapeLength] = (byte) (number >>> shift);
            tapeLength++;
        }
    }

    public int text(int n) {
        if (n < 0 || n > tapeLength) {
            return MINUS_TWO;
        }
        tapeLength = 0;
        tokens.cutTape(n);
        draftReader.readAll();
        latestFault = draftReader.fault;
        latestPlace = draftReader.faultPlace;
        if (latestFault != 0) {
            return NONE;
        }
        reader.readAll();
        history.forgetAll();
        return told.lines;
    }

    public int fault(int what) {
        switch (what) {
            case 0: return latestFault;
            case 1: return latestPlace;
            default: return NONE;
        }
    }

    // ---- what is told

    public int person(int p, int what) throws IndexOutOfBoundsException, NoSuchElementException {
        if (!told.isPerson(p)) {
            throw new IndexOutOfBoundsException("no such person");
        }
        Person one = told.persons[p];
        switch (what) {
            case 0: return one.home;
            case 1: return orMinusTwo(one.deathDay);
            case 2: return told.childrenOf(p);
            case 3: return one.parents;
            case 4: return orMinusTwo(told.lastWedUpTo(p, LAST_DAY));
            default: throw new NoSuchElementException("no such what");
        }
    }

    public int paper(int p, int what) throws IndexOutOfBoundsException, NoSuchElementException {
        if (!told.isPaper(p)) {
            throw new IndexOutOfBoundsException("no such paper");
        }
        Paper one = told.papers[p];
        switch (what) {
            case 0: return one.maker;
            case 1: return one.day;
            case 2: return one.land;
            case 3: return one.kind;
            case 4: return bit(one.ownHand);
            case 5: return one.witnesses;
            case 6: return one.gives;
            case 7: return orMinusTwo(one.rest);
            case 8: return orMinusTwo(one.copies);
            case 9: return bit(one.takenBack);
            default: throw new NoSuchElementException("no such what");
        }
    }

    public int thing(int t, int what) {
        if (!told.isThing(t)) {
            return NONE;
        }
        switch (what) {
            case 0: return told.things[t].owner;
            case 1: return told.things[t].land;
            case 2: return told.things[t].worth;
            default: return NONE;
        }
    }

    public int land(int l, int what) {
        if (!isLand(l)) {
            return NONE;
        }
        switch (what) {
            case 0: return told.lands[l].witnesses;
            case 1: return bit(told.lands[l].own);
            case 2: return bit(told.lands[l].wed);
            case 3: return bit(told.lands[l].copies);
            case 4: return bit(told.lands[l].half);
            default: return NONE;
        }
    }

    public int give(int paper, int k, int what) {
        if (!told.isPaper(paper) || k < 0 || what < 0 || what > 4) {
            return NONE;
        }
        Paper one = told.papers[paper];
        if (k >= one.gives || k >= MAX_GIVES) {
            return MINUS_TWO;
        }
        switch (what) {
            case 0: return one.giveThing[k];
            case 1: return one.giveTo[k];
            case 2: return one.giveCondition[k];
            case 3: return orMinusTwo(one.givePerson[k]);
            default: return orMinusTwo(one.giveElse[k]);
        }
    }

    public int count(int what) {
        switch (what) {
            case 0: return told.lines;
            case 1: return told.personCount;
            case 2: return told.thingCount;
            case 3: return told.paperCount;
            case 4: return told.wedCount;
            case 5: return told.lostPapers();
            case 6: return told.deaths();
            case 7: return history.count;
            case 8: return tapeLength;
            default: return NONE;
        }
    }

    // ---- acts

    public boolean lose(int paper, int copies) {
        if (!told.isPaper(paper) || copies < 0 || copies > MAX_COPIES || told.papers[paper].copies == copies) {
            return false;
        }
        changeCopies(paper, copies);
        return true;
    }

    public boolean find(int paper) {
        if (!told.isPaper(paper) || !told.papers[paper].isLost()) {
            return false;
        }
        changeCopies(paper, Paper.NOT_LOST);
        return true;
    }

    public int copy(int paper) {
        if (!told.isPaper(paper)) {
            return NONE;
        }
        Paper one = told.papers[paper];
        if (!one.isLost() || one.copies >= MAX_COPIES) {
            return MINUS_TWO;
        }
        changeCopies(paper, one.copies + 1);
        return one.copies;
    }

    private void changeCopies(int paper, int copies) {
        history.keep(History.COPIES, paper, told.papers[paper].copies);
        told.papers[paper].copies = copies;
    }

    public int witness(int paper, int person) {
        if (!told.isPaper(paper) || !told.isPerson(person)) {
            return NONE;
        }
        Paper one = told.papers[paper];
        if (Integer.bitCount(one.witnesses) >= MAX_WITNESSES || one.isWitness(person) || one.maker == person) {
            return MINUS_TWO;
        }
        history.keep(History.WITNESSES, paper, one.witnesses);
        one.witnesses |= 1 << person;
        return Integer.bitCount(one.witnesses);
    }

    public int wed(int one, int other, int day) {
        if (!told.isPerson(one) || !told.isPerson(other) || one == other || !isDay(day)) {
            return NONE;
        }
        if (told.wedCount >= MAX_WEDDINGS) {
            return MINUS_TWO;
        }
        history.keep(History.WEDDINGS, 0, told.wedCount);
        told.addWedding(one, other, day);
        return told.wedCount;
    }

    public boolean dies(int person, int day) {
        if (!told.isPerson(person) || !isDayOrNever(day) || told.persons[person].deathDay == day) {
            return false;
        }
        history.keep(History.DEATH, person, told.persons[person].deathDay);
        told.persons[person].deathDay = day;
        return true;
    }

    public boolean takeBack(int paper) {
        if (!told.isPaper(paper) || told.papers[paper].takenBack) {
            return false;
        }
        history.keep(History.TAKEN_BACK, paper, 0);
        told.papers[paper].takenBack = true;
        return true;
    }

    public int undo() {
        if (history.count == 0) {
            return NONE;
        }
        history.undoLatest();
        return history.count;
    }

    // ---- which papers count, and who takes

    public int form(int paper, int land) {
        if (!told.isPaper(paper) || !isLand(land)) {
            return NONE;
        }
        Paper one = told.papers[paper];
        return bit(law.hasForm(one, land, law.witnessesWhoLived(one)));
    }

    public int why(int paper, int thing) {
        if (!told.isPaper(paper) || !told.isThing(thing)) {
            return NONE;
        }
        law.weigh(thing);
        return law.why[paper];
    }

    public int struckBy(int paper, int thing) {
        if (!told.isPaper(paper) || !told.isThing(thing)) {
            return NONE;
        }
        law.weigh(thing);
        return orMinusTwo(law.striker[paper]);
    }

    public int counting(int maker, int thing, int k) {
        if (!told.isPerson(maker) || !told.isThing(thing) || k < 0) {
            return NONE;
        }
        law.weigh(thing);
        int seen = 0;
        for (int i = 0; i < told.paperCount; i++) {
            int p = told.latestFirst[i];
            if (law.countsOf(maker, p)) {
                if (seen == k) {
                    return p;
                }
                seen++;
            }
        }
        return MINUS_TWO;
    }

    public int taker(int person, int thing) {
        if (!told.isPerson(person) || !told.isThing(thing)) {
            return NONE;
        }
        if (!told.persons[person].isMortal()) {
            return MINUS_THREE;
        }
        law.weigh(thing);
        law.chooseTaker(person, thing);
        return orMinusTwo(law.taker);
    }

    public int takerBy(int person, int thing) {
        if (!told.isPerson(person) || !told.isThing(thing)) {
            return NONE;
        }
        if (!told.persons[person].isMortal()) {
            return MINUS_THREE;
        }
        law.weigh(thing);
        law.chooseTaker(person, thing);
        return orMinusTwo(law.takersPaper);
    }

    public int heirs(int person) {
        if (!told.isPerson(person)) {
            return NONE;
        }
        if (!told.persons[person].isMortal()) {
            return MINUS_THREE;
        }
        return told.heirsOf(person);
    }

    public int margin(int paper) {
        if (!told.isPaper(paper)) {
            return NONE;
        }
        Paper one = told.papers[paper];
        int asked = Math.min(told.lands[0].witnesses, told.lands[1].witnesses);
        if (asked == 0 || law.hasFormByHand(one, 0) || law.hasFormByHand(one, 1)) {
            return MINUS_THREE;
        }
        int lived = law.witnessesWhoLived(one);
        return lived < asked ? MINUS_TWO : lived - asked + 1;
    }

    public int naming(int maker, int person) {
        if (!told.isPerson(maker) || !told.isPerson(person)) {
            return NONE;
        }
        int bits = 0;
        for (int p = 0; p < told.paperCount; p++) {
            if (told.papers[p].maker == maker && told.papers[p].givesTo(person)) {
                bits |= 1 << p;
            }
        }
        return bits;
    }

    public int sees(int person, int paper, int day) {
        if (!told.isPerson(person) || !told.isPaper(paper) || !isDay(day)) {
            return NONE;
        }
        if (!told.persons[person].livesOn(day)) {
            return 0;
        }
        Paper one = told.papers[paper];
        if (told.persons[one.maker].livesOn(day)) {
            return bit(person == one.maker);
        }
        boolean heir = (told.heirsOf(one.maker) >> person & 1) != 0;
        return bit(heir || one.isWitness(person) || one.givesTo(person));
    }

    // ---- how things go on

    public long has(int person, int thing, int day, int part) {
        if (!isPersonOrCrown(person) || !told.isThing(thing) || !isDay(day) || part < 0 || part > 1) {
            return NONE;
        }
        estate.goOn(thing, day);
        long above = estate.parts[holder(person)];
        long common = greatestDivisor(estate.whole, above);
        if (common <= 0) {
            return NONE;
        }
        return (part == 0 ? above : estate.whole) / common;
    }

    public int holders(int thing, int day) {
        if (!told.isThing(thing) || !isDay(day)) {
            return NONE;
        }
        return estate.holdersOn(thing, day);
    }

    public int wealth(int person) {
        if (!isPersonOrCrown(person)) {
            return MINUS_TWO;
        }
        return estate.wealthOf(holder(person));
    }

    public int ever(int person) {
        if (!told.isPerson(person)) {
            return NONE;
        }
        int bits = 0;
        for (int t = 0; t < told.thingCount; t++) {
            estate.goOn(t, LAST_DAY);
            bits |= (estate.everHeld >> person & 1) << t;
        }
        return bits;
    }

    public int death(int k, int what) {
        if (k < 0 || what < 0 || what > 2) {
            return NONE;
        }
        int dead = told.deathBehind(NONE);
        for (int i = 0; i < k && dead != NONE; i++) {
            dead = told.deathBehind(dead);
        }
        if (!told.isPerson(dead)) {
            return MINUS_TWO;
        }
        switch (what) {
            case 0: return dead;
            case 1: return told.persons[dead].deathDay;
            default: return estate.thingsLeftBy(dead);
        }
    }

    public int moves(int thing, int what) {
        if (!told.isThing(thing) || what < 0 || what > 1) {
            return NONE;
        }
        estate.goOn(thing, LAST_DAY);
        return what == 0 ? estate.moves : orMinusTwo(estate.lastMove);
    }

    public int kin(int one, int other) {
        if (!told.isPerson(one) || !told.isPerson(other)) {
            return NONE;
        }
        int reached = 1 << one;
        for (int steps = 0; steps < MAX_PERSONS; steps++) {
            if ((reached >> other & 1) != 0) {
                return steps;
            }
            reached |= told.nextOfKin(reached);
        }
        return MINUS_TWO;
    }

    // ---- what would be

    public int gain(int person, int paper) {
        if (!told.isPerson(person) || !told.isPaper(paper)) {
            return NO_GAIN;
        }
        return estate.wealthOf(person) - estate.wealthWithout(person, paper);
    }

    public int against(int person, int what) {
        if (!told.isPerson(person) || what < 0 || what > 1) {
            return NONE;
        }
        int with = estate.wealthOf(person);
        int worst = MINUS_TWO;
        int least = 0;
        for (int p = 0; p < told.paperCount; p++) {
            int gained = with - estate.wealthWithout(person, p);
            if (gained < least) {
                least = gained;
                worst = p;
            }
        }
        return what == 0 || worst == MINUS_TWO ? worst : least;
    }

    public int key(int what) {
        if (what < 0 || what > 1) {
            return NONE;
        }
        int best = MINUS_TWO;
        int most = MINUS_TWO;
        for (int p = 0; p < told.paperCount; p++) {
            int others = estate.thingsOtherWithout(p);
            if (others > most) {
                most = others;
                best = p;
            }
        }
        return what == 0 ? best : most;
    }

    public int wouldPaper(int paper, int what, int thing) {
        if (!told.isPaper(paper) || what < 0 || what > 2 || !told.isThing(thing)) {
            return NONE;
        }
        Paper one = told.papers[paper];
        int copies = one.copies;
        boolean takenBack = one.takenBack;
        switch (what) {
            case 0: one.copies = 0; break;
            case 1: one.copies = Paper.NOT_LOST; break;
            default: one.takenBack = true; break;
        }
        int answer = estate.holdersOn(thing, LAST_DAY);
        one.copies = copies;
        one.takenBack = takenBack;
        return answer;
    }

    public int wouldDie(int person, int day, int thing) {
        if (!told.isPerson(person) || !isDayOrNever(day) || !told.isThing(thing)) {
            return NONE;
        }
        return estate.holdersIfDying(person, day, thing);
    }

    public int dayFor(int person, int taker, int thing) {
        if (!told.isPerson(person) || !told.isPerson(taker) || person == taker || !told.isThing(thing)) {
            return NONE;
        }
        int day = 0;
        for (int turn = 0; turn < MAX_TURNS && day <= LAST_DAY; turn++) {
            int holders = estate.holdersIfDying(person, day, thing);
            if ((holders >> taker & 1) != 0) {
                return day;
            }
            day = told.turnBehind(day, person);
        }
        return MINUS_TWO;
    }

    // ---- small helps of the face

    private static int bit(boolean yes) {
        return yes ? 1 : 0;
    }

    private static int orMinusTwo(int value) {
        return value < 0 ? MINUS_TWO : value;
    }

    private static boolean isLand(int l) {
        return l >= 0 && l < LANDS;
    }

    private static boolean isDay(int day) {
        return day >= 0 && day <= LAST_DAY;
    }

    private static boolean isDayOrNever(int day) {
        return day == Person.NEVER || isDay(day);
    }

    private boolean isPersonOrCrown(int person) {
        return person == NONE || told.isPerson(person);
    }

    private static int holder(int person) {
        return person == NONE ? CROWN : person;
    }

    /** Euclid's way; the numbers here are far below a million million, so that 100 steps are plenty. */
    private static long greatestDivisor(long a, long b) {
        long larger = a;
        long smaller = b;
        for (int step = 0; step < 100 && smaller > 0; step++) {
            long left = larger % smaller;
            larger = smaller;
            smaller = left;
        }
        return larger;
    }

    /** What a LAND asks of papers, and what it has. */
    private static final class Land {
        static final int WITNESSES_IF_UNTOLD = 2;

        boolean isTold;
        int witnesses;
        boolean own;
        boolean wed;
        boolean copies;
        boolean half;

        void clear() {
            isTold = false;
            witnesses = WITNESSES_IF_UNTOLD;
            own = false;
            wed = false;
            copies = false;
            half = false;
        }
    }

    private static final class Person {
        static final int NEVER = NONE;

        int home;
        int deathDay;
        int parents;

        boolean isMortal() {
            return deathDay != NEVER;
        }

        boolean livesOn(int day) {
            return deathDay == NEVER || deathDay > day;
        }
    }

    private static final class Thing {
        int owner;
        int land;
        int worth;
    }

    /** A PAPER as told; persons and papers that it names are kept as bits, its gives in rows. */
    private static final class Paper {
        static final int NOT_LOST = NONE;
        static final int WILL = 0;
        static final int ADDS = 1;
        static final int STRIKES = 2;
        static final int ALWAYS = 0;
        static final int IF = 1;
        static final int UNLESS = 2;

        int maker;
        int day;
        int land;
        int kind;
        boolean ownHand;
        int witnesses;
        int struck;
        int rest;
        int copies;
        boolean takenBack;
        int gives;
        final int[] giveThing = new int[MAX_GIVES];
        final int[] giveTo = new int[MAX_GIVES];
        final int[] giveCondition = new int[MAX_GIVES];
        final int[] givePerson = new int[MAX_GIVES];
        final int[] giveElse = new int[MAX_GIVES];

        /** Forgets what a LINE may leave unsaid; the rest each LINE says anew. */
        void clear() {
            ownHand = false;
            witnesses = 0;
            struck = 0;
            rest = NONE;
            copies = NOT_LOST;
            takenBack = false;
            gives = 0;
        }

        boolean isLost() {
            return copies != NOT_LOST;
        }

        boolean isWitness(int person) {
            return (witnesses >> person & 1) != 0;
        }

        boolean strikes(int paper) {
            return (struck >> paper & 1) != 0;
        }

        boolean givesTo(int person) {
            for (int g = 0; g < gives && g < MAX_GIVES; g++) {
                if (giveTo[g] == person || giveElse[g] == person) {
                    return true;
                }
            }
            return rest == person;
        }
    }

    /** All that is told, with what can be read from it without any PAPER's standing. */
    private static final class Register {
        final Land[] lands = new Land[LANDS];
        final Person[] persons = new Person[MAX_PERSONS];
        final Thing[] things = new Thing[MAX_THINGS];
        final Paper[] papers = new Paper[MAX_PAPERS];
        /** The numbers of the PAPERS, the LATEST first. */
        final int[] latestFirst = new int[MAX_PAPERS];
        final int[] wedOne = new int[MAX_WEDDINGS];
        final int[] wedOther = new int[MAX_WEDDINGS];
        final int[] wedDay = new int[MAX_WEDDINGS];
        int lines;
        int personCount;
        int thingCount;
        int paperCount;
        int wedCount;

        Register() {
            for (int l = 0; l < LANDS; l++) {
                lands[l] = new Land();
            }
            for (int p = 0; p < MAX_PERSONS; p++) {
                persons[p] = new Person();
            }
            for (int t = 0; t < MAX_THINGS; t++) {
                things[t] = new Thing();
            }
            for (int p = 0; p < MAX_PAPERS; p++) {
                papers[p] = new Paper();
            }
            clear();
        }

        void clear() {
            for (int l = 0; l < LANDS; l++) {
                lands[l].clear();
            }
            lines = 0;
            personCount = 0;
            thingCount = 0;
            paperCount = 0;
            wedCount = 0;
        }

        boolean isPerson(int p) {
            return p >= 0 && p < personCount && p < MAX_PERSONS;
        }

        boolean isThing(int t) {
            return t >= 0 && t < thingCount && t < MAX_THINGS;
        }

        boolean isPaper(int p) {
            return p >= 0 && p < paperCount && p < MAX_PAPERS;
        }

        void addPerson(int home) {
            if (personCount >= MAX_PERSONS) {
                return;
            }
            Person one = persons[personCount];
            one.home = home;
            one.deathDay = Person.NEVER;
            one.parents = 0;
            personCount++;
        }

        void addThing(int owner, int land, int worth) {
            if (thingCount >= MAX_THINGS) {
                return;
            }
            Thing one = things[thingCount];
            one.owner = owner;
            one.land = land;
            one.worth = worth;
            thingCount++;
        }

        void addWedding(int one, int other, int day) {
            if (wedCount >= MAX_WEDDINGS) {
                return;
            }
            wedOne[wedCount] = one;
            wedOther[wedCount] = other;
            wedDay[wedCount] = day;
            wedCount++;
        }

        /** Takes in the PAPER that was filled behind the last one: of like DAYS it is the LATEST. */
        void addFilledPaper() {
            if (paperCount >= MAX_PAPERS) {
                return;
            }
            int place = 0;
            while (place < paperCount && papers[latestFirst[place]].day > papers[paperCount].day) {
                place++;
            }
            for (int i = paperCount; i > place; i--) {
                latestFirst[i] = latestFirst[i - 1];
            }
            latestFirst[place] = paperCount;
            paperCount++;
        }

        int lostPapers() {
            int lost = 0;
            for (int p = 0; p < paperCount; p++) {
                lost += papers[p].isLost() ? 1 : 0;
            }
            return lost;
        }

        int deaths() {
            int dead = 0;
            for (int p = 0; p < personCount; p++) {
                dead += persons[p].isMortal() ? 1 : 0;
            }
            return dead;
        }

        int livingOn(int day) {
            int bits = 0;
            for (int p = 0; p < personCount; p++) {
                if (persons[p].livesOn(day)) {
                    bits |= 1 << p;
                }
            }
            return bits;
        }

        int childrenOf(int person) {
            int bits = 0;
            for (int p = 0; p < personCount; p++) {
                bits |= (persons[p].parents >> person & 1) << p;
            }
            return bits;
        }

        /** To whom a PERSON was WED last up to a DAY, that DAY's too, of like DAYS as told last; NONE if to nobody. */
        int lastWedUpTo(int person, int day) {
            int spouse = NONE;
            int latest = NONE;
            for (int w = 0; w < wedCount; w++) {
                boolean weds = wedOne[w] == person || wedOther[w] == person;
                if (weds && wedDay[w] <= day && wedDay[w] >= latest) {
                    latest = wedDay[w];
                    spouse = wedOne[w] == person ? wedOther[w] : wedOne[w];
                }
            }
            return spouse;
        }

        /** Whether a PERSON was WED behind one DAY and ahead of another one. */
        boolean wasWedBetween(int person, int behind, int ahead) {
            for (int w = 0; w < wedCount; w++) {
                boolean weds = wedOne[w] == person || wedOther[w] == person;
                if (weds && wedDay[w] > behind && wedDay[w] < ahead) {
                    return true;
                }
            }
            return false;
        }

        /** HEIRS of a PERSON who dies, as bits; none for the CROWN. */
        int heirsOf(int person) {
            int day = persons[person].deathDay;
            int living = livingOn(day);
            int children = childrenOf(person) & living;
            if (children != 0) {
                return children;
            }
            int spouse = lastWedUpTo(person, day);
            if (spouse != NONE && (living >> spouse & 1) != 0) {
                return 1 << spouse;
            }
            return persons[person].parents & living;
        }

        /** PARENTS and CHILDREN of those in bits. */
        int nextOfKin(int bits) {
            int next = 0;
            for (int p = 0; p < personCount; p++) {
                if ((bits >> p & 1) != 0) {
                    next |= persons[p].parents;
                }
                if ((persons[p].parents & bits) != 0) {
                    next |= 1 << p;
                }
            }
            return next;
        }

        /** Who dies next behind another one (NONE: who dies first), by DAYS, numbers; NONE if nobody does. */
        int deathBehind(int last) {
            int next = NONE;
            for (int p = 0; p < personCount; p++) {
                boolean comes = persons[p].isMortal() && (last == NONE || diesAheadOf(last, p));
                if (comes && (next == NONE || diesAheadOf(p, next))) {
                    next = p;
                }
            }
            return next;
        }

        private boolean diesAheadOf(int one, int other) {
            int day = persons[one].deathDay;
            int otherDay = persons[other].deathDay;
            return day < otherDay || day == otherDay && one < other;
        }

        /** The next DAY on which the death of a PERSON could have other ends than one on this DAY: all
         *  that the law asks of it is whether it comes ahead of, on or behind a DAY that is told. */
        int turnBehind(int day, int person) {
            int next = LAST_DAY + 1;
            for (int p = 0; p < paperCount; p++) {
                next = nearer(next, day, papers[p].day);
            }
            for (int w = 0; w < wedCount; w++) {
                next = nearer(next, day, wedDay[w]);
            }
            for (int p = 0; p < personCount; p++) {
                if (p != person && persons[p].isMortal()) {
                    next = nearer(next, day, persons[p].deathDay);
                }
            }
            return next;
        }

        private static int nearer(int next, int day, int toldDay) {
            return toldDay < day ? next : Math.min(next, Math.max(toldDay, day + 1));
        }
    }

    /** The kinds of TOKENS: the words of the LINES with their letters, and the others. */
    private enum Token {
        LAND("land"), PERSON("person"), CHILD("child"), WED("wed"), THING("thing"), PAPER("paper"),
        LOST("lost"), DIES("dies"), OWN("own"), COPIES("copies"), HALF("half"), WILL("will"),
        ADDS("adds"), STRIKES("strikes"), WITNESS("witness"), GIVE("give"), IF("if"),
        UNLESS("unless"), OR("or"), REST("rest"), STRIKE("strike"),
        NAME(""), NUMBER(""), SEMICOLON(""), WRONG(""), END("");

        final String letters;

        Token(String letters) {
            this.letters = letters;
        }
    }

    /** Cuts the tape's first bytes into a row of TOKENS, of which END is the last one. */
    private static final class Tokens {
        private static final int MAX_NAME = 5;
        private static final int LETTERS = 27;
        /** Above all that a number may be, and low enough to take one more digit. */
        private static final int LARGEST = 100000;

        final Token[] kinds = new Token[TAPE_BYTES + 1];
        final int[] places = new int[TAPE_BYTES + 1];
        /** A number's value, or a name's letters as a number. */
        final int[] values = new int[TAPE_BYTES + 1];
        /** Where END stands. */
        int last;
        private final byte[] tape;
        private int length;
        private int next;

        Tokens(byte[] tape) {
            this.tape = tape;
            for (int t = 0; t <= TAPE_BYTES; t++) {
                kinds[t] = Token.END;
            }
        }

        void cutTape(int textLength) {
            length = Math.min(textLength, TAPE_BYTES);
            next = 0;
            last = 0;
            skipBlanks();
            while (next < length && last < TAPE_BYTES) {
                places[last] = next;
                values[last] = 0;
                if (isDigit(tape[next])) {
                    cutNumber();
                } else if (isLetter(tape[next])) {
                    cutWord();
                } else {
                    kinds[last] = tape[next] == ';' ? Token.SEMICOLON : Token.WRONG;
                    next++;
                }
                last++;
                skipBlanks();
            }
            kinds[last] = Token.END;
            places[last] = length;
            values[last] = 0;
        }

        private void skipBlanks() {
            while (next < length && (tape[next] == 10 || tape[next] == 32)) {
                next++;
            }
        }

        private void cutNumber() {
            int value = 0;
            while (next < length && isDigit(tape[next])) {
                value = Math.min(value * 10 + tape[next] - '0', LARGEST);
                next++;
            }
            kinds[last] = Token.NUMBER;
            values[last] = value;
        }

        private void cutWord() {
            int start = next;
            while (next < length && isLetter(tape[next])) {
                next++;
            }
            kinds[last] = wordKind(start);
            if (kinds[last] == Token.NAME) {
                for (int i = start; i < next; i++) {
                    values[last] = values[last] * LETTERS + tape[i] - 'a' + 1;
                }
            }
        }

        private Token wordKind(int start) {
            for (int t = 0; t < TOKENS.length; t++) {
                if (isWord(TOKENS[t].letters, start)) {
                    return TOKENS[t];
                }
            }
            return next - start <= MAX_NAME ? Token.NAME : Token.WRONG;
        }

        private boolean isWord(String letters, int start) {
            if (letters.length() != next - start) {
                return false;
            }
            for (int i = 0; i < letters.length(); i++) {
                if (letters.charAt(i) != tape[start + i]) {
                    return false;
                }
            }
            return true;
        }

        private static boolean isDigit(byte sign) {
            return sign >= '0' && sign <= '9';
        }

        private static boolean isLetter(byte sign) {
            return sign >= 'a' && sign <= 'z';
        }
    }

    /** Reads the TOKENS into a register up to the first FAULT. Behind that one every step does nothing
     *  and answers 0, so that the steps of a LINE can stand one below the other. */
    private static final class TextReader {
        private static final int MISPLACED = 1;
        private static final int TOO_MUCH = 2;
        private static final int IMPOSSIBLE = 3;

        private final Tokens tokens;
        private final Register told;
        private final int[] personNames = new int[MAX_PERSONS];
        private final int[] thingNames = new int[MAX_THINGS];
        private final int[] paperNames = new int[MAX_PAPERS];
        /** The TOKEN that comes next. */
        private int at;
        int fault;
        int faultPlace;

        TextReader(Tokens tokens, Register told) {
            this.tokens = tokens;
            this.told = told;
        }

        void readAll() {
            told.clear();
            at = 0;
            fault = 0;
            faultPlace = NONE;
            for (int k = 0; k <= TAPE_BYTES && fault == 0 && comes() != Token.END; k++) {
                switch (comes()) {
                    case LAND: readLand(); break;
                    case PERSON: readPerson(); break;
                    case CHILD: readChild(); break;
                    case WED: readWedding(); break;
                    case THING: readThing(); break;
                    case PAPER: readPaper(); break;
                    case LOST: readLost(); break;
                    case DIES: readDeath(); break;
                    default: fail(MISPLACED); break;
                }
                takeSemicolon();
            }
        }

        private void readLand() {
            takeToken();
            Land land = told.lands[takeNumber(0, LANDS - 1)];
            if (land.isTold) {
                failAtTaken();
            }
            land.isTold = true;
            land.witnesses = takeNumber(0, MAX_LAND_WITNESSES);
            for (int k = 0; k <= TAPE_BYTES && fault == 0 && comes() != Token.SEMICOLON; k++) {
                readRight(land);
            }
        }

        private void readRight(Land land) {
            switch (comes()) {
                case OWN:
                    takeOnce(land.own);
                    land.own = true;
                    break;
                case WED:
                    takeOnce(land.wed);
                    land.wed = true;
                    break;
                case COPIES:
                    takeOnce(land.copies);
                    land.copies = true;
                    break;
                case HALF:
                    takeOnce(land.half);
                    land.half = true;
                    break;
                default:
                    fail(MISPLACED);
                    break;
            }
        }

        private void readPerson() {
            takeOneMore(told.personCount, MAX_PERSONS);
            takeNewName(personNames, told.personCount);
            int home = takeNumber(0, LANDS - 1);
            if (fault == 0) {
                told.addPerson(home);
            }
        }

        private void readChild() {
            takeToken();
            int child = takePerson();
            int parent = takePerson();
            Person one = told.persons[child];
            boolean known = (one.parents >> parent & 1) != 0;
            if (child <= parent || known || Integer.bitCount(one.parents) >= MAX_PARENTS) {
                failAtTaken();
            }
            if (fault == 0) {
                one.parents |= 1 << parent;
            }
        }

        private void readWedding() {
            takeOneMore(told.wedCount, MAX_WEDDINGS);
            int one = takePerson();
            int other = takePerson();
            if (one == other) {
                failAtTaken();
            }
            int day = takeNumber(0, LAST_DAY);
            if (fault == 0) {
                told.addWedding(one, other, day);
            }
        }

        private void readThing() {
            takeOneMore(told.thingCount, MAX_THINGS);
            takeNewName(thingNames, told.thingCount);
            int owner = takePerson();
            int land = takeNumber(0, LANDS - 1);
            int worth = takeNumber(1, MAX_WORTH);
            if (fault == 0) {
                told.addThing(owner, land, worth);
            }
        }

        private void readPaper() {
            takeOneMore(told.paperCount, MAX_PAPERS);
            if (fault != 0 || told.paperCount >= MAX_PAPERS) {
                return;
            }
            Paper paper = told.papers[told.paperCount];
            paper.clear();
            takeNewName(paperNames, told.paperCount);
            paper.maker = takePerson();
            paper.day = takeNumber(0, LAST_DAY);
            paper.land = takeNumber(0, LANDS - 1);
            paper.kind = takePaperKind();
            for (int k = 0; k <= TAPE_BYTES && fault == 0 && comes() != Token.SEMICOLON; k++) {
                readPart(paper);
            }
            if (fault == 0) {
                told.addFilledPaper();
            }
        }

        private int takePaperKind() {
            int kind = Paper.WILL;
            switch (comes()) {
                case WILL: break;
                case ADDS: kind = Paper.ADDS; break;
                case STRIKES: kind = Paper.STRIKES; break;
                default: fail(MISPLACED); break;
            }
            takeToken();
            return kind;
        }

        private void readPart(Paper paper) {
            switch (comes()) {
                case OWN:
                    takeOnce(paper.ownHand);
                    paper.ownHand = true;
                    break;
                case WITNESS:
                    readWitness(paper);
                    break;
                case GIVE:
                    readGive(paper);
                    break;
                case REST:
                    takeOnce(paper.rest != NONE);
                    paper.rest = takePerson();
                    break;
                case STRIKE:
                    readStrike(paper);
                    break;
                default:
                    fail(MISPLACED);
                    break;
            }
        }

        private void readWitness(Paper paper) {
            takeOneMore(Integer.bitCount(paper.witnesses), MAX_WITNESSES);
            int person = takePerson();
            if (paper.isWitness(person) || paper.maker == person) {
                failAtTaken();
            }
            paper.witnesses |= 1 << person;
        }

        private void readGive(Paper paper) {
            int g = paper.gives;
            takeOneMore(g, MAX_GIVES);
            if (fault != 0 || g >= MAX_GIVES) {
                return;
            }
            paper.giveThing[g] = takeThing();
            paper.giveTo[g] = takePerson();
            paper.giveCondition[g] = Paper.ALWAYS;
            paper.givePerson[g] = NONE;
            paper.giveElse[g] = NONE;
            if (comes() == Token.IF || comes() == Token.UNLESS) {
                paper.giveCondition[g] = comes() == Token.IF ? Paper.IF : Paper.UNLESS;
                takeToken();
                paper.givePerson[g] = takePerson();
            }
            if (comes() == Token.OR) {
                takeToken();
                paper.giveElse[g] = takePerson();
                if (paper.giveElse[g] == paper.giveTo[g]) {
                    failAtTaken();
                }
            }
            paper.gives++;
        }

        private void readStrike(Paper paper) {
            takeOneMore(Integer.bitCount(paper.struck), MAX_STRIKES);
            int other = takePaper();
            if (paper.strikes(other) || told.papers[other].maker != paper.maker) {
                failAtTaken();
            }
            paper.struck |= 1 << other;
        }

        private void readLost() {
            takeToken();
            Paper paper = told.papers[takePaper()];
            if (paper.isLost()) {
                failAtTaken();
            }
            int copies = takeNumber(0, MAX_COPIES);
            if (fault == 0) {
                paper.copies = copies;
            }
        }

        private void readDeath() {
            takeToken();
            Person person = told.persons[takePerson()];
            if (person.isMortal()) {
                failAtTaken();
            }
            int day = takeNumber(0, LAST_DAY);
            if (fault == 0) {
                person.deathDay = day;
            }
        }

        private int takePerson() {
            return takeKnownName(personNames, told.personCount);
        }

        private int takeThing() {
            return takeKnownName(thingNames, told.thingCount);
        }

        private int takePaper() {
            return takeKnownName(paperNames, told.paperCount);
        }

        private int takeKnownName(int[] names, int count) {
            int number = indexOfName(names, count);
            if (number == NONE) {
                fail(MISPLACED);
            }
            takeToken();
            return fault == 0 ? number : 0;
        }

        private void takeNewName(int[] names, int count) {
            if (comes() != Token.NAME) {
                fail(MISPLACED);
            } else if (indexOfName(names, count) != NONE) {
                fail(IMPOSSIBLE);
            }
            if (fault == 0 && count < names.length) {
                names[count] = tokens.values[at];
            }
            takeToken();
        }

        /** Whose name comes next; NONE if it is no name, or not told. */
        private int indexOfName(int[] names, int count) {
            for (int i = 0; i < count && i < names.length; i++) {
                if (tokens.kinds[at] == Token.NAME && names[i] == tokens.values[at]) {
                    return i;
                }
            }
            return NONE;
        }

        private int takeNumber(int least, int most) {
            int number = tokens.values[at];
            if (comes() != Token.NUMBER) {
                fail(MISPLACED);
            } else if (number < least || number > most) {
                fail(TOO_MUCH);
            }
            takeToken();
            return fault == 0 ? number : 0;
        }

        /** The word of a LINE or a PART of which there may be so many. */
        private void takeOneMore(int count, int most) {
            if (count >= most) {
                fail(TOO_MUCH);
            }
            takeToken();
        }

        /** A word that may stand once. */
        private void takeOnce(boolean stoodAlready) {
            if (stoodAlready) {
                fail(IMPOSSIBLE);
            }
            takeToken();
        }

        private void takeSemicolon() {
            if (comes() != Token.SEMICOLON) {
                fail(MISPLACED);
            }
            takeToken();
            if (fault == 0) {
                told.lines++;
            }
        }

        private Token comes() {
            return tokens.kinds[at];
        }

        private void takeToken() {
            if (fault == 0 && at < tokens.last) {
                at++;
            }
        }

        /** A FAULT of the TOKEN that comes next. */
        private void fail(int number) {
            if (fault == 0) {
                fault = number;
                faultPlace = tokens.places[at];
            }
        }

        /** What the TOKEN taken last says can't be. */
        private void failAtTaken() {
            if (fault == 0 && at > 0) {
                fault = IMPOSSIBLE;
                faultPlace = tokens.places[at - 1];
            }
        }
    }

    /** Which PAPERS COUNT for a THING, and who takes it. */
    private static final class Law {
        private static final int MAKER_LIVES = 1;
        private static final int TOO_LATE = 2;
        private static final int NOT_PROVED = 3;
        private static final int NO_FORM = 4;
        private static final int STRUCK = 5;
        private static final int BROKEN = 6;
        private static final int TAKEN_BACK = 7;

        private final Register told;
        private final boolean[] good = new boolean[MAX_PAPERS];
        /** For the THING weighed last: WHY each PAPER doesn't COUNT (0: it does), and its LATEST striker. */
        final int[] why = new int[MAX_PAPERS];
        final int[] striker = new int[MAX_PAPERS];
        /** Who was chosen last, and by which PAPER; NONE: nobody. */
        int taker;
        int takersPaper;

        Law(Register told) {
            this.told = told;
        }

        void weigh(int thing) {
            int land = told.things[thing].land;
            for (int p = 0; p < told.paperCount; p++) {
                Paper paper = told.papers[p];
                why[p] = whyNotGood(paper, land, witnessesWhoLived(paper));
                good[p] = why[p] == 0;
            }
            for (int p = 0; p < told.paperCount; p++) {
                striker[p] = latestStriker(p);
                if (good[p] && striker[p] != NONE) {
                    why[p] = STRUCK;
                } else if (good[p] && isBroken(told.papers[p])) {
                    why[p] = BROKEN;
                }
            }
        }

        boolean countsOf(int maker, int paper) {
            return told.papers[paper].maker == maker && why[paper] == 0;
        }

        private int whyNotGood(Paper paper, int landOfThing, int lived) {
            int death = told.persons[paper.maker].deathDay;
            if (paper.takenBack) {
                return TAKEN_BACK;
            }
            if (death == Person.NEVER) {
                return MAKER_LIVES;
            }
            if (paper.day >= death) {
                return TOO_LATE;
            }
            if (paper.isLost() && (paper.copies == 0 || !told.lands[paper.land].copies)) {
                return NOT_PROVED;
            }
            return hasForm(paper, paper.land, lived) || hasForm(paper, landOfThing, lived) ? 0 : NO_FORM;
        }

        boolean hasForm(Paper paper, int land, int lived) {
            return lived >= told.lands[land].witnesses || hasFormByHand(paper, land);
        }

        boolean hasFormByHand(Paper paper, int land) {
            return paper.ownHand && told.lands[land].own;
        }

        int witnessesWhoLived(Paper paper) {
            return Integer.bitCount(paper.witnesses & told.livingOn(paper.day));
        }

        /** A PAPER taken back is good for nothing, but may itself still be STRUCK: it is asked as told. */
        private int latestStriker(int paper) {
            for (int i = 0; i < told.paperCount && told.latestFirst[i] != paper; i++) {
                int later = told.latestFirst[i];
                Paper by = told.papers[later];
                boolean strikes = by.kind == Paper.WILL || by.strikes(paper);
                if (good[later] && strikes && by.maker == told.papers[paper].maker) {
                    return later;
                }
            }
            return NONE;
        }

        private boolean isBroken(Paper paper) {
            int death = told.persons[paper.maker].deathDay;
            return told.lands[paper.land].wed && told.wasWedBetween(paper.maker, paper.day, death);
        }

        /** Looks for the TAKER of the THING weighed last when a PERSON dies. */
        void chooseTaker(int person, int thing) {
            taker = NONE;
            for (int i = 0; i < told.paperCount && taker == NONE; i++) {
                takersPaper = told.latestFirst[i];
                if (countsOf(person, takersPaper)) {
                    taker = takerByGives(told.papers[takersPaper], thing);
                }
            }
            for (int i = 0; i < told.paperCount && taker == NONE; i++) {
                takersPaper = told.latestFirst[i];
                Paper paper = told.papers[takersPaper];
                if (countsOf(person, takersPaper) && mayTake(paper.rest, paper, thing)) {
                    taker = paper.rest;
                }
            }
            if (taker == NONE) {
                takersPaper = NONE;
            }
        }

        private int takerByGives(Paper paper, int thing) {
            for (int g = 0; g < paper.gives && g < MAX_GIVES; g++) {
                if (paper.giveThing[g] == thing && isSo(paper, g)) {
                    if (mayTake(paper.giveTo[g], paper, thing)) {
                        return paper.giveTo[g];
                    }
                    if (mayTake(paper.giveElse[g], paper, thing)) {
                        return paper.giveElse[g];
                    }
                }
            }
            return NONE;
        }

        private boolean isSo(Paper paper, int give) {
            int person = paper.givePerson[give];
            if (paper.giveCondition[give] == Paper.ALWAYS || !told.isPerson(person)) {
                return true;
            }
            boolean lives = told.persons[person].livesOn(told.persons[paper.maker].deathDay);
            return lives == (paper.giveCondition[give] == Paper.IF);
        }

        private boolean mayTake(int person, Paper paper, int thing) {
            if (!told.isPerson(person) || !told.persons[person].livesOn(told.persons[paper.maker].deathDay)) {
                return false;
            }
            return !paper.isWitness(person) || hasFormByHand(paper, paper.land)
                    || hasFormByHand(paper, told.things[thing].land);
        }
    }

    /** How a THING goes on from death to death. The parts are numbers over one whole that grows by what
     *  each death divides by: with ten persons and two parents each it stays below a million. */
    private static final class Estate {
        private final Register told;
        private final Law law;
        final long[] parts = new long[MAX_PERSONS + 1];
        long whole = 1;
        int everHeld;
        int leftByDeath;
        int moves;
        int lastMove;

        Estate(Register told, Law law) {
            this.told = told;
            this.law = law;
        }

        /** Lets a THING go on by all deaths up to a DAY, that DAY's too. */
        void goOn(int thing, int lastDay) {
            law.weigh(thing);
            Arrays.fill(parts, 0L);
            whole = 1;
            parts[told.things[thing].owner] = 1;
            everHeld = holdersNow();
            leftByDeath = 0;
            moves = 0;
            lastMove = NONE;
            int dead = told.deathBehind(NONE);
            for (int k = 0; k < MAX_PERSONS && dead != NONE; k++) {
                int day = told.persons[dead].deathDay;
                if (day <= lastDay && parts[dead] != 0) {
                    law.chooseTaker(dead, thing);
                    passOn(dead, told.lands[told.things[thing].land].half);
                    leftByDeath |= 1 << dead;
                    everHeld |= holdersNow();
                    moves++;
                    lastMove = day;
                }
                dead = told.deathBehind(dead);
            }
        }

        /** What the dead one has goes to the TAKER whom the law chose, and to CHILDREN and HEIRS. */
        private void passOn(int dead, boolean landHasHalf) {
            int children = told.childrenOf(dead) & told.livingOn(told.persons[dead].deathDay);
            int heirs = told.heirsOf(dead);
            if (law.taker != NONE && landHasHalf && children != 0) {
                shareOut(dead, children, law.taker, Integer.bitCount(children));
            } else if (law.taker != NONE) {
                shareOut(dead, 0, law.taker, 1);
            } else if (heirs != 0) {
                shareOut(dead, heirs, CROWN, 0);
            } else {
                shareOut(dead, 0, CROWN, 1);
            }
        }

        /** Divides what the dead one has: a unit to each one of those in bits, some to another one. */
        private void shareOut(int dead, int bits, int other, int unitsOfOther) {
            int units = Integer.bitCount(bits) + unitsOfOther;
            long unit = parts[dead];
            parts[dead] = 0;
            for (int h = 0; h <= CROWN; h++) {
                parts[h] = parts[h] * units + (bits >> h & 1) * unit;
            }
            parts[other] += unit * unitsOfOther;
            whole *= units;
        }

        private int holdersNow() {
            int bits = 0;
            for (int h = 0; h <= CROWN; h++) {
                bits |= (parts[h] != 0 ? 1 : 0) << h;
            }
            return bits;
        }

        int holdersOn(int thing, int day) {
            goOn(thing, day);
            return holdersNow();
        }

        int wealthOf(int holder) {
            long sum = 0;
            for (int t = 0; t < told.thingCount; t++) {
                goOn(t, LAST_DAY);
                if (whole > 0) {
                    sum += parts[holder] * HUNDREDTHS * told.things[t].worth / whole;
                }
            }
            return (int) sum;
        }

        int wealthWithout(int holder, int paper) {
            Paper one = told.papers[paper];
            boolean takenBack = one.takenBack;
            one.takenBack = true;
            int wealth = wealthOf(holder);
            one.takenBack = takenBack;
            return wealth;
        }

        /** How many THINGS would have other HOLDERS in the end without a PAPER. */
        int thingsOtherWithout(int paper) {
            Paper one = told.papers[paper];
            boolean takenBack = one.takenBack;
            int others = 0;
            for (int t = 0; t < told.thingCount; t++) {
                int with = holdersOn(t, LAST_DAY);
                one.takenBack = true;
                others += holdersOn(t, LAST_DAY) != with ? 1 : 0;
                one.takenBack = takenBack;
            }
            return others;
        }

        int holdersIfDying(int person, int day, int thing) {
            Person one = told.persons[person];
            int deathDay = one.deathDay;
            one.deathDay = day;
            int holders = holdersOn(thing, LAST_DAY);
            one.deathDay = deathDay;
            return holders;
        }

        /** THINGS of which a PERSON had a part when he died, as bits. */
        int thingsLeftBy(int dead) {
            int bits = 0;
            for (int t = 0; t < told.thingCount; t++) {
                goOn(t, LAST_DAY);
                bits |= (leftByDeath >> dead & 1) << t;
            }
            return bits;
        }
    }

    /** The ACTS that can be undone: what each one changed, and what stood there ahead of it. */
    private static final class History {
        static final int COPIES = 0;
        static final int WITNESSES = 1;
        static final int WEDDINGS = 2;
        static final int DEATH = 3;
        static final int TAKEN_BACK = 4;

        private final Register told;
        private final int[] kinds = new int[MAX_ACTS];
        private final int[] numbers = new int[MAX_ACTS];
        private final int[] befores = new int[MAX_ACTS];
        private int next = 0;
        int count = 0;

        History(Register told) {
            this.told = told;
        }

        void forgetAll() {
            count = 0;
        }

        /** The rows go round: behind sixteen the eldest one is written over. */
        void keep(int kind, int number, int before) {
            kinds[next] = kind;
            numbers[next] = number;
            befores[next] = before;
            next = (next + 1) % MAX_ACTS;
            count = Math.min(count + 1, MAX_ACTS);
        }

        void undoLatest() {
            next = (next + MAX_ACTS - 1) % MAX_ACTS;
            count--;
            int number = numbers[next];
            int before = befores[next];
            switch (kinds[next]) {
                case COPIES: told.papers[number].copies = before; break;
                case WITNESSES: told.papers[number].witnesses = before; break;
                case WEDDINGS: told.wedCount = before; break;
                case DEATH: told.persons[number].deathDay = before; break;
                default: told.papers[number].takenBack = false; break;
            }
        }
    }
}
