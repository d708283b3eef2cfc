import java.util.Arrays;

/** People of ages and heights in rooms in which, by the room's kind, only some may speak. */
public final class MiddleSpeaks {
    public static final int NONE = -1, BAD = -2, STATE = -3, FULL = -4;
    public static final long NO = Long.MIN_VALUE;

    private static final int NOT_SO = -5;
    private static final int NOTHING = -11, CAST = -12, PLACE = -13, SIZE = -14;
    private static final int SAY_NONE = -10001, SAY_STATE = -10003;

    private static final int MOST_PEOPLE = 5, ROOMS = 3, PLACES = 4, OUT = 3, THINGS = 8;
    private static final int MOST_ROWS = 12, MOST_TOLD = 9999;
    private static final int MOST_TEXT = 100, MOST_HOUSES = 6, MOST_CLAUSES = 10;
    private static final int TAPES = 6, MOST_ITEMS = 60;

    private static final int ROOM = 0, LOWER = 1, ELDER = 2, TALL = 3, BOTH = 4, TURNING = 5, SMALL = 6;
    private static final int KINDS = 7;
    /** The kind that a kind stands under; none above ROOM. */
    private static final int[] ABOVE = {-1, 0, 0, 0, 1, 2, 3};

    private static final int PRICE = 0, BAR = 1, WORTH = 2, SAME = 3;
    private static final int NO_THING = 99, OUT_KIND = 9;

    private static final int BYTES = 0, SHORTS = 1, INTS = 2, LONGS = 3, BOOLEANS = 4;

    private final Scene now = new Scene();
    private final Scene kept = new Scene();
    private boolean isKept;
    private final int[] text = new int[MOST_TEXT];
    private int textLength;
    private final House[] houses = new House[MOST_HOUSES];
    private int houseCount;
    private final House bare = new House();
    private final HouseReader reader = new HouseReader();
    private final Standing standing = new Standing(now, bare);
    private final Walk walk = new Walk(standing);
    private final Hearing hearing = new Hearing(standing);
    private final Turns turns = new Turns(standing);
    private final Orders orders = new Orders(now);
    private final Acts acts = new Acts();
    private final Tape[] tapes = new Tape[TAPES];

    public MiddleSpeaks() {
        for (int i = 0; i < TAPES; i++) {
            tapes[i] = new Tape();
        }
        for (int i = 0; i < MOST_HOUSES; i++) {
            houses[i] = new House();
        }
    }

    // ---- people, rooms, houses

    public int person(int age, int height, int place) {
        if (!isFromTo(age, 0, 99) || !isFromTo(height, 0, 99)) {
            return BAD;
        }
        if (!isPlace(place)) {
            return NONE;
        }
        if (now.people >= MOST_PEOPLE) {
            return FULL;
        }
        return now.addPerson(age, height, place);
    }

    public int of(int person, int what) {
        if (!isPerson(person)) {
            return NONE;
        }
        switch (what) {
            case 0: return now.ages[person];
            case 1: return now.heights[person];
            case 2: return now.places[person];
            case 3: return now.known[person];
            case 4: return maySpeakNow(person) ? 1 : 0;
            default: return NONE;
        }
    }

    public int learn(int person, int things) {
        if (!isPerson(person)) {
            return NONE;
        }
        if (!isFromTo(things, 0, 255)) {
            return BAD;
        }
        int before = now.known[person];
        now.known[person] = things;
        return before;
    }

    public int room(int room, int kind, int v) {
        if (!isRoom(room) || !isFromTo(kind, 0, KINDS - 1)) {
            return NONE;
        }
        if (!isFromTo(v, 0, 9)) {
            return BAD;
        }
        int before = now.kinds[room];
        now.kinds[room] = kind;
        now.vs[room] = v;
        return before;
    }

    public int inside(int room, int what) {
        if (!isRoom(room)) {
            return NONE;
        }
        switch (what) {
            case 0: return now.kinds[room];
            case 1: return now.vs[room];
            case 2: return now.whoIsAt(room);
            case 3: return speakersNow(room);
            default: return NONE;
        }
    }

    public int feed(int sign) {
        if (!isFromTo(sign, 0, 127)) {
            return BAD;
        }
        if (textLength >= MOST_TEXT) {
            return FULL;
        }
        text[textLength] = sign;
        textLength++;
        return textLength;
    }

    public int house() {
        if (houseCount >= MOST_HOUSES) {
            return FULL;
        }
        int fault = reader.readInto(houses[houseCount], text, textLength);
        textLength = 0;
        if (fault >= 0) {
            return -10 - fault;
        }
        now.holds = houseCount;
        houseCount++;
        return now.holds;
    }

    public int told(int what) {
        switch (what) {
            case 0: return holding().same;
            case 1: return now.comings;
            case 2: return now.cost;
            default: return NONE;
        }
    }

    // ---- comings, sayings

    public int coming(int person, int place, int what) {
        if (!isPerson(person) || !isPlace(place) || !isFromTo(what, 0, 1)) {
            return NONE;
        }
        if (now.places[person] == place) {
            return BAD;
        }
        if (what == 0) {
            return priceNow(person, place);
        }
        return isBarredNow(person, place) ? 1 : 0;
    }

    public int come(int person, int place) {
        if (!isPerson(person) || !isPlace(place)) {
            return NONE;
        }
        if (now.places[person] == place) {
            return BAD;
        }
        if (isBarredNow(person, place) || now.comings >= MOST_TOLD) {
            return STATE;
        }
        int price = priceNow(person, place);
        now.places[person] = place;
        now.cost = Math.min(MOST_TOLD, now.cost + price);
        now.comings++;
        return price;
    }

    public int say(int person, int thing) {
        if (!isPerson(person) || !isThing(thing)) {
            return SAY_NONE;
        }
        if (!maySpeakNow(person) || !now.isKnown(person, thing)) {
            return SAY_STATE;
        }
        int room = now.places[person];
        int worth = 0;
        for (int who = 0; who < now.people; who++) {
            if (now.places[who] == room && !now.isKnown(who, thing)) {
                worth += standing.worthTo(who, room, thing);
                now.known[who] |= 1 << thing;
            }
        }
        return worth;
    }

    // ---- what can be

    public int soonest(int person, int room, int what) {
        if (!isPerson(person) || !isRoom(room) || !isFromTo(what, 0, 1)) {
            return NONE;
        }
        lookAhead();
        return walk.fewestComings(person, room, what == 1);
    }

    public int cheapest(int person, int room, int n) {
        if (!isPerson(person) || !isRoom(room)) {
            return NONE;
        }
        if (!isFromTo(n, 0, 4)) {
            return BAD;
        }
        lookAhead();
        return walk.leastCost(person, room, n);
    }

    public int never(int room) {
        if (!isRoom(room)) {
            return NONE;
        }
        lookAhead();
        return walk.whoNeverCan(room);
    }

    public int heard(int thing) {
        if (!isThing(thing)) {
            return NONE;
        }
        lookAhead();
        return hearing.fewestTill(now.whoKnows(thing), 1 << now.everybody());
    }

    public int secret(int one, int other, int thing) {
        if (!isPerson(one) || !isPerson(other) || !isThing(thing)) {
            return NONE;
        }
        if (one == other) {
            return BAD;
        }
        lookAhead();
        return hearing.fewestTill(now.whoKnows(thing), Hearing.setsOfOneWithout(one, other));
    }

    public int game(int room, int party, int n) {
        if (!isRoom(room)) {
            return NONE;
        }
        if (!isFromTo(party, 0, now.everybody()) || !isFromTo(n, 1, 3)) {
            return BAD;
        }
        lookAhead();
        return turns.canWin(room, party, n) ? 1 : 0;
    }

    // ---- votes, ages, lots, books

    public int votes(int room, int thing) {
        if (!isRoom(room) || !isThing(thing)) {
            return NONE;
        }
        int there = now.whoIsAt(room);
        int knowing = Integer.bitCount(there & now.whoKnows(thing));
        return knowing * 2 > Integer.bitCount(there) ? 1 : 0;
    }

    public int spoken(int set, int who) {
        if (set == -1) {
            now.rows = 0;
            return 0;
        }
        if (!isFromTo(set, 1, now.everybody()) || Integer.bitCount(set) % 2 == 0) {
            return BAD;
        }
        if (!isPerson(who) || (set >> who & 1) == 0) {
            return NONE;
        }
        if (now.rows >= MOST_ROWS) {
            return FULL;
        }
        now.rowSets[now.rows] = set;
        now.rowMiddles[now.rows] = who;
        now.rows++;
        return now.rows;
    }

    public int fits() {
        return now.people == 0 ? NOT_SO : orders.fitting();
    }

    public long lot(int person, int n, int part) {
        if (!isPerson(person) || !isFromTo(n, 0, 2) || !isFromTo(part, 0, 1)) {
            return NO;
        }
        lookAhead();
        return turns.oddsOfSpeaking(person, n, part == 0);
    }

    public int book(int said) {
        if (said == -1) {
            now.sayings = 0;
            return 0;
        }
        if (said < 0 || said / 10 >= MOST_PEOPLE || !isThing(said % 10)) {
            return NONE;
        }
        if (now.sayings >= MOST_ROWS) {
            return FULL;
        }
        now.saidRows[now.sayings] = said;
        now.sayings++;
        return now.sayings;
    }

    public int readBook() {
        standing.look(holding());
        return standing.sayable();
    }

    // ---- judging, the image, acts, tapes

    public int judge(int tape, int i) {
        if (!isTape(tape)) {
            return NONE;
        }
        Tape row = tapes[tape];
        if (row.holdsRow() && row.sort != INTS) {
            return CAST;
        }
        return firstOtherwise(row, i);
    }

    public int image() {
        kept.copyFrom(now);
        isKept = true;
        return now.people;
    }

    public int undo() {
        if (!isKept) {
            return STATE;
        }
        now.copyFrom(kept);
        return now.people;
    }

    public int act(int room, int act, int x) {
        acts.forget();
        if (!isRoom(room) || !isFromTo(act, 0, 2)) {
            return 0;
        }
        return acts.start(room, now.kinds[room], now.vs[room], act, x);
    }

    public int trace(int i) {
        return acts.bodyAt(i);
    }

    public int taken(int room, int k) {
        if (!isFromTo(k, 0, KINDS - 1)) {
            return BAD;
        }
        if (!isRoom(room)) {
            return NOTHING;
        }
        int kind = now.kinds[room];
        return isKindOrUnder(kind, k) ? kind : CAST;
    }

    public int count(int what) {
        switch (what) {
            case 0: return now.people;
            case 1: return houseCount;
            case 2: return now.rows;
            case 3: return now.sayings;
            case 4: return textLength;
            case 5: return acts.ran;
            default: return BAD;
        }
    }

    public int tape(int tape, int sort, int n) {
        if (!isTape(tape)) {
            return NONE;
        }
        if (sort == -1) {
            tapes[tape].holdNothing();
            return 1;
        }
        if (!isFromTo(sort, BYTES, BOOLEANS) || n > MOST_ITEMS) {
            return BAD;
        }
        if (n < 0) {
            return SIZE;
        }
        tapes[tape].holdZeros(sort, n);
        return 1;
    }

    public int item(int tape, int i, long v) {
        if (!isTape(tape)) {
            return NONE;
        }
        Tape row = tapes[tape];
        if (!row.holdsRow()) {
            return NOTHING;
        }
        if (!row.hasPlace(i)) {
            return PLACE;
        }
        row.put(i, v);
        return 1;
    }

    public long read(int tape, int i) {
        if (!isTape(tape) || !tapes[tape].hasPlace(i)) {
            return NO;
        }
        return tapes[tape].items[i];
    }

    public int shift(int tape, int i, int other, int j, int n) {
        if (!isTape(tape) || !isTape(other)) {
            return NONE;
        }
        Tape from = tapes[tape];
        Tape to = tapes[other];
        if (!from.holdsRow() || !to.holdsRow()) {
            return NOTHING;
        }
        if (from.sort != to.sort) {
            return CAST;
        }
        if (!from.hasPart(i, n) || !to.hasPart(j, n)) {
            return PLACE;
        }
        System.arraycopy(from.items, i, to.items, j, n);
        return n;
    }

    private static boolean isFromTo(int number, int least, int most) {
        return number >= least && number <= most;
    }

    private static boolean isRoom(int room) {
        return isFromTo(room, 0, ROOMS - 1);
    }

    private static boolean isPlace(int place) {
        return isFromTo(place, 0, PLACES - 1);
    }

    private static boolean isThing(int thing) {
        return isFromTo(thing, 0, THINGS - 1);
    }

    private static boolean isTape(int tape) {
        return isFromTo(tape, 0, TAPES - 1);
    }

    private boolean isPerson(int person) {
        return isFromTo(person, 0, now.people - 1);
    }

    private static boolean isKindOrUnder(int kind, int k) {
        int at = kind;
        for (int step = 0; step < KINDS && at >= 0; step++) {
            if (at == k) {
                return true;
            }
            at = ABOVE[at];
        }
        return false;
    }

    private House holding() {
        return isFromTo(now.holds, 0, houseCount - 1) ? houses[now.holds] : bare;
    }

    private void lookAhead() {
        standing.look(holding());
        standing.tellComings();
    }

    private int speakersNow(int room) {
        standing.look(holding());
        return standing.speakers(room, now.whoIsAt(room), now.comings);
    }

    private boolean maySpeakNow(int person) {
        return (speakersNow(now.places[person]) >> person & 1) == 1;
    }

    private int priceNow(int person, int place) {
        standing.look(holding());
        return standing.priceOf(person, place, numberWith(place));
    }

    private boolean isBarredNow(int person, int place) {
        standing.look(holding());
        return standing.isBarred(person, place, numberWith(place));
    }

    /** How many are at a place when one more has come. */
    private int numberWith(int place) {
        return Integer.bitCount(now.whoIsAt(place)) + 1;
    }

    private int firstOtherwise(Tape row, int i) {
        for (int who = 0; who < now.people; who++) {
            // i is in the row from the first look on, so that i + who does not wrap
            if (!row.hasPlace(i) || !row.hasPlace(i + who)) {
                return 100 + who;
            }
            if (row.items[i + who] != now.known[who]) {
                return who;
            }
        }
        return NOT_SO;
    }

    /** All that an image keeps. */
    private static final class Scene {
        int people;
        final int[] ages = new int[MOST_PEOPLE];
        final int[] heights = new int[MOST_PEOPLE];
        final int[] places = new int[MOST_PEOPLE];
        final int[] known = new int[MOST_PEOPLE];
        final int[] kinds = new int[ROOMS];
        final int[] vs = new int[ROOMS];
        int comings;
        int cost;
        final int[] rowSets = new int[MOST_ROWS];
        final int[] rowMiddles = new int[MOST_ROWS];
        int rows;
        final int[] saidRows = new int[MOST_ROWS];
        int sayings;
        int holds = -1;

        int addPerson(int age, int height, int place) {
            int who = people;
            ages[who] = age;
            heights[who] = height;
            places[who] = place;
            known[who] = 0;
            people++;
            return who;
        }

        int everybody() {
            return (1 << people) - 1;
        }

        int whoIsAt(int place) {
            int bits = 0;
            for (int who = 0; who < people; who++) {
                if (places[who] == place) {
                    bits |= 1 << who;
                }
            }
            return bits;
        }

        boolean isKnown(int who, int thing) {
            return (known[who] >> thing & 1) == 1;
        }

        int whoKnows(int thing) {
            int bits = 0;
            for (int who = 0; who < people; who++) {
                if (isKnown(who, thing)) {
                    bits |= 1 << who;
                }
            }
            return bits;
        }

        void copyFrom(Scene other) {
            people = other.people;
            System.arraycopy(other.ages, 0, ages, 0, MOST_PEOPLE);
            System.arraycopy(other.heights, 0, heights, 0, MOST_PEOPLE);
            System.arraycopy(other.places, 0, places, 0, MOST_PEOPLE);
            System.arraycopy(other.known, 0, known, 0, MOST_PEOPLE);
            System.arraycopy(other.kinds, 0, kinds, 0, ROOMS);
            System.arraycopy(other.vs, 0, vs, 0, ROOMS);
            comings = other.comings;
            cost = other.cost;
            System.arraycopy(other.rowSets, 0, rowSets, 0, MOST_ROWS);
            System.arraycopy(other.rowMiddles, 0, rowMiddles, 0, MOST_ROWS);
            rows = other.rows;
            System.arraycopy(other.saidRows, 0, saidRows, 0, MOST_ROWS);
            sayings = other.sayings;
            holds = other.holds;
        }
    }

    /** The clauses of a text; what each asks stands as steps, the parts ahead of what joins them. */
    private static final class House {
        static final int NOT = -1, AND = -2, OR = -3;
        static final int LETTERS = 6, SIGNS = 3;

        int clauses;
        final int[] words = new int[MOST_CLAUSES];
        final int[] numbers = new int[MOST_CLAUSES];
        final int[] ends = new int[MOST_CLAUSES];
        final int[] steps = new int[MOST_TEXT];
        int stepCount;
        int same;

        void forget() {
            clauses = 0;
            stepCount = 0;
            same = 0;
        }

        void addStep(int step) {
            if (stepCount < MOST_TEXT) {
                steps[stepCount] = step;
                stepCount++;
            }
        }

        void addTest(int letter, int sign, int number) {
            addStep((number * SIGNS + sign) * LETTERS + letter);
        }

        void addClause(int word, int number) {
            if (clauses < MOST_CLAUSES) {
                words[clauses] = word;
                numbers[clauses] = number;
                ends[clauses] = stepCount;
                clauses++;
            }
            if (word == SAME) {
                same = number;
            }
        }

        int together(int word, int[] facts) {
            int sum = 0;
            for (int c = 0; c < clauses; c++) {
                if (words[c] == word && holdsIn(c, facts)) {
                    sum += numbers[c];
                }
            }
            return sum;
        }

        boolean hasBar(int[] facts) {
            for (int c = 0; c < clauses; c++) {
                if (words[c] == BAR && holdsIn(c, facts)) {
                    return true;
                }
            }
            return false;
        }

        /** The bits of truths are a stack with its top lowest: within four others there are never more than eleven. */
        private boolean holdsIn(int clause, int[] facts) {
            int truths = 0;
            for (int s = clause == 0 ? 0 : ends[clause - 1]; s < ends[clause]; s++) {
                int step = steps[s];
                if (step == NOT) {
                    truths ^= 1;
                } else if (step == AND) {
                    truths = truths >> 1 & (truths | ~1);
                } else if (step == OR) {
                    truths = truths >> 1 | truths & 1;
                } else {
                    truths = truths << 1 | (testHolds(step, facts) ? 1 : 0);
                }
            }
            return (truths & 1) == 1;
        }

        private static boolean testHolds(int step, int[] facts) {
            int fact = facts[step % LETTERS];
            int number = step / LETTERS / SIGNS;
            switch (step / LETTERS % SIGNS) {
                case 0: return fact < number;
                case 1: return fact == number;
                default: return fact > number;
            }
        }
    }

    /** Reads a text from the left on and never goes past a byte that fits nowhere: so where it stops is the fault. */
    private static final class HouseReader {
        private static final int MOST_WITHIN = 4;
        private static final String DIGITS = "0123456789";

        private int[] signs = new int[0];
        private int length;
        private int at;
        private House house = new House();

        /** The fault, or -1. */
        int readInto(House target, int[] text, int textLength) {
            house = target;
            // a text with a fault may have left some clauses in it
            house.forget();
            signs = text;
            length = Math.min(textLength, text.length);
            at = 0;
            for (int c = 0; c < MOST_CLAUSES; c++) {
                if (!readClause()) {
                    return at;
                }
                if (at == length) {
                    return -1;
                }
                if (c == MOST_CLAUSES - 1 || !eat(';')) {
                    return at;
                }
            }
            return at;
        }

        private boolean readClause() {
            int word = readWord();
            if (word < 0) {
                return false;
            }
            int number = 0;
            if (word != BAR) {
                number = eat(' ') ? readNumber() : -1;
            }
            if (number < 0) {
                return false;
            }
            if (word != SAME && !(eat(' ') && readAny(0))) {
                return false;
            }
            house.addClause(word, number);
            return true;
        }

        /** Which word came whole; -1 if none. */
        private int readWord() {
            switch (at < length ? signs[at] : -1) {
                case 'p': return eatAll("price") ? PRICE : -1;
                case 'b': return eatAll("bar") ? BAR : -1;
                case 'w': return eatAll("worth") ? WORTH : -1;
                case 's': return eatAll("same") ? SAME : -1;
                default: return -1;
            }
        }

        private boolean readAny(int within) {
            if (!readAll(within)) {
                return false;
            }
            for (int n = 0; n < MOST_TEXT && eat('|'); n++) {
                if (!readAll(within)) {
                    return false;
                }
                house.addStep(House.OR);
            }
            return true;
        }

        private boolean readAll(int within) {
            if (!readOne(within)) {
                return false;
            }
            for (int n = 0; n < MOST_TEXT && eat('&'); n++) {
                if (!readOne(within)) {
                    return false;
                }
                house.addStep(House.AND);
            }
            return true;
        }

        private boolean readOne(int within) {
            boolean isNot = at < length && signs[at] == '!';
            boolean isOpened = at < length && signs[at] == '(';
            if (!isNot && !isOpened) {
                return readTest();
            }
            if (within >= MOST_WITHIN) {
                return false;
            }
            at++;
            if (isOpened) {
                return readAny(within + 1) && eat(')');
            }
            if (!readOne(within + 1)) {
                return false;
            }
            house.addStep(House.NOT);
            return true;
        }

        private boolean readTest() {
            int letter = eatOneOf("prankt");
            int sign = letter < 0 ? -1 : eatOneOf("<=>");
            int number = sign < 0 ? -1 : readNumber();
            if (number < 0) {
                return false;
            }
            house.addTest(letter, sign, number);
            return true;
        }

        /** One or two digits; -1 if there is none. */
        private int readNumber() {
            int first = eatOneOf(DIGITS);
            int second = first < 0 ? -1 : eatOneOf(DIGITS);
            return second < 0 ? first : first * 10 + second;
        }

        private boolean eat(int wanted) {
            if (at >= length || signs[at] != wanted) {
                return false;
            }
            at++;
            return true;
        }

        private boolean eatAll(String word) {
            for (int i = 0; i < word.length(); i++) {
                if (!eat(word.charAt(i))) {
                    return false;
                }
            }
            return true;
        }

        /** Which of some signs came, from 0; -1 if none of them. */
        private int eatOneOf(String some) {
            int which = at < length ? some.indexOf((char) signs[at]) : -1;
            if (which >= 0) {
                at++;
            }
            return which;
        }
    }

    /**
     * What the house that holds says of a scene. Where all are is packed, for what can be, into two bits for each
     * person, the first lowest.
     */
    private static final class Standing {
        static final int MOST_PACKED = 1 << 2 * MOST_PEOPLE;
        /** The lower bit of each two. */
        private static final int LOW_BITS = 0x155;

        final Scene scene;
        private House house;
        private final int[] facts = new int[House.LETTERS];
        private final int[] line = new int[MOST_PEOPLE];
        private final int[] heardNow = new int[MOST_PEOPLE];
        private final int[] prices = new int[MOST_PEOPLE * PLACES * MOST_PEOPLE];
        private final boolean[] bars = new boolean[MOST_PEOPLE * PLACES * MOST_PEOPLE];

        Standing(Scene scene, House house) {
            this.scene = scene;
            this.house = house;
        }

        void look(House held) {
            house = held;
        }

        int priceOf(int who, int place, int number) {
            setFacts(who, place, number, NO_THING);
            return 1 + house.together(PRICE, facts);
        }

        boolean isBarred(int who, int place, int number) {
            setFacts(who, place, number, NO_THING);
            return house.hasBar(facts);
        }

        int worthTo(int who, int room, int thing) {
            setFacts(who, room, Integer.bitCount(scene.whoIsAt(room)), thing);
            return house.together(WORTH, facts);
        }

        private void setFacts(int who, int place, int number, int thing) {
            facts[0] = who;
            facts[1] = place;
            facts[2] = scene.ages[who] / 10;
            facts[3] = number;
            facts[4] = place == OUT ? OUT_KIND : scene.kinds[place];
            facts[5] = thing;
        }

        /** A search asks for the same few comings again and again, so they are told once ahead of it. */
        void tellComings() {
            for (int who = 0; who < scene.people; who++) {
                for (int place = 0; place < PLACES; place++) {
                    for (int number = 1; number <= scene.people; number++) {
                        int slot = slotOf(who, place, number);
                        prices[slot] = priceOf(who, place, number);
                        bars[slot] = isBarred(who, place, number);
                    }
                }
            }
        }

        private static int slotOf(int who, int place, int number) {
            return (who * PLACES + place) * MOST_PEOPLE + number - 1;
        }

        int packedNow() {
            int packed = 0;
            for (int who = 0; who < scene.people; who++) {
                packed |= scene.places[who] << 2 * who;
            }
            return packed;
        }

        static int moved(int packed, int who, int place) {
            return packed & ~(3 << 2 * who) | place << 2 * who;
        }

        int whoIsAt(int packed, int place) {
            int bits = 0;
            for (int who = 0; who < scene.people; who++) {
                if ((packed >> 2 * who & 3) == place) {
                    bits |= 1 << who;
                }
            }
            return bits;
        }

        private int numberAt(int packed, int place) {
            int unlike = packed ^ place * LOW_BITS;
            int elsewhere = (unlike | unlike >> 1) & LOW_BITS & (1 << 2 * scene.people) - 1;
            return scene.people - Integer.bitCount(elsewhere);
        }

        boolean mayCome(int packed, int who, int place) {
            return (packed >> 2 * who & 3) != place
                && !bars[slotOf(who, place, numberAt(packed, place) + 1)];
        }

        /** Of a coming that may be. */
        int priceFrom(int packed, int who, int place) {
            return prices[slotOf(who, place, numberAt(packed, place) + 1)];
        }

        /** Who of those that are in a room (there, as bits) may speak in it. */
        int speakers(int room, int there, int comings) {
            if (!isRoom(room) || there == 0) {
                return 0;
            }
            int kind = scene.kinds[room];
            int[] sizes = kind == TALL || kind == SMALL ? scene.heights : scene.ages;
            int m = lineUp(there, sizes);
            int first = placeInLine(kind, scene.vs[room], m, comings);
            int bits = 0;
            if (first >= 0 && first < m) {
                bits = 1 << line[first];
            }
            if (kind == BOTH && m % 2 == 0) {
                bits |= 1 << line[m / 2];
            }
            return house.same > 0 ? withoutNear(bits, there, sizes) : bits;
        }

        /** Puts some people into the line, the least first; how many there are. */
        private int lineUp(int there, int[] sizes) {
            int m = 0;
            for (int who = 0; who < scene.people; who++) {
                if ((there >> who & 1) == 1) {
                    int at = m;
                    for (; at > 0 && sizes[line[at - 1]] > sizes[who]; at--) {
                        line[at] = line[at - 1];
                    }
                    line[at] = who;
                    m++;
                }
            }
            return m;
        }

        /** Of a line of m (above 0); a place that is not in the line if nobody speaks. */
        private static int placeInLine(int kind, int v, int m, int comings) {
            int middle = m % 2 == 1 ? (m - 1) / 2 : -1;
            switch (kind) {
                case LOWER:
                case BOTH: return (m - 1) / 2;
                case ELDER: return m - 1 - v;
                case TURNING: return m > 0 ? (comings + v) % m : -1;
                case SMALL: return m > v ? 0 : middle;
                default: return middle;
            }
        }

        private int withoutNear(int speaking, int there, int[] sizes) {
            int bits = speaking;
            for (int who = 0; who < scene.people; who++) {
                if ((speaking >> who & 1) == 1 && isNearAnother(who, there, sizes)) {
                    bits &= ~(1 << who);
                }
            }
            return bits;
        }

        private boolean isNearAnother(int who, int there, int[] sizes) {
            for (int other = 0; other < scene.people; other++) {
                int apart = sizes[other] - sizes[who];
                if (other != who && (there >> other & 1) == 1 && apart <= house.same && -apart <= house.same) {
                    return true;
                }
            }
            return false;
        }

        /** How many of the book's first could be said one behind the other: nobody moves, so speakers stay. */
        int sayable() {
            System.arraycopy(scene.known, 0, heardNow, 0, MOST_PEOPLE);
            for (int row = 0; row < scene.sayings; row++) {
                if (!isSaid(scene.saidRows[row] / 10, scene.saidRows[row] % 10)) {
                    return row;
                }
            }
            return scene.sayings;
        }

        private boolean isSaid(int who, int thing) {
            if (!isFromTo(who, 0, scene.people - 1) || (heardNow[who] >> thing & 1) == 0) {
                return false;
            }
            int room = scene.places[who];
            int there = scene.whoIsAt(room);
            if ((speakers(room, there, scene.comings) >> who & 1) == 0) {
                return false;
            }
            for (int hearer = 0; hearer < scene.people; hearer++) {
                if ((there >> hearer & 1) == 1) {
                    heardNow[hearer] |= 1 << thing;
                }
            }
            return true;
        }
    }

    /** Goes on by layers: where all can be behind just so many comings, with the least that leads there. */
    private static final class Walk {
        private static final int MOST_COMINGS = 12;
        private static final int UNREACHED = 1 << 30;

        private final Standing standing;
        private final int[] least = new int[Standing.MOST_PACKED];
        private final int[] next = new int[Standing.MOST_PACKED];
        private final int[] speakersOf = new int[1 << MOST_PEOPLE];
        private int states;
        private int gone;
        private boolean isSettled;
        private boolean isOfCosts;

        Walk(Standing standing) {
            this.standing = standing;
        }

        /** How many comings, or the first of them. */
        int fewestComings(int who, int room, boolean isFirstAsked) {
            begin(false);
            for (int n = 0; n <= MOST_COMINGS; n++) {
                int first = leastWith(who, room);
                if (first != UNREACHED && isFirstAsked) {
                    return n == 0 ? NOT_SO : first;
                }
                if (first != UNREACHED) {
                    return n;
                }
                goOn();
            }
            return NOT_SO;
        }

        int leastCost(int who, int room, int most) {
            begin(true);
            int cost = leastWith(who, room);
            for (int n = 0; n < most; n++) {
                goOn();
                cost = Math.min(cost, leastWith(who, room));
            }
            return cost == UNREACHED ? NOT_SO : cost;
        }

        int whoNeverCan(int room) {
            begin(false);
            int never = standing.scene.everybody();
            for (int n = 0; n <= MOST_COMINGS && never != 0; n++) {
                never &= ~whoCanSpeak(room);
                goOn();
            }
            return never;
        }

        private void begin(boolean areCostsAsked) {
            isOfCosts = areCostsAsked;
            states = 1 << 2 * standing.scene.people;
            gone = 0;
            isSettled = false;
            Arrays.fill(least, UNREACHED);
            least[standing.packedNow()] = 0;
        }

        /** Where a layer is as the one ahead of it, all later ones are, so only the number goes on. */
        private void goOn() {
            if (!isSettled) {
                Arrays.fill(next, UNREACHED);
                for (int packed = 0; packed < states; packed++) {
                    if (least[packed] != UNREACHED) {
                        leave(packed);
                    }
                }
                isSettled = !takeNext();
            }
            gone++;
        }

        private void leave(int packed) {
            for (int who = 0; who < standing.scene.people; who++) {
                for (int place = 0; place < PLACES; place++) {
                    if (standing.mayCome(packed, who, place)) {
                        int there = Standing.moved(packed, who, place);
                        next[there] = Math.min(next[there], carried(packed, who, place));
                    }
                }
            }
        }

        private int carried(int packed, int who, int place) {
            if (isOfCosts) {
                return least[packed] + standing.priceFrom(packed, who, place);
            }
            return gone == 0 ? 4 * who + place : least[packed];
        }

        private boolean takeNext() {
            boolean isOther = false;
            for (int packed = 0; packed < states; packed++) {
                isOther |= least[packed] != next[packed];
                least[packed] = next[packed];
            }
            return isOther;
        }

        private void tellSpeakers(int room) {
            for (int there = 0; there <= standing.scene.everybody(); there++) {
                speakersOf[there] = standing.speakers(room, there, standing.scene.comings + gone);
            }
        }

        private int leastWith(int who, int room) {
            tellSpeakers(room);
            int best = UNREACHED;
            for (int packed = 0; packed < states; packed++) {
                if (least[packed] < best && (speakersOf[standing.whoIsAt(packed, room)] >> who & 1) == 1) {
                    best = least[packed];
                }
            }
            return best;
        }

        private int whoCanSpeak(int room) {
            tellSpeakers(room);
            int bits = 0;
            for (int packed = 0; packed < states; packed++) {
                if (least[packed] != UNREACHED) {
                    bits |= speakersOf[standing.whoIsAt(packed, room)];
                }
            }
            return bits;
        }
    }

    /** Goes on by layers: for each way that all can be placed, the sets of knowing people that can be, as bits of sets. */
    private static final class Hearing {
        private static final int MOST_COMINGS = 6;
        private static final int SETS = 1 << MOST_PEOPLE;

        private final Standing standing;
        private final int[] knowing = new int[Standing.MOST_PACKED];
        private final int[] next = new int[Standing.MOST_PACKED];
        private final int[] speakersOf = new int[ROOMS * SETS];
        private final int[] there = new int[ROOMS];
        private final int[] speaking = new int[ROOMS];
        private int states;

        Hearing(Standing standing) {
            this.standing = standing;
        }

        static int setsOfOneWithout(int one, int other) {
            int sets = 0;
            for (int set = 0; set < SETS; set++) {
                if ((set >> one & 1) == 1 && (set >> other & 1) == 0) {
                    sets |= 1 << set;
                }
            }
            return sets;
        }

        /** The fewest comings till the knowing people can be one of the sets wanted. */
        int fewestTill(int whoKnows, int wanted) {
            states = 1 << 2 * standing.scene.people;
            Arrays.fill(knowing, 0);
            knowing[standing.packedNow()] = 1 << whoKnows;
            for (int gone = 0; gone <= MOST_COMINGS; gone++) {
                if (gone > 0) {
                    goOn();
                }
                tellSpeakers(gone);
                if (sayAll(wanted)) {
                    return gone;
                }
            }
            return NOT_SO;
        }

        private void goOn() {
            Arrays.fill(next, 0);
            for (int packed = 0; packed < states; packed++) {
                if (knowing[packed] != 0) {
                    leave(packed);
                }
            }
            System.arraycopy(next, 0, knowing, 0, states);
        }

        private void leave(int packed) {
            for (int who = 0; who < standing.scene.people; who++) {
                for (int place = 0; place < PLACES; place++) {
                    if (standing.mayCome(packed, who, place)) {
                        next[Standing.moved(packed, who, place)] |= knowing[packed];
                    }
                }
            }
        }

        /** Whether it is somewhere as wanted when all have said it. */
        private boolean sayAll(int wanted) {
            boolean isSo = false;
            for (int packed = 0; packed < states; packed++) {
                if (knowing[packed] != 0) {
                    knowing[packed] = saidIn(packed);
                    isSo |= (knowing[packed] & wanted) != 0;
                }
            }
            return isSo;
        }

        private void tellSpeakers(int gone) {
            for (int room = 0; room < ROOMS; room++) {
                for (int set = 0; set <= standing.scene.everybody(); set++) {
                    speakersOf[room * SETS + set] = standing.speakers(room, set, standing.scene.comings + gone);
                }
            }
        }

        private int saidIn(int packed) {
            for (int room = 0; room < ROOMS; room++) {
                there[room] = standing.whoIsAt(packed, room);
                speaking[room] = speakersOf[room * SETS + there[room]];
            }
            int sets = 0;
            for (int set = 0; set <= standing.scene.everybody(); set++) {
                if ((knowing[packed] >> set & 1) == 1) {
                    sets |= 1 << knowingThen(set);
                }
            }
            return sets;
        }

        private int knowingThen(int set) {
            int then = set;
            for (int room = 0; room < ROOMS; room++) {
                if ((speaking[room] & set) != 0) {
                    then |= there[room];
                }
            }
            return then;
        }
    }

    /** The game and the lot: so few comings that each row of them is gone through. */
    private static final class Turns {
        /** It divides by each number up to 15, the most comings that can be at once. */
        private static final long SHARES = 360360;

        private final Standing standing;

        Turns(Standing standing) {
            this.standing = standing;
        }

        boolean canWin(int room, int party, int n) {
            return wins(room, party, standing.packedNow(), standing.scene.comings, n, true);
        }

        private boolean wins(int room, int party, int packed, int comings, int left, boolean isOurs) {
            if (left <= 0) {
                int speaking = standing.speakers(room, standing.whoIsAt(packed, room), comings);
                return (speaking & party) != 0 && (speaking & ~party) == 0;
            }
            // the first choice that is good for the one whose turn it is settles it
            if (wins(room, party, packed, comings, left - 1, !isOurs) == isOurs) {
                return isOurs;
            }
            for (int who = 0; who < standing.scene.people; who++) {
                for (int place = 0; place < PLACES; place++) {
                    if (standing.mayCome(packed, who, place)) {
                        int then = Standing.moved(packed, who, place);
                        if (wins(room, party, then, comings + 1, left - 1, !isOurs) == isOurs) {
                            return isOurs;
                        }
                    }
                }
            }
            return !isOurs;
        }

        long oddsOfSpeaking(int who, int n, boolean isAbove) {
            long all = SHARES * SHARES;
            long good = sharesSpeaking(who, standing.packedNow(), standing.scene.comings, n, all);
            long divisor = greatestDivisor(all, good);
            return (isAbove ? good : all) / divisor;
        }

        private long sharesSpeaking(int who, int packed, int comings, int left, long shares) {
            int ways = left > 0 ? waysOn(packed) : 0;
            if (ways == 0) {
                int room = packed >> 2 * who & 3;
                int speaking = standing.speakers(room, standing.whoIsAt(packed, room), comings);
                return (speaking >> who & 1) == 1 ? shares : 0;
            }
            long good = 0;
            for (int mover = 0; mover < standing.scene.people; mover++) {
                for (int place = 0; place < PLACES; place++) {
                    if (standing.mayCome(packed, mover, place)) {
                        int then = Standing.moved(packed, mover, place);
                        good += sharesSpeaking(who, then, comings + 1, left - 1, shares / ways);
                    }
                }
            }
            return good;
        }

        private int waysOn(int packed) {
            int ways = 0;
            for (int who = 0; who < standing.scene.people; who++) {
                for (int place = 0; place < PLACES; place++) {
                    if (standing.mayCome(packed, who, place)) {
                        ways++;
                    }
                }
            }
            return ways;
        }

        /** Of one above 0 and one that may be 0. */
        private static long greatestDivisor(long one, long other) {
            long greater = one;
            long rest = other;
            for (int step = 0; step < 200 && rest != 0; step++) {
                long then = greater % rest;
                greater = rest;
                rest = then;
            }
            return greater == 0 ? 1 : greater;
        }
    }

    /** Goes through all orders by age in which the people might be. */
    private static final class Orders {
        private final Scene scene;
        private final int[] rank = new int[MOST_PEOPLE];

        Orders(Scene scene) {
            this.scene = scene;
        }

        int fitting() {
            return fittingFrom(0, 0);
        }

        /** The first some ranks are given, to those whose bits are set. */
        private int fittingFrom(int given, int placed) {
            if (given >= scene.people) {
                return goesWithAll() ? 1 : 0;
            }
            int orders = 0;
            for (int who = 0; who < scene.people; who++) {
                if ((placed >> who & 1) == 0) {
                    rank[who] = given;
                    orders += fittingFrom(given + 1, placed | 1 << who);
                }
            }
            return orders;
        }

        private boolean goesWithAll() {
            for (int row = 0; row < scene.rows; row++) {
                if (!isMiddle(scene.rowMiddles[row], scene.rowSets[row])) {
                    return false;
                }
            }
            return true;
        }

        private boolean isMiddle(int who, int set) {
            int younger = 0;
            for (int other = 0; other < scene.people; other++) {
                if ((set >> other & 1) == 1 && rank[other] < rank[who]) {
                    younger++;
                }
            }
            return younger == Integer.bitCount(set) / 2;
        }
    }

    /** The bodies of the kinds' acts, and which of them ran. */
    private static final class Acts {
        private static final int HEARS = 0, SPEAKS = 1, TELLS = 2, ACTS = 3;
        private static final int MOST_KEPT = 20, DEEPEST = 40;
        /** For each kind its own body of hears, speaks, tells, or 0; a body's number by 10 is 1 more than its kind. */
        private static final int[] OWN = {
            10, 11, 12,
            0, 20, 0,
            30, 0, 0,
            0, 0, 40,
            50, 51, 0,
            0, 0, 60,
            71, 70, 0,
        };

        private final int[] bodies = new int[MOST_KEPT];
        int ran;
        private int number;
        private int kind;
        private int v;

        void forget() {
            ran = 0;
        }

        int bodyAt(int i) {
            return isFromTo(i, 0, Math.min(ran, MOST_KEPT) - 1) ? bodies[i] : NONE;
        }

        int start(int room, int ofKind, int ofV, int act, int x) {
            number = room;
            kind = ofKind;
            v = ofV;
            return doFrom(kind, act, x, 0);
        }

        /** The nearest body of an act, from a kind on upward; 0 if there is none. */
        private static int bodyFrom(int kind, int act) {
            int at = kind;
            for (int step = 0; step < KINDS && at >= 0; step++) {
                int body = OWN[at * ACTS + act];
                if (body != 0) {
                    return body;
                }
                at = ABOVE[at];
            }
            return 0;
        }

        private int doFrom(int from, int act, int x, int depth) {
            int body = bodyFrom(from, act);
            if (body == 0 || depth > DEEPEST) {
                return 0;
            }
            note(body);
            int above = ABOVE[body / 10 - 1];
            int deeper = depth + 1;
            switch (body) {
                case 10: return x + number;
                case 11: return doFrom(kind, HEARS, x, deeper) - v;
                case 12: return doFrom(kind, SPEAKS, x, deeper) * 2;
                case 20: return doFrom(above, SPEAKS, x, deeper) ^ 6;
                case 30: return doFrom(above, HEARS, x * 3, deeper);
                case 40: return doFrom(above, TELLS, x, deeper) + doFrom(kind, SPEAKS, 1, deeper);
                case 50: return -doFrom(above, HEARS, x, deeper);
                case 51: return doFrom(above, SPEAKS, x + 1, deeper);
                case 60: return doFrom(above, TELLS, x - number, deeper);
                case 70: return doFrom(above, SPEAKS, x, deeper) + doFrom(above, HEARS, 2, deeper);
                case 71: return doFrom(above, HEARS, x, deeper) ^ v;
                default: return 0;
            }
        }

        private void note(int body) {
            if (ran < MOST_KEPT) {
                bodies[ran] = body;
            }
            ran++;
        }
    }

    /** Its items lie in longs whatever their sort is, so that no call makes a new row. */
    private static final class Tape {
        int sort = -1;
        private int length;
        final long[] items = new long[MOST_ITEMS];

        boolean holdsRow() {
            return sort >= 0;
        }

        void holdNothing() {
            sort = -1;
            length = 0;
        }

        void holdZeros(int newSort, int n) {
            sort = newSort;
            length = n;
            Arrays.fill(items, 0);
        }

        boolean hasPlace(int i) {
            return i >= 0 && i < length;
        }

        boolean hasPart(int i, int n) {
            return i >= 0 && n >= 0 && i <= length && n <= length - i;
        }

        void put(int i, long v) {
            items[i] = narrowed(v);
        }

        private long narrowed(long v) {
            switch (sort) {
                case BYTES: return (byte) v;
                case SHORTS: return (short) v;
                case INTS: return (int) v;
                case LONGS: return v;
                default: return v != 0 ? 1 : 0;
            }
        }
    }
}
