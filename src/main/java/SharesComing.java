import java.util.Arrays;

/** A will whose things and heirs come day by day: what can be made sure, and in the mean. */
public final class SharesComing {
    public static final int NONE = -1;
    public static final int VOID = -2147483648;

    private static final int TEXT_ROOM = 400;
    private static final int FEED_NUMBERS = 5;
    private static final int GOALS = 3;
    private static final int IMAGES = 4;
    private static final int NO_THING = 9;
    private static final int NO_ROWS = 9;

    private final byte[] text;
    private int length;
    private final Reader reader;
    private final Will draft;
    private final Will will;
    private final Book book;
    private boolean told;
    private long now;
    private int waits;
    private final boolean[] imageKept;
    private final long[] imageState;
    private final int[] imageWaits;

    public SharesComing() {
        text = new byte[TEXT_ROOM];
        reader = new Reader(text);
        draft = new Will();
        will = new Will();
        book = new Book(will);
        waits = NONE;
        imageKept = new boolean[IMAGES];
        imageState = new long[IMAGES];
        imageWaits = new int[IMAGES];
    }

    public int feed(int a, int b, int c, int d, int e) {
        if (length + 4 * FEED_NUMBERS > TEXT_ROOM) {
            return NONE;
        }
        addBytes(a);
        addBytes(b);
        addBytes(c);
        addBytes(d);
        addBytes(e);
        return length;
    }

    private void addBytes(int number) {
        for (int shift = 24; shift >= 0; shift -= 8) {
            if (length < TEXT_ROOM) {
                text[length] = (byte) (number >>> shift);
                length++;
            }
        }
    }

    public boolean end(int n) {
        if (n < 0 || n > length) {
            return false;
        }
        length = n;
        return true;
    }

    public int fault() {
        return reader.read(length, draft);
    }

    public int matter() {
        if (reader.read(length, draft) != NONE) {
            return NONE;
        }
        // The text is sound by now, so this second reading can't leave a half-read will.
        reader.read(length, will);
        length = 0;
        told = true;
        now = will.firstState();
        waits = NONE;
        for (int k = 0; k < IMAGES; k++) {
            imageKept[k] = false;
        }
        book.startAnew();
        return will.heirs;
    }

    public int heir(int heir, int what) {
        if (!told || !will.isHeir(heir)) {
            return NONE;
        }
        if (what == 0) {
            return State.isThere(now, heir) ? 1 : 0;
        }
        if (what >= 1 && what <= 3) {
            return will.worth(heir, what - 1);
        }
        if (what >= 4 && what <= 6) {
            return State.amount(now, what - 4, heir);
        }
        return what == 7 ? will.valueOf(heir, now, heir) : NONE;
    }

    public int alt(int day, int alt, int what) {
        if (!told || !will.isAlt(day, alt)) {
            return NONE;
        }
        switch (what) {
            case 0:
                return will.chance(day, alt);
            case 1:
                return will.kind(day, alt);
            case 2:
                return will.target(day, alt);
            default:
                return NONE;
        }
    }

    public int come(int alt) {
        int day = State.dayOf(now);
        if (!told || waits != NONE || !will.isAlt(day, alt)) {
            return NONE;
        }
        waits = will.thing(day, alt);
        now = will.passed(now, day, alt);
        return State.dayOf(now);
    }

    public boolean give(int to) {
        if (waits == NONE || !will.mayGive(now, to, will.hold)) {
            return false;
        }
        now = State.with(now, waits, to);
        waits = NONE;
        return true;
    }

    public int reached(int goal) {
        if (!canLookAhead(goal) || daysToCome() > 0) {
            return VOID;
        }
        return (int) book.ends(goal, will.back).value(now);
    }

    public int sure(int goal, boolean mean) {
        if (!told || !isGoal(goal)) {
            return VOID;
        }
        long worth = worthNow(goal, mean ? Sight.MEAN : Sight.SURE);
        return mean ? thousandths(worth) : (int) worth;
    }

    public int best(int goal, boolean mean) {
        if (waits == NONE || !isGoal(goal)) {
            return NONE;
        }
        return book.sight(goal, mean ? Sight.MEAN : Sight.SURE).bestGift(now, waits);
    }

    public int proof(int goal, int k) {
        if (!canLookAhead(goal) || k < 0 || k >= daysToCome()) {
            return NONE;
        }
        Sight sight = book.sight(goal, Sight.SURE);
        long state = now;
        int answer = NONE;
        for (int step = 0; step <= k; step++) {
            int day = State.dayOf(state);
            int alt = sight.worstAlt(state, day);
            int sort = will.thing(day, alt);
            state = will.passed(state, day, alt);
            int gift = sort == NONE ? NO_THING : sight.bestGift(state, sort);
            if (sort != NONE) {
                state = State.with(state, sort, gift);
            }
            answer = alt * 10 + gift;
        }
        return answer;
    }

    public int known(int goal, int row) {
        if (!canLookAhead(goal) || !book.rows.canBe(row, now)) {
            return VOID;
        }
        return (int) book.rows.greatest(now, row, book.ends(goal, will.back));
    }

    public int cost(int goal) {
        if (!canLookAhead(goal)) {
            return VOID;
        }
        long sure = worthNow(goal, Sight.SURE);
        return (int) (book.rows.leastGreatest(now, book.ends(goal, will.back), sure) - sure);
    }

    public int fare(int way, int goal, boolean mean) {
        if (!canLookAhead(goal) || way < 0 || way > Ways.AS_BEST) {
            return VOID;
        }
        long outcome = book.ways(way, goal, mean).outcome(now);
        return mean ? thousandths(outcome) : (int) outcome;
    }

    public int mended(int goal, int what) {
        if (!told || !isGoal(goal) || what < 0 || what > 1) {
            return NONE;
        }
        int kind = what == 0 ? Sight.KEEPING : Sight.MENDING;
        return (int) (worthNow(goal, kind) - worthNow(goal, Sight.SURE));
    }

    public int paper(int heir, int sort) {
        if (!told || !will.isHeir(heir) || sort < 0 || sort >= State.SORTS) {
            return NONE;
        }
        return will.chancesFrom(State.dayOf(now), sort) * will.worth(heir, sort);
    }

    public int judge(int alts, int gifts) {
        if (!told || waits != NONE || !book.rows.canBe(alts, now) || !book.rows.canHoldGifts(gifts, now)) {
            return NO_ROWS;
        }
        return book.rows.firstUnlawful(now, alts, gifts);
    }

    public int judged(int goal, int alts, int gifts) {
        if (!isGoal(goal) || judge(alts, gifts) != NONE) {
            return VOID;
        }
        return (int) book.ends(goal, will.back).value(book.rows.stateAfter(now, alts, gifts));
    }

    public boolean image(int k) {
        if (!told || k < 0 || k >= IMAGES) {
            return false;
        }
        imageKept[k] = true;
        imageState[k] = now;
        imageWaits[k] = waits;
        return true;
    }

    public boolean on(int k) {
        if (k < 0 || k >= IMAGES || !imageKept[k]) {
            return false;
        }
        now = imageState[k];
        waits = imageWaits[k];
        return true;
    }

    public int count(int what) {
        switch (what) {
            case 0:
                return will.heirs;
            case 1:
                return will.days;
            case 2:
                return State.dayOf(now);
            case 3:
                return State.cameOf(now);
            case 4:
                return State.heldOf(now);
            case 5:
                return waits;
            case 6:
                return will.hold;
            case 7:
                return will.back;
            case 8:
                return length;
            default:
                return NONE;
        }
    }

    private static boolean isGoal(int goal) {
        return goal >= 0 && goal < GOALS;
    }

    private boolean canLookAhead(int goal) {
        return told && isGoal(goal) && waits == NONE;
    }

    private int daysToCome() {
        return will.days - State.dayOf(now);
    }

    private long worthNow(int goal, int kind) {
        Sight sight = book.sight(goal, kind);
        return waits == NONE ? sight.worth(now) : sight.given(now, waits);
    }

    /** A mean is summed in parts of twelve to the power of the DAYS to come, so that it stays exact. */
    private int thousandths(long sum) {
        long parts = 1;
        for (int day = State.dayOf(now); day < will.days; day++) {
            parts *= Will.TWELVE;
        }
        return (int) (sum * 1000 / parts);
    }

    /**
     * A STATE is one long: three bits for each SORT and holder (holder 3 is what is HELD), above
     * them who CAME, above that how many DAYS are over. So an image is one number, too.
     */
    private static final class State {
        static final int SORTS = 3;
        static final int HEIRS = 3;
        static final int HELD = 3;
        static final int SORT_BITS = 12;
        static final int CELL_BITS = 3;
        static final int CELL_MASK = 7;
        static final int CAME_AT = 36;
        static final int DAY_AT = 39;
        static final long CELLS = (1L << CAME_AT) - 1;
        static final long A_DAY = 1L << DAY_AT;

        static long one(int sort, int holder) {
            return 1L << (SORT_BITS * sort + CELL_BITS * holder);
        }

        static long with(long state, int sort, int holder) {
            return state + one(sort, holder);
        }

        static int amount(long state, int sort, int holder) {
            return (int) (state >>> (SORT_BITS * sort + CELL_BITS * holder)) & CELL_MASK;
        }

        static int thingsOf(long state, int holder) {
            return amount(state, 0, holder) + amount(state, 1, holder) + amount(state, 2, holder);
        }

        static int heldOf(long state) {
            return thingsOf(state, HELD);
        }

        static int firstHeld(long state) {
            for (int sort = 0; sort < SORTS; sort++) {
                if (amount(state, sort, HELD) > 0) {
                    return sort;
                }
            }
            return NONE;
        }

        static int cameOf(long state) {
            return (int) (state >>> CAME_AT) & 7;
        }

        static boolean isThere(long state, int heir) {
            return (cameOf(state) >> heir & 1) == 1;
        }

        static int dayOf(long state) {
            return (int) (state >>> DAY_AT) & 7;
        }
    }

    /** The MATTER, as told. */
    private static final class Will {
        static final int MOST_DAYS = 6;
        static final int MOST_ALTS = 3;
        static final int TWELVE = 12;
        static final int THING = 0;
        static final int COMES = 1;
        static final int NOTHING = 2;

        int heirs;
        int days;
        int hold;
        int back;
        boolean holdTold;
        boolean backTold;
        private int late;
        private final long[] names;
        private final int[] worths;
        private final int[] altCounts;
        private final int[] chances;
        private final int[] kinds;
        private final int[] targets;

        Will() {
            names = new long[State.HEIRS];
            worths = new int[State.HEIRS * State.SORTS];
            altCounts = new int[MOST_DAYS];
            chances = new int[MOST_DAYS * MOST_ALTS];
            kinds = new int[MOST_DAYS * MOST_ALTS];
            targets = new int[MOST_DAYS * MOST_ALTS];
        }

        void clear() {
            heirs = 0;
            days = 0;
            hold = 0;
            back = 0;
            holdTold = false;
            backTold = false;
            late = 0;
        }

        boolean hasRoomForHeir() {
            return heirs < State.HEIRS;
        }

        void putWorth(int sort, int worth) {
            if (hasRoomForHeir() && sort >= 0 && sort < State.SORTS) {
                worths[heirs * State.SORTS + sort] = worth;
            }
        }

        void addHeir(long name, boolean isLate) {
            if (hasRoomForHeir()) {
                names[heirs] = name;
                if (isLate) {
                    late |= 1 << heirs;
                }
                heirs++;
            }
        }

        int heirNamed(long name) {
            for (int heir = 0; heir < heirs; heir++) {
                if (names[heir] == name) {
                    return heir;
                }
            }
            return NONE;
        }

        boolean hasRoomForDay() {
            return days < MOST_DAYS;
        }

        void putAlt(int alt, int chance, int kind, int target) {
            if (hasRoomForDay() && alt >= 0 && alt < MOST_ALTS) {
                int place = days * MOST_ALTS + alt;
                chances[place] = chance;
                kinds[place] = kind;
                targets[place] = target;
            }
        }

        void addDay(int alts) {
            if (hasRoomForDay()) {
                altCounts[days] = alts;
                days++;
            }
        }

        int early() {
            return (1 << heirs) - 1 & ~late;
        }

        boolean isLate(int heir) {
            return heir >= 0 && heir < heirs && (late >> heir & 1) == 1;
        }

        boolean isHeir(int heir) {
            return heir >= 0 && heir < heirs;
        }

        boolean isAlt(int day, int alt) {
            return day >= 0 && day < days && alt >= 0 && alt < altCounts[day];
        }

        int alts(int day) {
            return day >= 0 && day < days ? altCounts[day] : 0;
        }

        int worth(int heir, int sort) {
            if (heir < 0 || heir >= heirs || sort < 0 || sort >= State.SORTS) {
                return 0;
            }
            return worths[heir * State.SORTS + sort];
        }

        int chance(int day, int alt) {
            return isAlt(day, alt) ? chances[day * MOST_ALTS + alt] : 0;
        }

        int kind(int day, int alt) {
            return isAlt(day, alt) ? kinds[day * MOST_ALTS + alt] : NOTHING;
        }

        int target(int day, int alt) {
            return isAlt(day, alt) ? targets[day * MOST_ALTS + alt] : NONE;
        }

        /** The SORT that an ALT brings, or NONE. */
        int thing(int day, int alt) {
            return kind(day, alt) == THING ? target(day, alt) : NONE;
        }

        boolean mayBringThing(int day) {
            for (int alt = 0; alt < alts(day); alt++) {
                if (kind(day, alt) == THING) {
                    return true;
                }
            }
            return false;
        }

        int chancesFrom(int firstDay, int sort) {
            int sum = 0;
            for (int day = firstDay; day < days; day++) {
                for (int alt = 0; alt < alts(day); alt++) {
                    if (thing(day, alt) == sort) {
                        sum += chance(day, alt);
                    }
                }
            }
            return sum;
        }

        long firstState() {
            return (long) early() << State.CAME_AT;
        }

        /** The STATE when the ALT has come; a thing that it brings isn't given yet. */
        long passed(long state, int day, int alt) {
            long next = state + State.A_DAY;
            return kind(day, alt) == COMES ? next | 1L << (State.CAME_AT + target(day, alt)) : next;
        }

        boolean mayGive(long state, int to, int holdable) {
            if (to == State.HELD) {
                return State.heldOf(state) < holdable;
            }
            return isHeir(to) && State.isThere(state, to);
        }

        /** What an owner's things are worth to somebody. */
        int valueOf(int heir, long state, int owner) {
            if (heir < 0 || heir >= heirs) {
                return 0;
            }
            int row = heir * State.SORTS;
            long cells = state >>> State.CELL_BITS * owner;
            int value = 0;
            for (int sort = 0; sort < State.SORTS; sort++) {
                value += worths[row + sort] * ((int) cells & State.CELL_MASK);
                cells >>>= State.SORT_BITS;
            }
            return value;
        }
    }

    /** Reads a text into a Will. Where a part can't be read on, the token at hand is the FAULT. */
    private static final class Reader {
        private static final int OVER = 0;
        private static final int WORD = 1;
        private static final int NUMBER = 2;
        private static final int COMMA = 3;
        private static final int SEMICOLON = 4;
        private static final int BAD = 5;

        // A word of up to eight letters is the number of its bytes.
        private static final long HEIR = 0x68656972L;
        private static final long LATE = 0x6c617465L;
        private static final long DAY = 0x646179L;
        private static final long THING = 0x7468696e67L;
        private static final long COMES = 0x636f6d6573L;
        private static final long NO = 0x6e6f6e65L;
        private static final long HOLD = 0x686f6c64L;
        private static final long BACK = 0x6261636bL;
        private static final long TOO_LONG = 0;

        private static final int LONGEST_NAME = 8;
        private static final int MOST_WORTH = 20;
        private static final int MOST_HOLD = 2;
        private static final int MOST_BACK = 1;
        private static final int FAR_TOO_MUCH = 1000;

        private final byte[] text;
        private int length;
        private int at;
        private int token;
        private int place;
        private int number;
        private long word;
        private int parts;

        Reader(byte[] text) {
            this.text = text;
        }

        /** The FAULT, or NONE if the Will was read whole. */
        int read(int textLength, Will into) {
            length = Math.min(textLength, text.length);
            at = 0;
            into.clear();
            step();
            for (int part = 0; part <= length; part++) {
                if (token == OVER) {
                    return into.early() == 0 ? place : NONE;
                }
                if (!readPart(into)) {
                    return place;
                }
            }
            return place;
        }

        private boolean readPart(Will into) {
            if (token != WORD) {
                return false;
            }
            if (word == HEIR || word == LATE) {
                return readHeir(into, word == LATE);
            }
            if (word == DAY) {
                return readDay(into);
            }
            if (word == HOLD) {
                return readHold(into);
            }
            return word == BACK && readBack(into);
        }

        private boolean readHeir(Will into, boolean isLate) {
            if (!into.hasRoomForHeir()) {
                return false;
            }
            step();
            if (!isName() || into.heirNamed(word) != NONE) {
                return false;
            }
            long name = word;
            step();
            for (int sort = 0; sort < State.SORTS; sort++) {
                if (!isNumber(0, MOST_WORTH)) {
                    return false;
                }
                into.putWorth(sort, number);
                step();
            }
            if (token != SEMICOLON) {
                return false;
            }
            into.addHeir(name, isLate);
            step();
            return true;
        }

        private boolean readHold(Will into) {
            if (into.holdTold) {
                return false;
            }
            step();
            if (!isNumber(0, MOST_HOLD)) {
                return false;
            }
            into.hold = number;
            into.holdTold = true;
            return passSemicolon();
        }

        private boolean readBack(Will into) {
            if (into.backTold) {
                return false;
            }
            step();
            if (!isNumber(0, MOST_BACK)) {
                return false;
            }
            into.back = number;
            into.backTold = true;
            return passSemicolon();
        }

        private boolean passSemicolon() {
            step();
            if (token != SEMICOLON) {
                return false;
            }
            step();
            return true;
        }

        private boolean readDay(Will into) {
            if (!into.hasRoomForDay()) {
                return false;
            }
            step();
            parts = 0;
            for (int alt = 0; alt < Will.MOST_ALTS; alt++) {
                if (!readAlt(into, alt)) {
                    return false;
                }
                if (token == SEMICOLON && parts == Will.TWELVE) {
                    into.addDay(alt + 1);
                    step();
                    return true;
                }
                if (token != COMMA || alt == Will.MOST_ALTS - 1) {
                    return false;
                }
                step();
            }
            return false;
        }

        private boolean readAlt(Will into, int alt) {
            if (!isNumber(1, Will.TWELVE - parts)) {
                return false;
            }
            int chance = number;
            parts += chance;
            step();
            if (token != WORD) {
                return false;
            }
            int target = NONE;
            int kind = Will.NOTHING;
            if (word == THING) {
                kind = Will.THING;
                step();
                if (!isNumber(0, State.SORTS - 1)) {
                    return false;
                }
                target = number;
            } else if (word == COMES) {
                kind = Will.COMES;
                step();
                target = isName() ? into.heirNamed(word) : NONE;
                if (!into.isLate(target)) {
                    return false;
                }
            } else if (word != NO) {
                return false;
            }
            into.putAlt(alt, chance, kind, target);
            step();
            return true;
        }

        private boolean isNumber(int least, int most) {
            return token == NUMBER && number >= least && number <= most;
        }

        private boolean isName() {
            return token == WORD && word != TOO_LONG
                && word != HEIR && word != LATE && word != DAY && word != THING
                && word != COMES && word != NO && word != HOLD && word != BACK;
        }

        private void step() {
            while (at < length && (text[at] == ' ' || text[at] == '\n')) {
                at++;
            }
            place = at;
            if (at >= length) {
                token = OVER;
            } else if (isLetterAt(at)) {
                readWord();
            } else if (isDigitAt(at)) {
                readNumber();
            } else {
                token = text[at] == ',' ? COMMA : text[at] == ';' ? SEMICOLON : BAD;
                at++;
            }
        }

        private void readWord() {
            token = WORD;
            word = 0;
            while (at < length && isLetterAt(at)) {
                word = word << 8 | text[at];
                at++;
            }
            if (at - place > LONGEST_NAME) {
                word = TOO_LONG;
            }
        }

        private void readNumber() {
            token = NUMBER;
            number = 0;
            while (at < length && isDigitAt(at)) {
                number = Math.min(number * 10 + text[at] - '0', FAR_TOO_MUCH);
                at++;
            }
        }

        private boolean isLetterAt(int index) {
            return index >= 0 && index < length && text[index] >= 'a' && text[index] <= 'z';
        }

        private boolean isDigitAt(int index) {
            return index >= 0 && index < length && text[index] >= '0' && text[index] <= '9';
        }
    }

    /** The GOALS of a STATE in which nothing is HELD any more. */
    private static final class Goals {
        static final int SHARE = 0;
        static final int CALM = 1;
        static final int FULL = 1000;

        static int leastShare(Will will, long state) {
            int came = Integer.bitCount(State.cameOf(state));
            int least = NONE;
            for (int heir = 0; heir < will.heirs; heir++) {
                if (State.isThere(state, heir)) {
                    int all = 0;
                    for (int owner = 0; owner < will.heirs; owner++) {
                        all += will.valueOf(heir, state, owner);
                    }
                    int own = will.valueOf(heir, state, heir);
                    int share = all == 0 ? FULL : own * came * FULL / all;
                    least = least == NONE ? share : Math.min(least, share);
                }
            }
            return least;
        }

        static int mostLeftOut(Will will, long state) {
            int most = 0;
            for (int one = 0; one < will.heirs; one++) {
                for (int other = 0; other < will.heirs; other++) {
                    if (one != other && State.isThere(state, one) && State.isThere(state, other)) {
                        most = Math.max(most, leftOut(will, state, one, other));
                    }
                }
            }
            return most;
        }

        /** The fewest things are left out if the dearest go first. */
        private static int leftOut(Will will, long state, int one, int other) {
            int over = will.valueOf(one, state, other) - will.valueOf(one, state, one);
            long rest = state;
            int out = 0;
            while (over > 0 && out < Will.MOST_DAYS) {
                int dearest = NONE;
                for (int sort = 0; sort < State.SORTS; sort++) {
                    if (State.amount(rest, sort, other) > 0
                        && (dearest == NONE || will.worth(one, sort) > will.worth(one, dearest))) {
                        dearest = sort;
                    }
                }
                if (dearest == NONE) {
                    return out;
                }
                rest -= State.one(dearest, other);
                over -= will.worth(one, dearest);
                out++;
            }
            return out;
        }

        static int sum(Will will, long state) {
            int sum = 0;
            for (int heir = 0; heir < will.heirs; heir++) {
                if (State.isThere(state, heir)) {
                    sum += will.valueOf(heir, state, heir);
                }
            }
            return sum;
        }
    }

    /**
     * Gives every STATE of a will a place of its own in a table, without gaps and without search:
     * the four amounts of a SORT have a number (the smaller sums first), and three such numbers,
     * whose sums are bounded together, one place.
     */
    private static final class Ranks {
        static final int MOST_DAY_PLACES = 8568 * 4;
        static final int MOST_END_PLACES = 18564 * 4;
        static final int MOST_PLACES = MOST_DAY_PLACES + MOST_END_PLACES;
        private static final int MOST_THINGS = Will.MOST_DAYS;
        private static final int NUMBERS = 210;
        private static final int KEYS = 1 << State.SORT_BITS;
        private static final int KEY_MASK = KEYS - 1;
        private static final int MASKS = 8;

        private final int[] numberOf;
        private final int[] sumOf;
        private final int[] upTo;
        private final int[] middle;
        private final int[] first;
        private final int[] size;
        private final int[] limit;
        private final int[] start;
        private final int[] lateMask;
        private final int[] cameBy;
        private int masks;
        private int days;

        Ranks() {
            numberOf = new int[KEYS];
            sumOf = new int[NUMBERS];
            upTo = new int[MOST_THINGS + 1];
            middle = new int[(MOST_THINGS + 1) * NUMBERS];
            first = new int[(MOST_THINGS + 1) * NUMBERS];
            size = new int[MOST_THINGS + 1];
            limit = new int[Will.MOST_DAYS + 1];
            start = new int[Will.MOST_DAYS + 2];
            lateMask = new int[MASKS];
            cameBy = new int[MASKS];
            numberAmounts(numberOf, sumOf, upTo);
            int[] pairs = new int[MOST_THINGS + 1];
            sumUp(sumOf, upTo, middle, pairs);
            sumUp(sumOf, pairs, first, size);
        }

        private static void numberAmounts(int[] numberOf, int[] sumOf, int[] upTo) {
            Arrays.fill(numberOf, NONE);
            int number = 0;
            for (int sum = 0; sum <= MOST_THINGS; sum++) {
                for (int a = 0; a <= sum; a++) {
                    for (int b = 0; a + b <= sum; b++) {
                        for (int c = 0; a + b + c <= sum; c++) {
                            int held = sum - a - b - c;
                            numberOf[a | b << 3 | c << 6 | held << 9] = number;
                            sumOf[number] = sum;
                            number++;
                        }
                    }
                }
                upTo[sum] = number;
            }
        }

        /** Where, for each bound of the sum, the places of a number begin; and how many there are. */
        private static void sumUp(int[] sumOf, int[] inner, int[] begin, int[] whole) {
            for (int bound = 0; bound <= MOST_THINGS; bound++) {
                int places = 0;
                for (int number = 0; number < NUMBERS && sumOf[number] <= bound; number++) {
                    begin[bound * NUMBERS + number] = places;
                    places += inner[bound - sumOf[number]];
                }
                whole[bound] = places;
            }
        }

        void layOut(Will will) {
            days = Math.min(will.days, Will.MOST_DAYS);
            masks = 1;
            for (int came = 0; came < MASKS; came++) {
                lateMask[came] = maskOf(will, came);
                if ((came & will.early()) == will.early() && came < 1 << will.heirs) {
                    cameBy[lateMask[came]] = came;
                    masks = Math.max(masks, lateMask[came] + 1);
                }
            }
            int things = 0;
            int places = 0;
            for (int day = 0; day <= days; day++) {
                limit[day] = things;
                start[day] = places;
                places += size[things];
                if (day < days && will.mayBringThing(day) && things < MOST_THINGS) {
                    things++;
                }
            }
            start[days + 1] = places;
        }

        private static int maskOf(Will will, int came) {
            int mask = 0;
            int bit = 1;
            for (int heir = 0; heir < will.heirs; heir++) {
                if (will.isLate(heir)) {
                    mask |= (came >> heir & 1) == 1 ? bit : 0;
                    bit <<= 1;
                }
            }
            return mask;
        }

        /** Who of the late ones CAME, as a number 0 .. 3. */
        int lateOf(long state) {
            return lateMask[State.cameOf(state)];
        }

        int cameWith(int mask) {
            return mask >= 0 && mask < MASKS ? cameBy[mask] : 0;
        }

        int dayPlaces() {
            return start[days] * masks;
        }

        int endPlaces() {
            return (start[days + 1] - start[days]) * masks;
        }

        int allPlaces() {
            return start[days + 1] * masks;
        }

        int placeOf(long state) {
            int day = State.dayOf(state);
            if (day > days) {
                return NONE;
            }
            int place = cellPlace(state, limit[day]);
            return place == NONE ? NONE : (start[day] + place) * masks + lateOf(state);
        }

        int endPlaceOf(long state) {
            int place = cellPlace(state, limit[days]);
            return place == NONE ? NONE : place * masks + lateOf(state);
        }

        private int cellPlace(long state, int bound) {
            int a = numberOf[(int) state & KEY_MASK];
            int b = numberOf[(int) (state >>> State.SORT_BITS) & KEY_MASK];
            int c = numberOf[(int) (state >>> 2 * State.SORT_BITS) & KEY_MASK];
            if (a < 0 || b < 0 || c < 0 || sumOf[a] + sumOf[b] + sumOf[c] > bound) {
                return NONE;
            }
            return first[bound * NUMBERS + a] + middle[(bound - sumOf[a]) * NUMBERS + b] + c;
        }
    }

    /** What has been found out already; a place outside of it is just not remembered. */
    private static final class Table {
        static final long UNKNOWN = 1L << 63;
        static final long BEYOND_ALL = ~UNKNOWN;

        private long[] found;
        private boolean ready;

        Table() {
            found = new long[0];
        }

        void startAnew() {
            ready = false;
        }

        /** Doubles, so that many wills behind one another don't fill the room with old tables. */
        void makeReady(int need, int most) {
            if (ready) {
                return;
            }
            if (need > found.length) {
                found = new long[Math.max(need, Math.min(2 * found.length, most))];
            }
            Arrays.fill(found, UNKNOWN);
            ready = true;
        }

        long at(int place) {
            return place >= 0 && place < found.length ? found[place] : UNKNOWN;
        }

        void put(int place, long value) {
            if (place >= 0 && place < found.length) {
                found[place] = value;
            }
        }
    }

    /** A GOAL at the END, with so many things that may be taken back. */
    private static final class Ends {
        final Table table;
        private final Will will;
        private final Ranks ranks;
        private final int goal;
        private final Ends oneBackLess;

        Ends(Will will, Ranks ranks, int goal, Ends oneBackLess) {
            this.table = new Table();
            this.will = will;
            this.ranks = ranks;
            this.goal = goal;
            this.oneBackLess = oneBackLess;
        }

        long value(long state) {
            int place = ranks.endPlaceOf(state);
            long value = table.at(place);
            if (value == Table.UNKNOWN) {
                value = find(state);
                table.put(place, value);
            }
            return value;
        }

        private long find(long state) {
            int held = State.firstHeld(state);
            if (held != NONE) {
                return bestHandedOut(state, held);
            }
            if (oneBackLess != null) {
                return bestTakenBack(state, oneBackLess);
            }
            if (goal == Goals.SHARE) {
                return Goals.leastShare(will, state);
            }
            return goal == Goals.CALM ? -Goals.mostLeftOut(will, state) : Goals.sum(will, state);
        }

        /** Each time one thing less is HELD, so this goes no deeper than things may be HELD. */
        private long bestHandedOut(long state, int sort) {
            long rest = state - State.one(sort, State.HELD);
            long best = Table.UNKNOWN;
            for (int to = 0; to < will.heirs; to++) {
                if (State.isThere(state, to)) {
                    best = Math.max(best, value(State.with(rest, sort, to)));
                }
            }
            return best;
        }

        private long bestTakenBack(long state, Ends less) {
            long best = less.value(state);
            for (int sort = 0; sort < State.SORTS; sort++) {
                for (int from = 0; from < will.heirs; from++) {
                    if (State.amount(state, sort, from) > 0) {
                        best = Math.max(best, bestMoved(state, sort, from, less));
                    }
                }
            }
            return best;
        }

        private long bestMoved(long state, int sort, int from, Ends less) {
            long rest = state - State.one(sort, from);
            long best = Table.UNKNOWN;
            for (int to = 0; to < will.heirs; to++) {
                if (to != from && State.isThere(state, to)) {
                    best = Math.max(best, less.value(State.with(rest, sort, to)));
                }
            }
            return best;
        }
    }

    /** What can be reached from a STATE, giving as is best: SURE, the mean, or SURE with one more. */
    private static final class Sight {
        static final int SURE = 0;
        static final int MEAN = 1;
        static final int KEEPING = 2;
        static final int MENDING = 3;
        static final int KINDS = 4;

        final Table table;
        private final Will will;
        private final Ranks ranks;
        private final int kind;
        private Ends ends;

        Sight(Will will, Ranks ranks, int kind, Ends ends) {
            this.table = new Table();
            this.will = will;
            this.ranks = ranks;
            this.kind = kind;
            this.ends = ends;
        }

        void endsBy(Ends newEnds) {
            ends = newEnds;
        }

        /** A mean is told times twelve to the power of the DAYS to come. */
        long worth(long state) {
            int day = State.dayOf(state);
            if (day >= will.days) {
                return ends.value(state);
            }
            int place = ranks.placeOf(state);
            long worth = table.at(place);
            if (worth == Table.UNKNOWN) {
                worth = kind == MEAN ? weighed(state, day) : least(state, day);
                table.put(place, worth);
            }
            return worth;
        }

        private long weighed(long state, int day) {
            long sum = 0;
            for (int alt = 0; alt < will.alts(day); alt++) {
                sum += will.chance(day, alt) * afterAlt(state, day, alt);
            }
            return sum;
        }

        private long least(long state, int day) {
            long least = Table.BEYOND_ALL;
            for (int alt = 0; alt < will.alts(day); alt++) {
                least = Math.min(least, afterAlt(state, day, alt));
            }
            return least;
        }

        private long afterAlt(long state, int day, int alt) {
            int sort = will.thing(day, alt);
            long next = will.passed(state, day, alt);
            return sort == NONE ? worth(next) : given(next, sort);
        }

        /** What can be reached if a thing of this SORT WAITS. */
        long given(long state, int sort) {
            long most = Table.UNKNOWN;
            for (int to = 0; to <= State.HELD; to++) {
                if (will.mayGive(state, to, holdable())) {
                    most = Math.max(most, worth(State.with(state, sort, to)));
                }
            }
            return most;
        }

        int bestGift(long state, int sort) {
            long most = given(state, sort);
            for (int to = 0; to < State.HELD; to++) {
                if (will.mayGive(state, to, holdable()) && worth(State.with(state, sort, to)) == most) {
                    return to;
                }
            }
            return State.HELD;
        }

        int worstAlt(long state, int day) {
            long least = least(state, day);
            int worst = 0;
            while (worst < will.alts(day) - 1 && afterAlt(state, day, worst) != least) {
                worst++;
            }
            return worst;
        }

        private int holdable() {
            return kind == KEEPING ? will.hold + 1 : will.hold;
        }
    }

    /** ROWS of ALTS, known beforehand, and ROWS of GIFTS that go with them. */
    private static final class Rows {
        private static final int LATE_MASKS = 4;
        private static final int GROUPS = State.SORTS * LATE_MASKS;

        private final Will will;
        private final Ranks ranks;
        private int[] walked;
        private int walk;
        private long least;
        private long floor;

        Rows(Will will, Ranks ranks) {
            this.will = will;
            this.ranks = ranks;
            this.walked = new int[0];
        }

        private static int digit(int row, int step) {
            return row >>> 2 * step & 3;
        }

        boolean canBe(int alts, long now) {
            int today = State.dayOf(now);
            for (int day = today; day < will.days; day++) {
                if (!will.isAlt(day, digit(alts, day - today))) {
                    return false;
                }
            }
            return canHoldGifts(alts, now);
        }

        boolean canHoldGifts(int gifts, long now) {
            return gifts >= 0 && gifts >>> 2 * (will.days - State.dayOf(now)) == 0;
        }

        int firstUnlawful(long now, int alts, int gifts) {
            long state = now;
            int today = State.dayOf(now);
            for (int day = today; day < will.days; day++) {
                int alt = digit(alts, day - today);
                int gift = digit(gifts, day - today);
                int sort = will.thing(day, alt);
                state = will.passed(state, day, alt);
                if (sort == NONE ? gift != 0 : !will.mayGive(state, gift, will.hold)) {
                    return day - today;
                }
                state = sort == NONE ? state : State.with(state, sort, gift);
            }
            return NONE;
        }

        long stateAfter(long now, int alts, int gifts) {
            long state = now;
            int today = State.dayOf(now);
            for (int day = today; day < will.days; day++) {
                int alt = digit(alts, day - today);
                int sort = will.thing(day, alt);
                state = will.passed(state, day, alt);
                state = sort == NONE ? state : State.with(state, sort, digit(gifts, day - today));
            }
            return state;
        }

        /** KNOWN of a ROW. */
        long greatest(long now, int row, Ends ends) {
            int today = State.dayOf(now);
            long trace = now & ~State.CELLS;
            for (int day = today; day < will.days; day++) {
                trace = traced(trace, day, digit(row, day - today));
            }
            return spread(ending(now, trace), trace, 0, 0, ends);
        }

        /** The least KNOWN of all ROWS; none is below what is SURE, so that ends the search. */
        long leastGreatest(long now, Ends ends, long sure) {
            int need = ranks.allPlaces();
            if (need > walked.length) {
                walked = new int[Math.max(need, Math.min(2 * walked.length, Ranks.MOST_PLACES))];
            }
            walk++;
            least = Table.BEYOND_ALL;
            floor = sure;
            walkOn(now, now & ~State.CELLS, ends);
            return least;
        }

        private void walkOn(long now, long trace, Ends ends) {
            if (least <= floor || wasWalked(ranks.placeOf(trace))) {
                return;
            }
            int day = State.dayOf(trace);
            if (day >= will.days) {
                least = Math.min(least, spread(ending(now, trace), trace, 0, 0, ends));
                return;
            }
            for (int alt = 0; alt < will.alts(day); alt++) {
                walkOn(now, traced(trace, day, alt), ends);
            }
        }

        private boolean wasWalked(int place) {
            if (place < 0 || place >= walked.length) {
                return false;
            }
            boolean before = walked[place] == walk;
            walked[place] = walk;
            return before;
        }

        /**
         * A trace tells of a ROW what KNOWN depends on: how many things of each SORT came while
         * which of the late ones were there. It has the form of a STATE, with these for holders.
         */
        private long traced(long trace, int day, int alt) {
            int sort = will.thing(day, alt);
            long next = will.passed(trace, day, alt);
            return sort == NONE ? next : State.with(next, sort, ranks.lateOf(trace));
        }

        private static long ending(long now, long trace) {
            return now & State.CELLS | trace & ~State.CELLS;
        }

        /** Like things of one group go to holders in rising order: any other order ends the same. */
        private long spread(long state, long trace, int group, int from, Ends ends) {
            int at = group;
            while (at < GROUPS && (trace >>> State.CELL_BITS * at & State.CELL_MASK) == 0) {
                at++;
            }
            if (at >= GROUPS) {
                return ends.value(state);
            }
            int sort = at / LATE_MASKS;
            int there = ranks.cameWith(at % LATE_MASKS);
            long rest = trace - (1L << State.CELL_BITS * at);
            long best = Table.UNKNOWN;
            for (int to = at == group ? from : 0; to <= State.HELD; to++) {
                if (to == State.HELD ? State.heldOf(state) < will.hold : (there >> to & 1) == 1) {
                    best = Math.max(best, spread(State.with(state, sort, to), rest, at, to, ends));
                }
            }
            return best;
        }
    }

    /** What comes of giving by rule. */
    private static final class Ways {
        static final int FEWEST_THINGS = 1;
        static final int LEAST_VALUE = 2;
        static final int HOLDING = 3;
        static final int AS_BEST = 4;

        private final Will will;
        private final Sight share;
        private int way;
        private boolean mean;
        private Ends ends;

        Ways(Will will, Sight share, Ends ends) {
            this.will = will;
            this.share = share;
            this.ends = ends;
        }

        void goBy(int newWay, boolean newMean, Ends newEnds) {
            way = newWay;
            mean = newMean;
            ends = newEnds;
        }

        /** A mean is told times twelve to the power of the DAYS to come. */
        long outcome(long state) {
            int day = State.dayOf(state);
            if (day >= will.days) {
                return ends.value(state);
            }
            long sum = 0;
            long least = Table.BEYOND_ALL;
            for (int alt = 0; alt < will.alts(day); alt++) {
                int sort = will.thing(day, alt);
                long next = will.passed(state, day, alt);
                if (sort != NONE) {
                    int to = way == AS_BEST ? share.bestGift(next, sort) : gift(next, sort);
                    next = State.with(next, sort, to);
                }
                long outcome = outcome(next);
                sum += will.chance(day, alt) * outcome;
                least = Math.min(least, outcome);
            }
            return mean ? sum : least;
        }

        private int gift(long state, int sort) {
            if (way == HOLDING && will.mayGive(state, State.HELD, will.hold)) {
                return State.HELD;
            }
            int chosen = NONE;
            for (int heir = 0; heir < will.heirs; heir++) {
                if (State.isThere(state, heir)
                    && (chosen == NONE || claim(state, sort, heir) > claim(state, sort, chosen))) {
                    chosen = heir;
                }
            }
            return chosen;
        }

        private int claim(long state, int sort, int heir) {
            switch (way) {
                case FEWEST_THINGS:
                    return -State.thingsOf(state, heir);
                case LEAST_VALUE:
                    return -will.valueOf(heir, state, heir);
                default:
                    return will.worth(heir, sort);
            }
        }
    }

    /** All that is found out about one MATTER, made when it is first asked for. */
    private static final class Book {
        private static final int MOST_BACKS = 2;

        final Rows rows;
        private final Will will;
        private final Ranks ranks;
        private final Ways ways;
        private final Ends[] ends;
        private final Sight[] sights;

        Book(Will will) {
            this.will = will;
            ranks = new Ranks();
            rows = new Rows(will, ranks);
            ends = new Ends[GOALS * (MOST_BACKS + 1)];
            for (int goal = 0; goal < GOALS; goal++) {
                Ends less = null;
                for (int backs = 0; backs <= MOST_BACKS; backs++) {
                    less = new Ends(will, ranks, goal, less);
                    ends[goal * (MOST_BACKS + 1) + backs] = less;
                }
            }
            sights = new Sight[GOALS * Sight.KINDS];
            for (int place = 0; place < sights.length; place++) {
                Ends own = ends[place / Sight.KINDS * (MOST_BACKS + 1)];
                sights[place] = new Sight(will, ranks, place % Sight.KINDS, own);
            }
            ways = new Ways(will, sights[0], ends[0]);
        }

        void startAnew() {
            ranks.layOut(will);
            for (int place = 0; place < ends.length; place++) {
                ends[place].table.startAnew();
            }
            for (int place = 0; place < sights.length; place++) {
                sights[place].table.startAnew();
            }
        }

        /** The goal is 0 .. 2, backs 0 .. 2. */
        Ends ends(int goal, int backs) {
            int place = goal * (MOST_BACKS + 1);
            for (int less = 0; less <= backs; less++) {
                ends[place + less].table.makeReady(ranks.endPlaces(), Ranks.MOST_END_PLACES);
            }
            return ends[place + backs];
        }

        Sight sight(int goal, int kind) {
            Sight sight = sights[goal * Sight.KINDS + kind];
            sight.table.makeReady(ranks.dayPlaces(), Ranks.MOST_DAY_PLACES);
            sight.endsBy(ends(goal, will.back + (kind == Sight.MENDING ? 1 : 0)));
            return sight;
        }

        Ways ways(int way, int goal, boolean mean) {
            if (way == Ways.AS_BEST) {
                // The Ways hold on to this Sight, which must be ready for the will at hand.
                sight(Goals.SHARE, Sight.SURE);
            }
            ways.goBy(way, mean, ends(goal, will.back));
            return ways;
        }
    }
}
