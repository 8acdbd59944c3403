/** People whose watches are off, who ring while they are late, and who set their watches by one another's ringing. */
public final class PealOfExcuses {
    public static final int NONE = -1, BAD = -2, STATE = -3, FULL = -4;
    public static final long NO = Long.MIN_VALUE;

    private static final int NEVER = -5;
    private static final int NOTHING = -11, CAST = -12, PLACE = -13, SIZE = -14;
    // An OFF or a LAG may itself be -1 or -2, so where one is answered a refusal lies this far below.
    private static final int BELOW = -10000;
    private static final int FAULTS = -10;
    private static final int CUT_SHORT = 100;

    private static final int MOST_PEOPLE = 6, MOST_TOWNS = 6, MOST_TEXT = 100, MOST_CLAUSES = 10;
    private static final int MOST_SEEN = 5, MOST_WEEK = 10, MOST_BOOK = 8;
    private static final int MOST_TAPES = 6, MOST_ITEMS = 60, MOST_TRACE = 20;
    // No WRONG and no SPREAD is as great as BEYOND.
    private static final int FARTHEST = 999, BEYOND = 2 * FARTHEST + 1;
    private static final int LAST_DAY = 9999, MOST_DAYS = 60, MONTH = 30;

    private static final int PERSON = 0, CAREFUL = 1, DEAF = 2, VAIN = 3, SLOW = 4, STUBBORN = 5, TOLD = 6;
    private static final int KINDS = 7;
    // PERSON stands above itself, so that climbing needs no end of its own.
    private static final int[] ABOVE = {PERSON, PERSON, PERSON, PERSON, CAREFUL, DEAF, VAIN};

    private static final int LAG = 0, HASTE = 1, FAST = 2, LOUD = 3, WORDS = 4;
    private static final int USUAL_LOUD = 5;
    private static final String LETTERS = "pkvuod";
    private static final String SIGNS = "<=>";
    private static final int NOT = -1, AND = -2, OR = -3;
    private static final int MOST_WITHIN = 4;

    private static final int WAKES = 0, RINGS = 1, TELLS = 2, ACTS = 3;
    private static final int DEEPEST = 30;

    private static final int BYTES = 0, SHORTS = 1, INTS = 2, LONGS = 3, BOOLEANS = 4;

    private final Moment now;
    private final Moment kept;
    private boolean imaged;
    private final Town[] towns;
    private final Town noTown;
    private int townCount;
    private final Reader reader;
    private final Morning morning;
    private final Crowd trial;
    private final Actor actor;
    private final Tape[] tapes;

    public PealOfExcuses() {
        now = new Moment();
        kept = new Moment();
        towns = new Town[MOST_TOWNS];
        for (int t = 0; t < MOST_TOWNS; t++) {
            towns[t] = new Town();
        }
        noTown = new Town();
        reader = new Reader();
        morning = new Morning();
        trial = new Crowd();
        actor = new Actor();
        tapes = new Tape[MOST_TAPES];
        for (int t = 0; t < MOST_TAPES; t++) {
            tapes[t] = new Tape();
        }
    }

    // ---- people, towns

    public int person(int kind, int v, int due, int off) {
        if (kind < 0 || kind >= KINDS) {
            return NONE;
        }
        if (v < 0 || v > 9 || !isDue(due) || !isOff(off)) {
            return BAD;
        }
        if (now.crowd.size >= MOST_PEOPLE) {
            return FULL;
        }
        return now.crowd.join(kind, v, due, off);
    }

    public int of(int person, int what) {
        if (!isPerson(person)) {
            return BELOW + NONE;
        }
        Crowd crowd = now.crowd;
        switch (what) {
            case 0: return crowd.kinds[person];
            case 1: return crowd.numbers[person];
            case 2: return crowd.dues[person];
            case 3: return crowd.offs[person];
            case 4: return crowd.aways[person] ? 1 : 0;
            default: return ofMorning(person, what);
        }
    }

    public int off(int person, int n) {
        if (!isPerson(person)) {
            return BELOW + NONE;
        }
        if (!isOff(n)) {
            return BELOW + BAD;
        }
        int before = now.crowd.offs[person];
        now.crowd.offs[person] = n;
        return before;
    }

    public int due(int person, int n) {
        if (!isPerson(person)) {
            return NONE;
        }
        if (!isDue(n)) {
            return BAD;
        }
        int before = now.crowd.dues[person];
        now.crowd.dues[person] = n;
        return before;
    }

    public int away(int person, boolean is) {
        if (!isPerson(person)) {
            return NONE;
        }
        int before = now.crowd.aways[person] ? 1 : 0;
        now.crowd.aways[person] = is;
        return before;
    }

    public int row(int person, int part, int n) {
        if (!isPerson(person) || part < 0 || part > 3) {
            return NONE;
        }
        if (n < 0 || n > 9) {
            return BAD;
        }
        if (now.crowd.kinds[person] != TOLD) {
            return STATE;
        }
        int before = now.crowd.rows[4 * person + part];
        now.crowd.rows[4 * person + part] = n;
        return before;
    }

    public int feed(int sign) {
        if (sign < 0 || sign > 127) {
            return BAD;
        }
        if (reader.size >= MOST_TEXT) {
            return FULL;
        }
        return reader.append(sign);
    }

    public int town() {
        if (townCount >= MOST_TOWNS) {
            return FULL;
        }
        boolean isTown = reader.readTown(towns[townCount]);
        int place = reader.place;
        reader.size = 0;
        if (!isTown) {
            return FAULTS - place;
        }
        now.holding = townCount;
        townCount++;
        return now.holding;
    }

    public int told(int what) {
        switch (what) {
            case 0: return now.crowd.day;
            case 1: return holder().fast;
            case 2: return holder().loud;
            case 3: return now.crowd.awayBits();
            case 4: return now.crowd.worst();
            case 5: return now.crowd.width();
            default: return NONE;
        }
    }

    // ---- days

    public int pass(int n) {
        if (!isDays(n, MOST_DAYS)) {
            return BAD;
        }
        if (now.crowd.day + n > LAST_DAY) {
            return STATE;
        }
        morning.goDays(now.crowd, holder(), n);
        return now.crowd.worst();
    }

    public int on(int n, int what) {
        boolean ofOne = isPerson(what - 10);
        if (what != 0 && what != 1 && !ofOne) {
            return BELOW + NONE;
        }
        if (!isDays(n, MOST_DAYS)) {
            return BELOW + BAD;
        }
        tryDays(n);
        return ofOne ? trial.offs[what - 10] : trial.wrongOrSpread(what);
    }

    public int until(int what) {
        switch (what) {
            case 0: return settles();
            case 1: return firstZero(1);
            case 2: return firstZero(0);
            default: return NONE;
        }
    }

    // ---- what is best

    public int prompt() {
        tryDays(MONTH);
        int least = trial.worst();
        int found = NEVER;
        for (int p = 0; p < now.crowd.size; p++) {
            morning.punctual = p;
            tryDays(MONTH);
            if (trial.worst() < least) {
                least = trial.worst();
                found = p;
            }
        }
        morning.punctual = NONE;
        return found;
    }

    public int best(int person) {
        if (!isPerson(person)) {
            return BELOW + NONE;
        }
        int least = BEYOND;
        int found = 0;
        for (int off = -9; off <= 9; off++) {
            trial.become(now.crowd);
            trial.offs[person] = off;
            morning.goDays(trial, holder(), MONTH);
            if (trial.worst() < least) {
                least = trial.worst();
                found = off;
            }
        }
        return found;
    }

    public int when(int person) {
        if (!isPerson(person)) {
            return NONE;
        }
        int least = BEYOND;
        int found = 0;
        for (int due = 0; due <= 90; due += 10) {
            trial.become(now.crowd);
            trial.dues[person] = due;
            morning.goDays(trial, holder(), MONTH);
            if (trial.width() < least) {
                least = trial.width();
                found = due;
            }
        }
        return found;
    }

    public int apart(int one, int other, int n) {
        if (!isPerson(one) || !isPerson(other)) {
            return NONE;
        }
        if (one == other || !isDays(n, MOST_DAYS)) {
            return BAD;
        }
        trial.become(now.crowd);
        int most = trial.between(one, other);
        for (int k = 0; k < n; k++) {
            morning.goDay(trial, holder());
            most = Math.max(most, trial.between(one, other));
        }
        return most;
    }

    public int who(int r, int n) {
        if (r < 1 || r > 99 || !isDays(n, 40)) {
            return BAD;
        }
        tryDays(n);
        morning.look(trial, holder());
        int bits = 0;
        for (int p = 0; p < trial.size; p++) {
            if (morning.rings[p] == r) {
                bits |= 1 << p;
            }
        }
        return bits;
    }

    // ---- seen, odds

    public int see(int person, int off, int n) {
        if (person == -1) {
            return now.seen.empty();
        }
        if (!isPerson(person)) {
            return NONE;
        }
        if (!isOff(off) || !isDays(n, 20)) {
            return BAD;
        }
        return now.seen.add(person, off, n);
    }

    public int was(int person, int what) {
        if (!isPerson(person) || what < 0 || what > 1) {
            return BELOW + NONE;
        }
        int found = 0;
        int least = BELOW + NEVER;
        for (int off = 20; off >= -20; off--) {
            trial.become(now.crowd);
            trial.offs[person] = off;
            if (isAsSeen()) {
                found++;
                least = off;
            }
        }
        return what == 0 ? found : least;
    }

    public int can(int person, int what) {
        if (!isPerson(person) || what < 0 || what > 1) {
            return NONE;
        }
        int found = 0;
        int least = NEVER;
        for (int v = 9; v >= 0; v--) {
            trial.become(now.crowd);
            trial.numbers[person] = v;
            if (isAsSeen()) {
                found++;
                least = v;
            }
        }
        return what == 0 ? found : least;
    }

    public long odds(int n, int part) {
        if (!isFraction(n, part)) {
            return NO;
        }
        int agreeing = 0;
        for (int p = 0; p < now.crowd.size; p++) {
            trial.become(now.crowd);
            trial.aways[p] = true;
            morning.goDays(trial, holder(), n);
            if (trial.width() == 0) {
                agreeing++;
            }
        }
        return inLowestTerms(agreeing, part);
    }

    public long mean(int n, int part) {
        if (!isFraction(n, part)) {
            return NO;
        }
        tryDays(n);
        return inLowestTerms(trial.together(), part);
    }

    // ---- weeks, books

    public int week(int what, int person) {
        if (what == -1) {
            return now.week.empty();
        }
        if (what < 0 || what > 3 || (what > 0 && !isPerson(person))) {
            return NONE;
        }
        return now.week.add(person, what, 0);
    }

    public int gone(int what) {
        if (what != 0 && what != 1) {
            return NONE;
        }
        trial.become(now.crowd);
        Notes week = now.week;
        for (int k = 0; k < week.size; k++) {
            goRow(week.second[k], week.people[k]);
        }
        return trial.wrongOrSpread(what);
    }

    public int book(int person, int off) {
        if (person == -1) {
            return now.book.empty();
        }
        if (!isPerson(person)) {
            return NONE;
        }
        if (!isOff(off)) {
            return BAD;
        }
        return now.book.add(person, off, 0);
    }

    public int looked() {
        Notes book = now.book;
        for (int k = 0; k < book.size; k++) {
            if (now.crowd.offs[book.people[k]] != book.second[k]) {
                return k;
            }
        }
        return NEVER;
    }

    // ---- judging, the image, acts, tapes

    public int judge(int tape, int i) {
        if (!isTape(tape)) {
            return NONE;
        }
        Tape told = tapes[tape];
        if (told.sort != Tape.EMPTY && told.sort != SHORTS) {
            return CAST;
        }
        for (int p = 0; p < now.crowd.size; p++) {
            if (i < 0 || p >= told.size - i) {
                return CUT_SHORT + p;
            }
            if (told.items[i + p] != now.crowd.offs[p]) {
                return p;
            }
        }
        return NEVER;
    }

    public int image() {
        kept.become(now);
        imaged = true;
        return now.crowd.size;
    }

    public int undo() {
        if (!imaged) {
            return STATE;
        }
        now.become(kept);
        return now.crowd.size;
    }

    public int act(int person, int act, int x) {
        actor.ran = 0;
        if (!isPerson(person) || act < 0 || act >= ACTS) {
            return 0;
        }
        return actor.play(now.crowd, person, act, x);
    }

    public int trace(int i) {
        if (i < 0 || i >= MOST_TRACE || i >= actor.ran) {
            return NONE;
        }
        return actor.bodies[i];
    }

    public int taken(int person, int k) {
        if (k < 0 || k >= KINDS) {
            return BAD;
        }
        if (!isPerson(person)) {
            return NOTHING;
        }
        int kind = now.crowd.kinds[person];
        return isUnder(kind, k) ? kind : CAST;
    }

    public int count(int what) {
        switch (what) {
            case 0: return now.crowd.size;
            case 1: return townCount;
            case 2: return now.seen.size;
            case 3: return now.week.size;
            case 4: return now.book.size;
            case 5: return reader.size;
            case 6: return actor.ran;
            default: return BAD;
        }
    }

    public int tape(int tape, int sort, int n) {
        if (!isTape(tape)) {
            return NONE;
        }
        if (sort == Tape.EMPTY) {
            tapes[tape].hold(Tape.EMPTY, 0);
            return 1;
        }
        if (sort < BYTES || sort > BOOLEANS || n > MOST_ITEMS) {
            return BAD;
        }
        if (n < 0) {
            return SIZE;
        }
        tapes[tape].hold(sort, n);
        return 1;
    }

    public int item(int tape, int i, long v) {
        if (!isTape(tape)) {
            return NONE;
        }
        if (tapes[tape].sort == Tape.EMPTY) {
            return NOTHING;
        }
        if (!tapes[tape].has(i)) {
            return PLACE;
        }
        tapes[tape].put(i, v);
        return 1;
    }

    public long read(int tape, int i) {
        if (!isTape(tape) || !tapes[tape].has(i)) {
            return NO;
        }
        return tapes[tape].items[i];
    }

    public int shift(int tape, int i, int other, int j, int n) {
        if (!isTape(tape) || !isTape(other)) {
            return NONE;
        }
        Tape from = tapes[tape];
        Tape to = tapes[other];
        if (from.sort == Tape.EMPTY || to.sort == Tape.EMPTY) {
            return NOTHING;
        }
        if (from.sort != to.sort) {
            return CAST;
        }
        if (!from.hasRun(i, n) || !to.hasRun(j, n)) {
            return PLACE;
        }
        System.arraycopy(from.items, i, to.items, j, n);
        return n;
    }

    // ---- what the calls share

    private boolean isPerson(int person) {
        return person >= 0 && person < now.crowd.size;
    }

    private static boolean isOff(int n) {
        return n >= -FARTHEST && n <= FARTHEST;
    }

    private static boolean isDue(int n) {
        return n >= 0 && n <= 99;
    }

    private static boolean isDays(int n, int most) {
        return n >= 0 && n <= most;
    }

    private static boolean isTape(int tape) {
        return tape >= 0 && tape < MOST_TAPES;
    }

    private boolean isFraction(int n, int part) {
        return isDays(n, MOST_DAYS) && (part == 0 || part == 1) && now.crowd.size > 0;
    }

    private static boolean isUnder(int kind, int k) {
        int at = kind;
        for (int up = 0; up < KINDS && at != k; up++) {
            at = ABOVE[at];
        }
        return at == k;
    }

    private Town holder() {
        return now.holding >= 0 && now.holding < townCount ? towns[now.holding] : noTown;
    }

    private int ofMorning(int person, int what) {
        if (what < 5 || what > 7) {
            return BELOW + NONE;
        }
        morning.look(now.crowd, holder());
        switch (what) {
            case 5: return morning.lags[person];
            case 6: return morning.comes[person];
            default: return morning.rings[person];
        }
    }

    private void tryDays(int n) {
        trial.become(now.crowd);
        Town town = holder();
        for (int k = 0; k < n; k++) {
            morning.goDay(trial, town);
        }
    }

    private int settles() {
        trial.become(now.crowd);
        for (int k = 0; k <= MOST_DAYS; k++) {
            morning.goDay(trial, holder());
            if (!morning.changed) {
                return k;
            }
        }
        return NEVER;
    }

    private int firstZero(int what) {
        trial.become(now.crowd);
        for (int k = 0; k <= MOST_DAYS; k++) {
            if (trial.wrongOrSpread(what) == 0) {
                return k;
            }
            morning.goDay(trial, holder());
        }
        return NEVER;
    }

    private boolean isAsSeen() {
        int last = now.seen.mostDays();
        for (int k = 0; k <= last; k++) {
            if (!isAsSeenBehind(k)) {
                return false;
            }
            if (k < last) {
                morning.goDay(trial, holder());
            }
        }
        return true;
    }

    private boolean isAsSeenBehind(int days) {
        Notes seen = now.seen;
        for (int k = 0; k < seen.size; k++) {
            if (seen.days[k] == days && trial.offs[seen.people[k]] != seen.second[k]) {
                return false;
            }
        }
        return true;
    }

    private void goRow(int what, int person) {
        switch (what) {
            case 0:
                morning.goDay(trial, holder());
                break;
            case 1:
                trial.aways[person] = true;
                break;
            case 2:
                trial.aways[person] = false;
                break;
            default:
                trial.offs[person] = 0;
                break;
        }
    }

    /** The part of above by the number of PEOPLE; there is somebody. */
    private long inLowestTerms(int above, int part) {
        int below = now.crowd.size;
        int shared = 1;
        for (int d = 2; d <= below; d++) {
            if (above % d == 0 && below % d == 0) {
                shared = d;
            }
        }
        return part == 0 ? above / shared : below / shared;
    }

    /** The PEOPLE with all that is theirs, and the DAY. */
    private static final class Crowd {
        int size;
        int day;
        final int[] kinds = new int[MOST_PEOPLE];
        final int[] numbers = new int[MOST_PEOPLE];
        final int[] dues = new int[MOST_PEOPLE];
        final int[] offs = new int[MOST_PEOPLE];
        final boolean[] aways = new boolean[MOST_PEOPLE];
        final int[] rows = new int[4 * MOST_PEOPLE];

        // Also what lies beyond the others' size is copied, so that it is as new for whoever comes next.
        void become(Crowd other) {
            size = other.size;
            day = other.day;
            System.arraycopy(other.kinds, 0, kinds, 0, MOST_PEOPLE);
            System.arraycopy(other.numbers, 0, numbers, 0, MOST_PEOPLE);
            System.arraycopy(other.dues, 0, dues, 0, MOST_PEOPLE);
            System.arraycopy(other.offs, 0, offs, 0, MOST_PEOPLE);
            System.arraycopy(other.aways, 0, aways, 0, MOST_PEOPLE);
            System.arraycopy(other.rows, 0, rows, 0, 4 * MOST_PEOPLE);
        }

        int join(int kind, int v, int due, int off) {
            int p = size;
            kinds[p] = kind;
            numbers[p] = v;
            dues[p] = due;
            offs[p] = off;
            size++;
            return p;
        }

        int wrongOrSpread(int what) {
            return what == 0 ? worst() : width();
        }

        int worst() {
            int most = 0;
            for (int p = 0; p < size; p++) {
                most = Math.max(most, Math.abs(offs[p]));
            }
            return most;
        }

        int width() {
            if (size == 0) {
                return 0;
            }
            int most = offs[0];
            int least = offs[0];
            for (int p = 1; p < size; p++) {
                most = Math.max(most, offs[p]);
                least = Math.min(least, offs[p]);
            }
            return most - least;
        }

        int together() {
            int sum = 0;
            for (int p = 0; p < size; p++) {
                sum += Math.abs(offs[p]);
            }
            return sum;
        }

        int between(int one, int other) {
            return Math.abs(offs[one] - offs[other]);
        }

        int awayBits() {
            int bits = 0;
            for (int p = 0; p < size; p++) {
                if (aways[p]) {
                    bits |= 1 << p;
                }
            }
            return bits;
        }

        /** What a letter of a TEST tells of one. */
        int quality(int letter, int p) {
            switch (letter) {
                case 0: return p;
                case 1: return kinds[p];
                case 2: return numbers[p];
                case 3: return dues[p] / 10;
                case 4: return offs[p] > 99 || offs[p] < -99 ? 99 : offs[p] < 0 ? -offs[p] : offs[p];
                default: return day % 10;
            }
        }
    }

    /** Rows told by hand: a PERSON and up to two numbers each. */
    private static final class Notes {
        final int most;
        int size;
        final int[] people;
        final int[] second;
        final int[] days;

        Notes(int most) {
            this.most = most;
            people = new int[most];
            second = new int[most];
            days = new int[most];
        }

        int empty() {
            size = 0;
            return 0;
        }

        int add(int person, int number, int n) {
            if (size >= most) {
                return FULL;
            }
            people[size] = person;
            second[size] = number;
            days[size] = n;
            size++;
            return size;
        }

        int mostDays() {
            int last = 0;
            for (int k = 0; k < size; k++) {
                last = Math.max(last, days[k]);
            }
            return last;
        }

        void become(Notes other) {
            size = Math.min(most, other.size);
            for (int k = 0; k < size; k++) {
                people[k] = other.people[k];
                second[k] = other.second[k];
                days[k] = other.days[k];
            }
        }
    }

    /** All that THE IMAGE holds. */
    private static final class Moment {
        final Crowd crowd = new Crowd();
        final Notes seen = new Notes(MOST_SEEN);
        final Notes week = new Notes(MOST_WEEK);
        final Notes book = new Notes(MOST_BOOK);
        int holding = NONE;

        void become(Moment other) {
            crowd.become(other.crowd);
            seen.become(other.seen);
            week.become(other.week);
            book.become(other.book);
            holding = other.holding;
        }
    }

    /** A TOWN's CLAUSES; each E stands in code, operators behind what they work on. */
    private static final class Town {
        int clauses;
        int length;
        int fast;
        int loud = USUAL_LOUD;
        final int[] words = new int[MOST_CLAUSES];
        final int[] minutes = new int[MOST_CLAUSES];
        final int[] ends = new int[MOST_CLAUSES];
        final int[] code = new int[MOST_TEXT];

        void clear() {
            clauses = 0;
            length = 0;
            fast = 0;
            loud = USUAL_LOUD;
        }

        void emit(int step) {
            if (length < MOST_TEXT) {
                code[length] = step;
                length++;
            }
        }

        void close(int word, int n) {
            if (word == FAST) {
                fast = n;
            }
            if (word == LOUD) {
                loud = n;
            }
            if (clauses < MOST_CLAUSES) {
                words[clauses] = word;
                minutes[clauses] = n;
                ends[clauses] = length;
                clauses++;
            }
        }

        int lagOf(Crowd crowd, int p) {
            int sum = 0;
            int from = 0;
            for (int c = 0; c < clauses; c++) {
                if (words[c] == LAG && holds(from, ends[c], crowd, p)) {
                    sum += minutes[c];
                }
                if (words[c] == HASTE && holds(from, ends[c], crowd, p)) {
                    sum -= minutes[c];
                }
                from = ends[c];
            }
            return sum;
        }

        /** The answers that wait are the bits of one number, the newest one lowest. */
        private boolean holds(int from, int to, Crowd crowd, int p) {
            long waiting = 0;
            for (int k = from; k < to; k++) {
                int step = code[k];
                if (step == NOT) {
                    waiting ^= 1;
                } else if (step == AND) {
                    waiting = (waiting >> 1) & (waiting | ~1L);
                } else if (step == OR) {
                    waiting = (waiting >> 1) | (waiting & 1);
                } else {
                    int is = crowd.quality(step >> 9, p);
                    int number = step & 127;
                    int sign = is < number ? 0 : is == number ? 1 : 2;
                    waiting = (waiting << 1) | (sign == ((step >> 7) & 3) ? 1 : 0);
                }
            }
            return (waiting & 1) == 1;
        }
    }

    /** THE TEXT, and the place up to which a TOWN could begin so. */
    private static final class Reader {
        final byte[] text = new byte[MOST_TEXT];
        int size;
        int place;

        int append(int sign) {
            if (size < MOST_TEXT) {
                text[size] = (byte) sign;
                size++;
            }
            return size;
        }

        /** Whether all of THE TEXT is a TOWN; if it is none, place is the FAULT. */
        boolean readTown(Town town) {
            town.clear();
            place = 0;
            boolean good = readClause(town);
            for (int c = 1; c < MOST_CLAUSES && good && isAt(';'); c++) {
                place++;
                good = readClause(town);
            }
            return good && place == size;
        }

        private boolean readClause(Town town) {
            int word = readWord();
            if (word < 0 || !take(' ')) {
                return false;
            }
            int n = readNumber();
            if (n < 0) {
                return false;
            }
            if (word == LAG || word == HASTE) {
                if (!take(' ') || !readEither(town, 0)) {
                    return false;
                }
            }
            town.close(word, n);
            return true;
        }

        private int readWord() {
            int farthest = 0;
            for (int w = 0; w < WORDS; w++) {
                String word = spelling(w);
                int alike = alike(word);
                farthest = Math.max(farthest, alike);
                if (alike == word.length()) {
                    place += alike;
                    return w;
                }
            }
            place += farthest;
            return NONE;
        }

        private static String spelling(int word) {
            switch (word) {
                case LAG: return "lag";
                case HASTE: return "haste";
                case FAST: return "fast";
                default: return "loud";
            }
        }

        private int alike(String word) {
            int most = Math.min(word.length(), size - place);
            for (int k = 0; k < most; k++) {
                if (text[place + k] != word.charAt(k)) {
                    return k;
                }
            }
            return most;
        }

        private boolean readEither(Town town, int within) {
            boolean good = readPart(town, within);
            boolean orWaits = false;
            for (int k = 0; k < MOST_TEXT && good && (isAt('&') || isAt('|')); k++) {
                boolean both = take('&');
                if (!both) {
                    place++;
                    // The side ahead of this | is whole only now.
                    if (orWaits) {
                        town.emit(OR);
                    }
                    orWaits = true;
                }
                good = readPart(town, within);
                if (both) {
                    town.emit(AND);
                }
            }
            if (orWaits) {
                town.emit(OR);
            }
            return good;
        }

        private boolean readPart(Town town, int within) {
            boolean mayNest = within < MOST_WITHIN;
            if (mayNest && take('!')) {
                boolean good = readPart(town, within + 1);
                town.emit(NOT);
                return good;
            }
            if (mayNest && take('(')) {
                return readEither(town, within + 1) && take(')');
            }
            return readTest(town);
        }

        private boolean readTest(Town town) {
            int letter = readOneOf(LETTERS);
            if (letter < 0) {
                return false;
            }
            int sign = readOneOf(SIGNS);
            if (sign < 0) {
                return false;
            }
            int number = readNumber();
            if (number < 0) {
                return false;
            }
            town.emit((letter << 9) | (sign << 7) | number);
            return true;
        }

        private int readOneOf(String signs) {
            if (place >= size) {
                return NONE;
            }
            int found = signs.indexOf((char) text[place]);
            if (found >= 0) {
                place++;
            }
            return found;
        }

        private int readNumber() {
            if (!isAtDigit()) {
                return NONE;
            }
            int n = text[place] - '0';
            place++;
            if (isAtDigit()) {
                n = 10 * n + text[place] - '0';
                place++;
            }
            return n;
        }

        private boolean isAtDigit() {
            return place < size && text[place] >= '0' && text[place] <= '9';
        }

        private boolean isAt(char sign) {
            return place < size && text[place] == sign;
        }

        private boolean take(char sign) {
            if (!isAt(sign)) {
                return false;
            }
            place++;
            return true;
        }
    }

    /** How a DAY goes. */
    private static final class Morning {
        final int[] lags = new int[MOST_PEOPLE];
        final int[] comes = new int[MOST_PEOPLE];
        final int[] rings = new int[MOST_PEOPLE];
        final int[] order = new int[MOST_PEOPLE];
        int ringers;
        int punctual = NONE;
        boolean changed;

        void goDays(Crowd crowd, Town town, int n) {
            for (int k = 0; k < n; k++) {
                goDay(crowd, town);
            }
        }

        void goDay(Crowd crowd, Town town) {
            look(crowd, town);
            line(crowd);
            changed = false;
            for (int k = 0; k < ringers; k++) {
                hear(crowd, town, order[k]);
            }
            for (int p = 0; p < crowd.size; p++) {
                crowd.offs[p] = held(crowd.offs[p] + town.fast);
            }
            crowd.day++;
        }

        /** LAG, COMES and RINGS of all, by how all is. */
        void look(Crowd crowd, Town town) {
            for (int p = 0; p < crowd.size; p++) {
                lags[p] = p == punctual ? 0 : town.lagOf(crowd, p);
                comes[p] = crowd.dues[p] + lags[p] - crowd.offs[p];
            }
            for (int p = 0; p < crowd.size; p++) {
                rings[p] = isLate(crowd, p) ? ringing(crowd, comes[p]) : 0;
            }
        }

        private boolean isLate(Crowd crowd, int p) {
            return !crowd.aways[p] && lags[p] > 0;
        }

        private int ringing(Crowd crowd, int minute) {
            int sum = 0;
            for (int p = 0; p < crowd.size; p++) {
                if (isLate(crowd, p) && comes[p] == minute) {
                    sum += lags[p];
                }
            }
            return sum;
        }

        /** Those who RING, in the order in which they COME. */
        private void line(Crowd crowd) {
            ringers = 0;
            for (int p = 0; p < crowd.size; p++) {
                if (rings[p] > 0) {
                    int k = ringers;
                    for (; k > 0 && comes[order[k - 1]] > comes[p]; k--) {
                        order[k] = order[k - 1];
                    }
                    order[k] = p;
                    ringers++;
                }
            }
        }

        private void hear(Crowd crowd, Town town, int ringer) {
            for (int p = 0; p < crowd.size; p++) {
                if (p != ringer && !crowd.aways[p]) {
                    int off = held(heard(crowd, town.loud, p, ringer));
                    changed = changed || off != crowd.offs[p];
                    crowd.offs[p] = off;
                }
            }
        }

        private int heard(Crowd crowd, int loud, int p, int ringer) {
            int own = crowd.offs[p];
            int other = crowd.offs[ringer];
            int half = (other - own) / 2;
            if (rings[ringer] < crowd.numbers[p]) {
                return own;
            }
            switch (crowd.kinds[p]) {
                case PERSON: return other;
                case CAREFUL: return own + half;
                case DEAF: return rings[ringer] >= loud ? other : own;
                case VAIN: return ringer < p ? other : own;
                case SLOW: return own + Math.max(-1, Math.min(1, half));
                case TOLD: return ringer < p ? other + crowd.rows[4 * p + crowd.day % 4] : own;
                default: return own;
            }
        }

        private static int held(int off) {
            return Math.max(-FARTHEST, Math.min(FARTHEST, off));
        }
    }

    /** The ACTS, and THE TRACE of the latest one. */
    private static final class Actor {
        final int[] bodies = new int[MOST_TRACE];
        int ran;
        private int kind;
        private int v;
        private int i;

        int play(Crowd crowd, int person, int act, int x) {
            kind = crowd.kinds[person];
            v = crowd.numbers[person];
            i = person;
            return perform(kind, act, x, 0);
        }

        /** The body of an ACT that stands in a KIND, or in the next one above that has one. */
        private int perform(int from, int act, int x, int depth) {
            if (depth >= DEEPEST) {
                return 0;
            }
            int at = from;
            for (int up = 0; up < KINDS && bodyIn(at, act) == 0; up++) {
                at = ABOVE[at];
            }
            int body = bodyIn(at, act);
            begin(body);
            int d = depth + 1;
            switch (body) {
                case 10: return x + i;
                case 11: return perform(kind, WAKES, x, d) - v;
                case 12: return perform(kind, RINGS, x, d) * 2;
                case 20: return perform(PERSON, RINGS, x, d) ^ 6;
                case 30: return perform(PERSON, WAKES, x * 3, d);
                case 40: return perform(PERSON, TELLS, x, d) + perform(kind, RINGS, 1, d);
                case 50: return -perform(CAREFUL, WAKES, x, d);
                case 51: return perform(CAREFUL, RINGS, x + 1, d);
                case 60: return perform(DEAF, TELLS, x - i, d);
                case 70: return perform(VAIN, RINGS, x, d) + perform(VAIN, WAKES, 2, d);
                case 71: return perform(VAIN, WAKES, x, d) ^ v;
                default: return 0;
            }
        }

        private void begin(int body) {
            if (ran < MOST_TRACE) {
                bodies[ran] = body;
            }
            ran++;
        }

        private static int bodyIn(int kind, int act) {
            switch (kind) {
                case PERSON: return 10 + act;
                case CAREFUL: return act == RINGS ? 20 : 0;
                case DEAF: return act == WAKES ? 30 : 0;
                case VAIN: return act == TELLS ? 40 : 0;
                case SLOW: return act == WAKES ? 50 : act == RINGS ? 51 : 0;
                case STUBBORN: return act == TELLS ? 60 : 0;
                default: return act == RINGS ? 70 : act == WAKES ? 71 : 0;
            }
        }
    }

    /** A TAPE; its items are held as longs, cut to what its sort has room for. */
    private static final class Tape {
        static final int EMPTY = -1;

        int sort = EMPTY;
        int size;
        final long[] items = new long[MOST_ITEMS];

        void hold(int newSort, int n) {
            sort = newSort;
            size = n;
            for (int k = 0; k < MOST_ITEMS; k++) {
                items[k] = 0;
            }
        }

        boolean has(int place) {
            return place >= 0 && place < size;
        }

        boolean hasRun(int place, int n) {
            return place >= 0 && n >= 0 && n <= size && place <= size - n;
        }

        void put(int place, long v) {
            switch (sort) {
                case BYTES:
                    items[place] = (byte) v;
                    break;
                case SHORTS:
                    items[place] = (short) v;
                    break;
                case INTS:
                    items[place] = (int) v;
                    break;
                case LONGS:
                    items[place] = v;
                    break;
                default:
                    items[place] = v != 0 ? 1 : 0;
                    break;
            }
        }
    }
}
