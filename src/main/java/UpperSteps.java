/**
 * Library steps for the upper opinions: books in bays at heights, readers who climb for them and get
 * dizzy, days that are run, asked about, guessed at and drawn by lot. DOC.md tells every call.
 *
 * <p>All rows are made with the object and used again, so that no call makes anything new. What is
 * tried out is tried on {@code trial}, never on {@code house}.
 */
public final class UpperSteps {
    public static final int BAD = -1, STATE = -2, FULL = -3, NONE = -4;

    private static final int MAX_BOOKS = 8, MAX_READERS = 4;
    private static final int LAST_BAY = 7, LAST_HEIGHT = 9, LAST_KIND = 3, MOST_BEARS = 99;
    private static final int GUEST = 0, NEPHEW = 1, LORD = 2, MAID = 3;
    /** How callers and texts say "no BOOK"; inside, it is held as NONE. */
    private static final int SAYS_NONE = 9;
    private static final int LAST_CLOCK = 9999, LAST_DAY = 999;
    /** Above the minutes that any DAYS can take. */
    private static final int MORE_THAN_ANY = 1000000;
    private static final int DAYS_AT_ONCE = 30, DAYS_AHEAD = 60, DAYS_SEEN = 20, DAYS_OF_LUCK = 8;
    private static final int TAPE_SIZE = 160, LAST_BYTE = 127;
    private static final int MOST_SEEN = 6, IMAGES = 2;
    private static final int SHEETS = 4, LAST_LANE = 2, MOST_CELLS = 40, MOST_READ = 20;
    private static final int NULL_FAULT = 1, INDEX_FAULT = 2, CAST_FAULT = 3, SIZE_FAULT = 4;
    private static final int ORDERS = 24;

    private final House house = new House();
    private final House trial = new House();
    private final Parser parser = new Parser();
    private int textFault;

    private final Sightings sightings = new Sightings();
    private final Image[] images = new Image[IMAGES];

    private final Sheet[] sheets = new Sheet[SHEETS];
    private int readFault;

    private final int[] orderTried = new int[MAX_READERS];
    private final int[] orderFound = new int[MAX_READERS];
    private final RunningSteps running = new RunningSteps();
    private final Outlook outlook = new Outlook();

    public UpperSteps() {
        for (int k = 0; k < IMAGES; k++) {
            images[k] = new Image();
        }
        for (int k = 0; k < SHEETS; k++) {
            sheets[k] = new Sheet();
        }
    }

    // ---- the text

    public int feed(int c) {
        if (outside(c, 0, LAST_BYTE)) {
            return BAD;
        }
        Tape tape = parser.tape;
        if (tape.length >= TAPE_SIZE) {
            return FULL;
        }
        tape.bytes[tape.length] = (byte) c;
        tape.length++;
        return tape.length;
    }

    public int end(int n) {
        Tape tape = parser.tape;
        if (outside(n, 0, tape.length)) {
            return BAD;
        }
        int had = tape.length;
        tape.length = n;
        return had;
    }

    public int text() {
        parser.begin();
        // A line takes more than a byte, so there are fewer lines than bytes.
        for (int i = 0; i < TAPE_SIZE && parser.isAtLine(); i++) {
            parser.parseLine();
        }
        parser.finish();
        parser.tape.length = 0;
        textFault = parser.faultFound;
        if (textFault != 0) {
            return -10 - parser.faultPlace;
        }
        house.copyFrom(parser.house);
        sightings.size = 0;
        for (int k = 0; k < IMAGES; k++) {
            images[k].taken = false;
        }
        return parser.lines;
    }

    public int fault() {
        return textFault;
    }

    public int rule(int what) {
        switch (what) {
            case 0: return house.books;
            case 1: return house.readers;
            case 2: return house.stepsAt;
            case 3: return house.clock;
            case 4: return house.day;
            case 5: return house.whoAreDone();
            default: return BAD;
        }
    }

    public int book(int b, int what) {
        if (!house.hasBook(b)) {
            return BAD;
        }
        switch (what) {
            case 0: return house.bay[b];
            case 1: return house.height[b];
            case 2: return house.leads[b];
            case 3: return house.whoHad(b);
            default: return BAD;
        }
    }

    public int reader(int r, int what) {
        if (!house.hasReader(r)) {
            return BAD;
        }
        switch (what) {
            case 0: return house.kind[r];
            case 1: return house.wants[r];
            case 2: return house.bears[r];
            case 3: return house.had[r];
            case 4: return house.isDone(r) ? NONE : house.minutesFor(r, house.wants[r]);
            case 5: return house.isDone(r) ? NONE : house.dizzyBy(r, house.wants[r]);
            default: return BAD;
        }
    }

    // ---- what is changed

    public int shelve(int b, int what, int v) {
        if (!house.hasBook(b)) {
            return BAD;
        }
        switch (what) {
            case 0: return outside(v, 0, LAST_BAY) ? BAD : replace(house.bay, b, v);
            case 1: return outside(v, 0, LAST_HEIGHT) ? BAD : replace(house.height, b, v);
            case 2: return house.isBookOrNone(v) ? replace(house.leads, b, bookSaid(v)) : BAD;
            default: return BAD;
        }
    }

    public int alter(int r, int what, int v) {
        if (!house.hasReader(r)) {
            return BAD;
        }
        switch (what) {
            case 0: return outside(v, 0, LAST_KIND) ? BAD : replace(house.kind, r, v);
            case 1: return house.isBookOrNone(v) ? replace(house.wants, r, bookSaid(v)) : BAD;
            case 2: return outside(v, 1, MOST_BEARS) ? BAD : replace(house.bears, r, v);
            default: return BAD;
        }
    }

    public int roll(int v) {
        if (outside(v, 0, LAST_BAY)) {
            return BAD;
        }
        int was = house.stepsAt;
        house.stepsAt = v;
        return was;
    }

    public int forgets(int r) {
        if (!house.hasReader(r)) {
            return BAD;
        }
        return Integer.bitCount(replace(house.had, r, 0));
    }

    public int fetch(int r, int b) {
        int refused = house.refusalOf(r, b);
        return refused == 0 ? house.bring(r, b) : refused;
    }

    // ---- days

    public int days(int n) {
        if (outside(n, 0, DAYS_AT_ONCE)) {
            return BAD;
        }
        if (house.day + n > LAST_DAY) {
            return FULL;
        }
        beginTrial();
        trial.passDays(n);
        if (trial.clock > LAST_CLOCK) {
            return FULL;
        }
        int fetched = trial.fetched;
        house.copyFrom(trial);
        return fetched;
    }

    public int runs(int n, int what) {
        if (outside(n, 0, DAYS_AHEAD) || outside(what, 0, 3)) {
            return BAD;
        }
        beginTrial();
        if (what == 3) {
            return daysTillAllDone(n);
        }
        trial.passDays(n);
        switch (what) {
            case 0: return trial.fetched;
            case 1: return trialMinutes();
            default: return trial.vertigos;
        }
    }

    public int ahead(int r, int n, int what) {
        if (!house.hasReader(r) || outside(n, 0, DAYS_AHEAD) || outside(what, 0, 1)) {
            return BAD;
        }
        beginTrial();
        trial.passDaysOf(r, n);
        return what == 0 ? trial.wants[r] : trial.had[r];
    }

    public int done(int r) {
        if (!house.hasReader(r)) {
            return BAD;
        }
        beginTrial();
        return trial.daysTillDone(r, DAYS_AHEAD);
    }

    public int vertigo(int r) {
        if (!house.hasReader(r)) {
            return BAD;
        }
        beginTrial();
        return trial.spendDay(r);
    }

    // ---- what is best

    public int order(int what) {
        if (what != 0 && outside(what, 10, 9 + house.readers)) {
            return BAD;
        }
        int minutes = findOrder();
        return what == 0 ? minutes : orderFound[what - 10];
    }

    public int start(int n, int what) {
        if (outside(n, 0, DAYS_AHEAD) || outside(what, 0, 1)) {
            return BAD;
        }
        int found = NONE;
        int least = MORE_THAN_ANY;
        for (int at = 0; at <= LAST_BAY; at++) {
            beginTrial();
            trial.stepsAt = at;
            trial.passDaysTillStill(n);
            if (trialMinutes() < least) {
                least = trialMinutes();
                found = at;
            }
        }
        return what == 0 ? found : least;
    }

    public int swap(int n, int what) {
        if (outside(n, 0, DAYS_AHEAD) || outside(what, 0, 1)) {
            return BAD;
        }
        beginTrial();
        trial.passDaysTillStill(n);
        int found = NONE;
        int most = trial.fetched;
        for (int a = 0; a < house.books; a++) {
            for (int b = a + 1; b < house.books; b++) {
                beginTrial();
                trial.changePlaces(a, b);
                trial.passDaysTillStill(n);
                if (trial.fetched > most) {
                    most = trial.fetched;
                    found = 10 * a + b;
                }
            }
        }
        return found == NONE || what == 0 ? found : most;
    }

    public int knee(int r, int what) {
        if (!house.hasReader(r) || outside(what, 0, 1)) {
            return BAD;
        }
        int found = NONE;
        int soonest = DAYS_AHEAD + 1;
        for (int b = 0; b < house.books; b++) {
            beginTrial();
            trial.height[b] = 0;
            int behind = trial.daysTillDone(r, DAYS_AHEAD);
            if (behind != NONE && behind < soonest) {
                soonest = behind;
                found = b;
            }
        }
        return found == NONE || what == 0 ? found : soonest;
    }

    public int need(int r, int n) {
        if (!house.hasReader(r) || outside(n, 0, DAYS_AHEAD)) {
            return BAD;
        }
        for (int bears = 1; bears <= MOST_BEARS; bears++) {
            beginTrial();
            trial.bears[r] = bears;
            if (trial.daysTillDone(r, n) != NONE) {
                return bears;
            }
        }
        return NONE;
    }

    public int high(int b, int r, int n) {
        if (!house.hasBook(b) || !house.hasReader(r) || outside(n, 0, DAYS_AHEAD)) {
            return BAD;
        }
        for (int height = LAST_HEIGHT; height >= 0; height--) {
            beginTrial();
            trial.height[b] = height;
            trial.passDaysOf(r, n);
            if (trial.hasHad(r, b)) {
                return height;
            }
        }
        return NONE;
    }

    // ---- days on which the steps run

    public long luck(int v, int n, int most, int what) {
        if (outside(v, 0, 10) || outside(n, 0, DAYS_OF_LUCK) || outside(most, 0, LAST_CLOCK) || outside(what, 0, 1)) {
            return BAD;
        }
        running.foresee(house, trial, n);
        long all = 1;
        for (int i = 0; i < n; i++) {
            all *= 10;
        }
        return partOfFraction(running.weightWithin(v, most), all, what);
    }

    public long mean(int v, int n, int what) {
        if (outside(v, 0, 10) || outside(n, 0, DAYS_OF_LUCK) || outside(what, 0, 1)) {
            return BAD;
        }
        running.foresee(house, trial, n);
        return partOfFraction(running.tenTimesMean(v), 10, what);
    }

    // ---- who wanted what when

    public int see(int n, int r, int w) {
        if (outside(n, 0, DAYS_SEEN) || !house.hasReader(r) || !tellsBookOrNone(w)) {
            return BAD;
        }
        if (sightings.size >= MOST_SEEN) {
            return FULL;
        }
        sightings.put(n, r, bookSaid(w));
        return sightings.size;
    }

    public int forget(int n) {
        if (outside(n, 0, sightings.size)) {
            return BAD;
        }
        int were = sightings.size;
        sightings.size = n;
        return were;
    }

    public int kinds(int r) {
        if (!house.hasReader(r)) {
            return BAD;
        }
        int bits = 0;
        for (int kind = 0; kind <= LAST_KIND; kind++) {
            beginTrial();
            trial.kind[r] = kind;
            if (sightings.agreeWith(trial)) {
                bits |= 1 << kind;
            }
        }
        return bits;
    }

    public int heights(int b) {
        return house.hasBook(b) ? heightsAsSeen(b) : BAD;
    }

    public int ask(int b, int what) {
        if (!house.hasBook(b) || outside(what, 0, 1)) {
            return BAD;
        }
        int possible = heightsAsSeen(b);
        outlook.foresee(house, trial, b, possible);
        int found = NONE;
        int fewest = Integer.bitCount(possible);
        for (int n = 0; n <= DAYS_SEEN; n++) {
            for (int r = 0; r < house.readers; r++) {
                int left = outlook.mostLeft(possible, n, r);
                if (left < fewest) {
                    fewest = left;
                    found = 10 * n + r;
                }
            }
        }
        return found == NONE || what == 0 ? found : fewest;
    }

    // ---- by a seed

    public int drift(int seed, int n, int what) {
        if (outside(n, 1, DAYS_AHEAD) || outside(what, 0, 1)) {
            return BAD;
        }
        int books = house.books;
        int readers = house.readers;
        if (books <= 0 || readers <= 0) {
            return STATE;
        }
        beginTrial();
        int now = seed;
        for (int i = 0; i < n; i++) {
            now = now * 1103515245 + 12345;
            int got = (now >>> 16) & 0x7fff;
            int r = got % readers;
            trial.wants[r] = got / 8 % books;
            trial.had[r] = 0;
            trial.stepsAt = got / 64 % 8;
            trial.passDay();
        }
        return what == 0 ? trial.fetched : trialMinutes();
    }

    // ---- images, sheets

    public int keep(int k) {
        if (outside(k, 0, IMAGES - 1)) {
            return BAD;
        }
        int was = images[k].taken ? 1 : 0;
        images[k].house.copyFrom(house);
        images[k].sightings.copyFrom(sightings);
        images[k].taken = true;
        return was;
    }

    public int back(int k) {
        if (outside(k, 0, IMAGES - 1)) {
            return BAD;
        }
        if (!images[k].taken) {
            return STATE;
        }
        house.copyFrom(images[k].house);
        sightings.copyFrom(images[k].sightings);
        return house.clock;
    }

    public int sheet(int k, int lane, int n) {
        if (outside(k, 0, SHEETS - 1) || outside(lane, 0, LAST_LANE) || n > MOST_CELLS) {
            return BAD;
        }
        if (n < 0) {
            return -10 - SIZE_FAULT;
        }
        sheets[k].renew(lane, n);
        return 1;
    }

    public int lay(int k, int i, int v) {
        if (outside(k, 0, SHEETS - 1)) {
            return BAD;
        }
        Sheet sheet = sheets[k];
        int found = sheet.faultAt(sheet.lane, i);
        if (found != 0) {
            return -10 - found;
        }
        sheet.put(i, v);
        return 1;
    }

    public int read(int k, int lane, int f, int n) {
        if (outside(k, 0, SHEETS - 1) || outside(lane, 0, LAST_LANE) || outside(n, 0, MOST_READ)) {
            return BAD;
        }
        Sheet sheet = sheets[k];
        beginTrial();
        int came = 0;
        int found = 0;
        for (int i = 0; i < n; i++) {
            int cell = f + 2 * i;
            found = sheet.faultOfPair(lane, cell);
            if (found != 0) {
                break;
            }
            int r = sheet.cells[cell];
            int b = sheet.cells[cell + 1];
            if (trial.refusalOf(r, b) != 0) {
                return -20 - i;
            }
            trial.bring(r, b);
            came++;
        }
        house.copyFrom(trial);
        readFault = found;
        return came;
    }

    public int torn() {
        return readFault;
    }

    public int count(int what) {
        switch (what) {
            case 0: return sightings.size;
            case 1: return imagesTaken();
            case 2: return parser.tape.length;
            case 3: return sheets[0].lane == NONE ? NONE : sheets[0].size;
            case 4: return sumOf(house.height, house.books);
            case 5: return sumOf(house.bears, house.readers);
            default: return BAD;
        }
    }

    // ---- helpers

    private static boolean outside(int x, int least, int most) {
        return x < least || x > most;
    }

    /** Whether a number can be said of what was SEEN: the BOOK need not be there, but then nothing is as SEEN. */
    private static boolean tellsBookOrNone(int v) {
        return v == SAYS_NONE || !outside(v, 0, MAX_BOOKS - 1);
    }

    private static int bookSaid(int v) {
        return v == SAYS_NONE ? NONE : v;
    }

    /** Puts v into a place that the caller has looked at, and answers what was there. */
    private static int replace(int[] row, int place, int v) {
        int was = row[place];
        row[place] = v;
        return was;
    }

    private static int sumOf(int[] row, int size) {
        int sum = 0;
        for (int i = 0; i < size; i++) {
            sum += row[i];
        }
        return sum;
    }

    /** The numerator (part 0) or the denominator (part 1) in lowest terms. */
    private static long partOfFraction(long numerator, long denominator, int part) {
        long a = denominator;
        long b = numerator;
        // Euclid on longs ends within a hundred divisions.
        for (int i = 0; i < 100 && b != 0; i++) {
            long rest = a % b;
            a = b;
            b = rest;
        }
        if (a == 0) {
            return BAD;
        }
        return (part == 0 ? numerator : denominator) / a;
    }

    private void beginTrial() {
        trial.copyFrom(house);
    }

    private int trialMinutes() {
        return trial.clock - house.clock;
    }

    private int daysTillAllDone(int n) {
        int all = (1 << trial.readers) - 1;
        for (int behind = 0; behind <= n; behind++) {
            if (trial.whoAreDone() == all) {
                return behind;
            }
            trial.passDay();
        }
        return NONE;
    }

    /** Leaves the first of the best orders in orderFound and answers its minutes. */
    private int findOrder() {
        int readers = house.readers;
        for (int i = 0; i < readers; i++) {
            orderTried[i] = i;
        }
        int least = MORE_THAN_ANY;
        boolean more = true;
        for (int i = 0; i < ORDERS && more; i++) {
            beginTrial();
            for (int place = 0; place < readers; place++) {
                trial.spendDay(orderTried[place]);
            }
            if (trialMinutes() < least) {
                least = trialMinutes();
                System.arraycopy(orderTried, 0, orderFound, 0, readers);
            }
            more = turnToNextOrder(orderTried, readers);
        }
        return least;
    }

    /** The row that comes next when rows are sorted place by place; false behind the last. */
    private static boolean turnToNextOrder(int[] row, int size) {
        int rise = size - 2;
        while (rise >= 0 && row[rise] > row[rise + 1]) {
            rise--;
        }
        if (rise < 0) {
            return false;
        }
        int above = size - 1;
        while (above > rise && row[above] < row[rise]) {
            above--;
        }
        exchange(row, rise, above);
        int right = size - 1;
        for (int left = rise + 1; left < right; left++) {
            exchange(row, left, right);
            right--;
        }
        return true;
    }

    private static void exchange(int[] row, int a, int b) {
        row[a] = replace(row, b, row[a]);
    }

    private int heightsAsSeen(int b) {
        int bits = 0;
        for (int height = 0; height <= LAST_HEIGHT; height++) {
            beginTrial();
            trial.height[b] = height;
            if (sightings.agreeWith(trial)) {
                bits |= 1 << height;
            }
        }
        return bits;
    }

    private int imagesTaken() {
        int taken = 0;
        for (int k = 0; k < IMAGES; k++) {
            if (images[k].taken) {
                taken++;
            }
        }
        return taken;
    }

    /** BOOKS, READERS, THE STEPS and the time, with the rules by which a DAY goes. */
    private static final class House {
        int books;
        final int[] bay = new int[MAX_BOOKS];
        final int[] height = new int[MAX_BOOKS];
        final int[] leads = new int[MAX_BOOKS];
        int readers;
        final int[] kind = new int[MAX_READERS];
        final int[] wants = new int[MAX_READERS];
        final int[] bears = new int[MAX_READERS];
        final int[] had = new int[MAX_READERS];
        int stepsAt;
        int clock;
        int day;
        /** Tallies since this house was cleared or copied. */
        int fetched;
        int vertigos;

        void clear() {
            books = 0;
            readers = 0;
            stepsAt = 0;
            clock = 0;
            day = 0;
            fetched = 0;
            vertigos = 0;
        }

        void copyFrom(House other) {
            books = other.books;
            System.arraycopy(other.bay, 0, bay, 0, MAX_BOOKS);
            System.arraycopy(other.height, 0, height, 0, MAX_BOOKS);
            System.arraycopy(other.leads, 0, leads, 0, MAX_BOOKS);
            readers = other.readers;
            System.arraycopy(other.kind, 0, kind, 0, MAX_READERS);
            System.arraycopy(other.wants, 0, wants, 0, MAX_READERS);
            System.arraycopy(other.bears, 0, bears, 0, MAX_READERS);
            System.arraycopy(other.had, 0, had, 0, MAX_READERS);
            stepsAt = other.stepsAt;
            clock = other.clock;
            day = other.day;
            fetched = 0;
            vertigos = 0;
        }

        void addBook(int itsBay, int itsHeight, int leadsTo) {
            if (books < MAX_BOOKS) {
                bay[books] = itsBay;
                height[books] = itsHeight;
                leads[books] = leadsTo;
                books++;
            }
        }

        void addReader(int itsKind, int itWants, int itBears) {
            if (readers < MAX_READERS) {
                kind[readers] = itsKind;
                wants[readers] = itWants;
                bears[readers] = itBears;
                had[readers] = 0;
                readers++;
            }
        }

        boolean hasBook(int b) {
            return 0 <= b && b < books;
        }

        boolean hasReader(int r) {
            return 0 <= r && r < readers;
        }

        /** Whether a caller's number names a BOOK that there is, or says that there is to be none. */
        boolean isBookOrNone(int v) {
            return v == SAYS_NONE || hasBook(v);
        }

        boolean isDone(int r) {
            return !hasBook(wants[r]);
        }

        boolean hasHad(int r, int b) {
            return (had[r] >> b & 1) != 0;
        }

        int whoAreDone() {
            int bits = 0;
            for (int r = 0; r < readers; r++) {
                if (isDone(r)) {
                    bits |= 1 << r;
                }
            }
            return bits;
        }

        int whoHad(int b) {
            int bits = 0;
            for (int r = 0; r < readers; r++) {
                if (hasHad(r, b)) {
                    bits |= 1 << r;
                }
            }
            return bits;
        }

        int minutesFor(int r, int b) {
            int guest = height[b];
            int nephew = 2 * guest;
            int rolled = Math.abs(bay[b] - stepsAt);
            switch (kind[r]) {
                case NEPHEW: return rolled + 2 * nephew;
                case LORD: return rolled + 2 * ((guest + 1) / 2);
                case MAID: return rolled + 2 * (nephew / 2 + 1);
                default: return rolled + 2 * guest;
            }
        }

        int dizzyBy(int r, int b) {
            int guest = height[b];
            int nephew = guest + Math.max(0, guest - 5);
            switch (kind[r]) {
                case NEPHEW: return nephew;
                case LORD: return 2 * guest;
                case MAID: return nephew / 3;
                default: return guest;
            }
        }

        /** Why a READER may not FETCH a BOOK out of a DAY; 0 if he may. */
        int refusalOf(int r, int b) {
            if (!hasReader(r) || !hasBook(b)) {
                return BAD;
            }
            if (hasHad(r, b)) {
                return STATE;
            }
            return clock + minutesFor(r, b) > LAST_CLOCK ? FULL : 0;
        }

        int bring(int r, int b) {
            int minutes = minutesFor(r, b);
            clock += minutes;
            stepsAt = bay[b];
            had[r] |= 1 << b;
            fetched++;
            return minutes;
        }

        /** One READER's part of a DAY: the BOOK by which he has VERTIGO, or NONE. */
        int spendDay(int r) {
            int dizzy = 0;
            // Each turn FETCHES a BOOK that he has not HAD, or is the last.
            for (int turn = 0; turn <= MAX_BOOKS && !isDone(r); turn++) {
                int b = wants[r];
                int more = dizzyBy(r, b);
                if (hasHad(r, b)) {
                    wants[r] = NONE;
                } else if (dizzy + more > bears[r]) {
                    vertigos++;
                    return b;
                } else {
                    bring(r, b);
                    dizzy += more;
                    wants[r] = leads[b];
                }
            }
            return NONE;
        }

        void passDay() {
            for (int r = 0; r < readers; r++) {
                spendDay(r);
            }
            day++;
        }

        void passDays(int n) {
            for (int i = 0; i < n; i++) {
                passDay();
            }
        }

        /** As passDays, but for DAY and VERTIGOS: behind a DAY without a fetching all stays as it is. */
        void passDaysTillStill(int n) {
            int before = -1;
            for (int i = 0; i < n && fetched > before; i++) {
                before = fetched;
                passDay();
            }
        }

        /** One READER's DAYS alone: what he reads does not depend on the others, only the minutes do. */
        void passDaysOf(int r, int n) {
            int before = -1;
            for (int i = 0; i < n && fetched > before; i++) {
                before = fetched;
                spendDay(r);
            }
        }

        /** Behind how many DAYS (0 to n) a READER is DONE first; NONE. */
        int daysTillDone(int r, int n) {
            boolean stuck = false;
            for (int behind = 0; behind <= n && !stuck; behind++) {
                if (isDone(r)) {
                    return behind;
                }
                int before = fetched;
                stuck = spendDay(r) != NONE && fetched == before;
            }
            return NONE;
        }

        void changePlaces(int a, int b) {
            exchange(bay, a, b);
            exchange(height, a, b);
        }
    }

    /** What was SEEN: behind so many DAYS a READER WANTS a BOOK, or none. */
    private static final class Sightings {
        int size;
        final int[] behind = new int[MOST_SEEN];
        final int[] who = new int[MOST_SEEN];
        final int[] wanted = new int[MOST_SEEN];

        void put(int n, int r, int b) {
            if (size < MOST_SEEN) {
                behind[size] = n;
                who[size] = r;
                wanted[size] = b;
                size++;
            }
        }

        void copyFrom(Sightings other) {
            size = other.size;
            System.arraycopy(other.behind, 0, behind, 0, MOST_SEEN);
            System.arraycopy(other.who, 0, who, 0, MOST_SEEN);
            System.arraycopy(other.wanted, 0, wanted, 0, MOST_SEEN);
        }

        /** Whether all is as SEEN when that house's DAYS go on (it is used up by this). */
        boolean agreeWith(House house) {
            int last = lastBehind();
            for (int n = 0; n <= last; n++) {
                for (int i = 0; i < size; i++) {
                    if (behind[i] == n && house.wants[who[i]] != wanted[i]) {
                        return false;
                    }
                }
                house.passDay();
            }
            return true;
        }

        private int lastBehind() {
            int last = -1;
            for (int i = 0; i < size; i++) {
                last = Math.max(last, behind[i]);
            }
            return last;
        }
    }

    /** An IMAGE of all that may be had back. */
    private static final class Image {
        boolean taken;
        final House house = new House();
        final Sightings sightings = new Sightings();
    }

    /** What each READER would WANT behind each number of DAYS, for each HEIGHT of one BOOK. */
    private static final class Outlook {
        private final int[][] wanted = new int[LAST_HEIGHT + 1][(DAYS_SEEN + 1) * MAX_READERS];
        /** How many HEIGHTS lead to each BOOK, and to none (the last place). */
        private final int[] parts = new int[MAX_BOOKS + 1];

        void foresee(House house, House trial, int b, int possible) {
            for (int height = 0; height <= LAST_HEIGHT; height++) {
                if ((possible >> height & 1) != 0) {
                    trial.copyFrom(house);
                    trial.height[b] = height;
                    note(trial, wanted[height]);
                }
            }
        }

        private static void note(House trial, int[] row) {
            for (int n = 0; n <= DAYS_SEEN; n++) {
                for (int r = 0; r < trial.readers; r++) {
                    row[n * MAX_READERS + r] = trial.isDone(r) ? MAX_BOOKS : trial.wants[r];
                }
                trial.passDay();
            }
        }

        /** How many of the possible HEIGHTS one answer leaves at the worst. */
        int mostLeft(int possible, int n, int r) {
            for (int part = 0; part <= MAX_BOOKS; part++) {
                parts[part] = 0;
            }
            int most = 0;
            for (int height = 0; height <= LAST_HEIGHT; height++) {
                if ((possible >> height & 1) != 0) {
                    int part = wanted[height][n * MAX_READERS + r];
                    parts[part]++;
                    most = Math.max(most, parts[part]);
                }
            }
            return most;
        }
    }

    /**
     * DAYS ahead of each of which the steps may run to the last BAY. A DAY with a fetching ends at the
     * same BAY whether they ran or not, and behind a DAY without one there is none with one: so each DAY
     * has but two lengths, whatever the others were.
     */
    private static final class RunningSteps {
        private int days;
        private final int[] whenStill = new int[DAYS_OF_LUCK];
        private final int[] whenRun = new int[DAYS_OF_LUCK];
        private final House other = new House();

        void foresee(House house, House trial, int n) {
            days = Math.min(n, DAYS_OF_LUCK);
            trial.copyFrom(house);
            for (int i = 0; i < days; i++) {
                int began = trial.clock;
                other.copyFrom(trial);
                other.stepsAt = LAST_BAY;
                other.passDay();
                whenRun[i] = other.clock - began;
                trial.passDay();
                whenStill[i] = trial.clock - began;
            }
        }

        /** Of ten to the power of the DAYS, how much falls on those that take so many minutes at most. */
        long weightWithin(int v, int most) {
            long within = 0;
            for (int pattern = 0; pattern < 1 << days; pattern++) {
                int minutes = 0;
                long weight = 1;
                for (int i = 0; i < days; i++) {
                    boolean run = (pattern >> i & 1) != 0;
                    minutes += run ? whenRun[i] : whenStill[i];
                    weight *= run ? v : 10 - v;
                }
                if (minutes <= most) {
                    within += weight;
                }
            }
            return within;
        }

        long tenTimesMean(int v) {
            long sum = 0;
            for (int i = 0; i < days; i++) {
                sum += (long) v * whenRun[i] + (long) (10 - v) * whenStill[i];
            }
            return sum;
        }
    }

    /** A row of CELLS of a lane, or nothing (lane NONE). */
    private static final class Sheet {
        int lane = NONE;
        int size;
        final int[] cells = new int[MOST_CELLS];

        void renew(int itsLane, int n) {
            lane = itsLane;
            size = n;
            for (int i = 0; i < MOST_CELLS; i++) {
                cells[i] = 0;
            }
        }

        /** What the machine would find when CELL i is used of this SHEET taken as of a lane; 0. */
        int faultAt(int asLane, int i) {
            if (lane == NONE) {
                return NULL_FAULT;
            }
            if (lane != asLane) {
                return CAST_FAULT;
            }
            return outside(i, 0, size - 1) ? INDEX_FAULT : 0;
        }

        int faultOfPair(int asLane, int i) {
            int first = faultAt(asLane, i);
            return first != 0 ? first : faultAt(asLane, i + 1);
        }

        void put(int i, int v) {
            switch (lane) {
                case 0: cells[i] = (byte) v; break;
                case 1: cells[i] = (short) v; break;
                default: cells[i] = v; break;
            }
        }
    }

    /** THE TAPE, and the TOKEN that was read of it last. */
    private static final class Tape {
        static final int END = 0, NAME = 1, NUMBER = 2, STOP = 3, BROKEN = 4;
        private static final int MOST_FIGURES = 2;

        final byte[] bytes = new byte[TAPE_SIZE];
        int length;
        /** The TOKEN's sort, its first byte and the byte behind it. */
        int sort;
        int from;
        int behind;

        void rewind() {
            sort = END;
            from = 0;
            behind = 0;
        }

        void advance() {
            from = behind;
            while (from < length && bytes[from] == ' ') {
                from++;
            }
            sort = from < length ? sortOf(bytes[from]) : END;
            behind = from < length ? from + 1 : from;
            boolean goesOn = sort == NAME || sort == NUMBER;
            while (goesOn && behind < length && sortOf(bytes[behind]) == sort) {
                behind++;
            }
            if (sort == NUMBER && behind - from > MOST_FIGURES) {
                sort = BROKEN;
            }
        }

        private static int sortOf(int c) {
            if ('a' <= c && c <= 'z') {
                return NAME;
            }
            if ('0' <= c && c <= '9') {
                return NUMBER;
            }
            return c == ';' ? STOP : BROKEN;
        }

        int valueOfNumber() {
            int value = 0;
            for (int i = from; i < behind; i++) {
                value = 10 * value + bytes[i] - '0';
            }
            return value;
        }

        boolean isWord(String word) {
            if (sort != NAME || behind - from != word.length()) {
                return false;
            }
            for (int i = 0; i < word.length(); i++) {
                if (bytes[from + i] != word.charAt(i)) {
                    return false;
                }
            }
            return true;
        }
    }

    /** Reads its tape into a house of its own; behind the first FAULT nothing more is read. */
    private static final class Parser {
        private static final int NO_TOKEN = 1, OUT_OF_PLACE = 2, OUT_OF_BOUNDS = 3, STEPS_AGAIN = 4;
        private static final int TOO_MANY = 5, NO_SUCH_BOOK = 6;

        int faultFound;
        int faultPlace;
        int lines;
        private boolean stepsTold;
        final Tape tape = new Tape();
        /** What has been told; it holds when there was no FAULT. */
        final House house = new House();

        void begin() {
            faultFound = 0;
            faultPlace = 0;
            lines = 0;
            stepsTold = false;
            tape.rewind();
            house.clear();
            takeToken();
        }

        boolean isAtLine() {
            return faultFound == 0 && tape.sort != Tape.END;
        }

        void finish() {
            if (namesMissingBook()) {
                refuse(NO_SUCH_BOOK, tape.length);
            }
        }

        private void refuse(int what, int place) {
            if (faultFound == 0) {
                faultFound = what;
                faultPlace = place;
            }
        }

        private void takeToken() {
            if (faultFound == 0) {
                tape.advance();
                if (tape.sort == Tape.BROKEN) {
                    refuse(NO_TOKEN, tape.from);
                }
            }
        }

        /** The line whose NAME was taken, and the TOKEN behind it. */
        void parseLine() {
            if (tape.isWord("book")) {
                parseBook();
            } else if (tape.isWord("guest")) {
                parseReader(GUEST);
            } else if (tape.isWord("nephew")) {
                parseReader(NEPHEW);
            } else if (tape.isWord("lord")) {
                parseReader(LORD);
            } else if (tape.isWord("maid")) {
                parseReader(MAID);
            } else if (tape.isWord("steps")) {
                parseSteps();
            } else {
                refuse(OUT_OF_PLACE, tape.from);
            }
            lines++;
            takeToken();
        }

        private void parseBook() {
            if (house.books >= MAX_BOOKS) {
                refuse(TOO_MANY, tape.from);
            }
            int bay = takeNumber(0, LAST_BAY);
            int height = takeNumber(0, LAST_HEIGHT);
            int leads = bookTold(takeNumber(0, SAYS_NONE));
            takeStop();
            house.addBook(bay, height, leads);
        }

        private void parseReader(int kind) {
            if (house.readers >= MAX_READERS) {
                refuse(TOO_MANY, tape.from);
            }
            int wants = bookTold(takeNumber(0, SAYS_NONE));
            int bears = takeNumber(1, MOST_BEARS);
            takeStop();
            house.addReader(kind, wants, bears);
        }

        private void parseSteps() {
            if (stepsTold) {
                refuse(STEPS_AGAIN, tape.from);
            }
            stepsTold = true;
            house.stepsAt = takeNumber(0, LAST_BAY);
            takeStop();
        }

        private int takeNumber(int least, int most) {
            takeToken();
            if (faultFound != 0) {
                return least;
            }
            if (tape.sort != Tape.NUMBER) {
                refuse(OUT_OF_PLACE, tape.from);
                return least;
            }
            int value = tape.valueOfNumber();
            if (outside(value, least, most)) {
                refuse(OUT_OF_BOUNDS, tape.from);
                return least;
            }
            return value;
        }

        /** The BOOK that the NUMBER taken last tells, or NONE; between these there is a gap. */
        private int bookTold(int value) {
            if (value == SAYS_NONE) {
                return NONE;
            }
            if (value >= MAX_BOOKS) {
                refuse(OUT_OF_BOUNDS, tape.from);
            }
            return value;
        }

        private void takeStop() {
            takeToken();
            if (faultFound == 0 && tape.sort != Tape.STOP) {
                refuse(OUT_OF_PLACE, tape.from);
            }
        }

        private boolean namesMissingBook() {
            for (int b = 0; b < house.books; b++) {
                if (house.leads[b] >= house.books) {
                    return true;
                }
            }
            for (int r = 0; r < house.readers; r++) {
                if (house.wants[r] >= house.books) {
                    return true;
                }
            }
            return false;
        }
    }
}
