import java.util.Arrays;

/** One copy of a dear paper that goes from hand to hand by the hour, and what could come of it. */
public final class PaperHour {
    public static final int NONE = -1000000, BAD = -1000001, STATE = -1000002, FULL = -1000003;

    private static final int FINDINGS = -1000010;
    private static final int NULL = 1, PLACE = 2, KIND = 3, SIZE = 4, STORE = 5;
    private static final int FAULTS = -1000100;

    private static final int FRESH = 1, SPY = 2, ALOUD = 3, OLD = 4, HIRER = 5;
    private static final int KINDS = 6;
    /** The nearest KIND that each KIND is, too; READER is nothing else. */
    private static final int[] NEAREST = {-1, 0, FRESH, FRESH, 0, OLD};

    private static final int READERS = 6;
    private static final int TOP_PLACE = 9, TOP_WORTH = 30, TOP_LATE = 9, TOP_STAMP = 20, TOP_LAST = 60;
    private static final int TOP_PAUSE = 24, TOP_HOUR = 999, TOP_EARNED = 999;
    private static final int TOP_DAYS = 60, TOP_SEED = 999999;
    /** What COPIES earn may be below 0: so much more is told, which keeps it clear of the refusals. */
    private static final int TOLD_MORE = 1000;

    private final Rows rows;
    private final Tape tape;
    private final Town now;
    /** For what is only foretold: it takes over `now` and is spoilt. */
    private final Town trial;
    private final Town firstImage;
    private final Town secondImage;
    private final Acts acts;
    private final Search search;
    private final Sharing sharing;
    private final Asks asks;
    private int finding;

    // Promise 1

    public PaperHour() {
        rows = new Rows();
        tape = new Tape();
        now = new Town();
        trial = new Town();
        firstImage = new Town();
        secondImage = new Town();
        acts = new Acts();
        search = new Search();
        sharing = new Sharing();
        asks = new Asks();
    }

    // ---- rows (promises 2 to 5)

    public int row(int row, int lane, int n) {
        if (!Rows.isNumber(row) || lane < 0 || lane >= Rows.LANES || n > Rows.ITEMS) {
            return BAD;
        }
        if (n < 0) {
            return found(SIZE);
        }
        rows.lay(row, lane, n);
        return foundNothing(n);
    }

    public int set(int row, int i, int v) {
        if (!Rows.isNumber(row)) {
            return BAD;
        }
        int first = rows.findingOf(row, i, 1);
        if (first != 0) {
            return found(first);
        }
        return foundNothing(rows.put(row, i, v));
    }

    public int copy(int a, int i, int b, int j, int n) {
        if (!Rows.isNumber(a) || !Rows.isNumber(b)) {
            return BAD;
        }
        if (rows.isMissing(a) || rows.isMissing(b)) {
            return found(NULL);
        }
        if (rows.lane[a] != rows.lane[b]) {
            return found(STORE);
        }
        if (!rows.hasSpan(a, i, n) || !rows.hasSpan(b, j, n)) {
            return found(PLACE);
        }
        System.arraycopy(rows.items[a], i, rows.items[b], j, n);
        return foundNothing(n);
    }

    public int drop(int row) {
        if (!Rows.isNumber(row)) {
            return BAD;
        }
        if (rows.isMissing(row)) {
            return found(NULL);
        }
        return foundNothing(rows.takeAway(row));
    }

    // ---- towns, acts (promises 6 to 14)

    public int feed(int letter) {
        if (letter < 0 || letter > 255) {
            return BAD;
        }
        return tape.append(letter) ? tape.length : FULL;
    }

    public int town() {
        boolean whole = tape.readInto(trial);
        tape.length = 0;
        if (!whole) {
            return FAULTS - tape.faultPlace;
        }
        trial.there = true;
        trial.begin();
        now.takeOver(trial);
        acts.forget();
        return now.readers;
    }

    public int fault() {
        return tape.fault;
    }

    public int give(int reader) {
        if (!now.has(reader)) {
            return BAD;
        }
        if (!now.canHave(reader)) {
            return STATE;
        }
        acts.keep(now, reader);
        return now.hand(reader);
    }

    public int pause(int n) {
        if (!now.there) {
            return STATE;
        }
        if (n < 1 || n > TOP_PAUSE) {
            return BAD;
        }
        if (now.hour + n > TOP_HOUR) {
            return FULL;
        }
        acts.keep(now, Acts.NOBODY);
        now.hour += n;
        return now.hour;
    }

    public int value(int reader, int v) {
        if (!now.has(reader) || v < 0 || v > TOP_WORTH) {
            return BAD;
        }
        acts.keep(now, reader);
        int was = now.worth[reader];
        now.worth[reader] = v;
        return was;
    }

    public int move(int reader, int place) {
        if (!now.has(reader) || place < 0 || place > TOP_PLACE) {
            return BAD;
        }
        acts.keep(now, reader);
        int was = now.place[reader];
        now.place[reader] = place;
        return was;
    }

    public int undo() {
        if (acts.kept <= 0) {
            return STATE;
        }
        acts.takeBack(now);
        return acts.kept;
    }

    public int reader(int reader, int what) {
        if (!now.has(reader)) {
            return BAD;
        }
        switch (what) {
            case 0: return now.place[reader];
            case 1: return now.worth[reader];
            case 2: return now.late[reader];
            case 3: return now.hasRead(reader) ? 1 : 0;
            case 4: return now.canHave(reader) ? 1 : 0;
            default: return BAD;
        }
    }

    // ---- foretold (promises 15 to 23)

    public int would(int reader, int what) {
        if (!now.has(reader) || what < 0 || what > 1) {
            return BAD;
        }
        if (!now.canHave(reader)) {
            return NONE;
        }
        return what == 0 ? now.comes(reader) : now.brings(reader);
    }

    public int best(int k) {
        if (!now.there) {
            return STATE;
        }
        if (k < -2 || k >= READERS) {
            return BAD;
        }
        search.forMost(now);
        if (k == -2) {
            return search.length;
        }
        return k == -1 ? search.figure : search.told(k);
    }

    public int soonest(int readers, int k) {
        if (!now.there) {
            return STATE;
        }
        if (readers < 0 || readers > now.everybody() || k < -1 || k >= READERS) {
            return BAD;
        }
        search.forSoonest(now, readers);
        if (!search.found) {
            return NONE;
        }
        return k == -1 ? search.figure : search.told(k);
    }

    public int copies(int m, int k) {
        if (!now.there) {
            return STATE;
        }
        if (m < 1 || m > Sharing.COPIES || k < -1 || k >= READERS) {
            return BAD;
        }
        if (k >= now.readers) {
            return NONE;
        }
        search.forSets(now);
        sharing.of(m, now, search.mostOfSet);
        return k == -1 ? sharing.most - m * now.stamp + TOLD_MORE : sharing.chosen[k];
    }

    public int fits(int reader, int row, int i, int n, int e, int what) {
        if (!now.has(reader) || !isTold(row, n, e) || what < 0 || what > 2) {
            return BAD;
        }
        int first = rows.findingOf(row, i, n);
        if (first != 0) {
            return found(first);
        }
        int lowest = what == 0 ? FRESH : 0;
        int highest = what == 0 ? HIRER : what == 1 ? TOP_LATE : TOP_PLACE;
        int bits = 0;
        for (int v = lowest; v <= highest; v++) {
            trial.takeOver(now);
            trial.suppose(reader, what, v);
            if (trial.handAlong(rows.items[row], i, n) == e) {
                bits |= 1 << v;
            }
        }
        return foundNothing(bits);
    }

    public int lost(int row, int i, int n, int c, int e, int what) {
        if (!now.there) {
            return STATE;
        }
        if (!isTold(row, n, e) || c < 0 || c > 10 || what < 0 || what > 1) {
            return BAD;
        }
        int first = rows.findingOf(row, i, n);
        if (first != 0) {
            return found(first);
        }
        int times = timesUntil(e, rows.items[row], i, n);
        int above = times < 0 ? 0 : power(10 - c, times);
        int below = times < 0 ? 1 : power(10, times);
        int common = Math.max(1, commonDivisor(above, below));
        return foundNothing((what == 0 ? above : below) / common);
    }

    public int drawn(int n, int seed, int what) {
        if (!now.there) {
            return STATE;
        }
        if (n < 0 || n > TOP_DAYS || seed < 1 || seed > TOP_SEED || what < 0 || what > 1) {
            return BAD;
        }
        trial.takeOver(now);
        long x = seed;
        for (int day = 0; day < n; day++) {
            x = x * 16807L % 2147483647L;
            int reader = trial.readers > 0 ? (int) (x % trial.readers) : Acts.NOBODY;
            if (trial.canHave(reader)) {
                trial.hand(reader);
            } else {
                trial.hour++;
            }
        }
        return what == 0 ? trial.earned : trial.read;
    }

    public int image(int k) {
        if (k < 0 || k > 1) {
            return BAD;
        }
        if (!now.there) {
            return STATE;
        }
        imageNumber(k).takeOver(now);
        return 1;
    }

    public int restore(int k) {
        if (k < 0 || k > 1) {
            return BAD;
        }
        if (!imageNumber(k).there) {
            return STATE;
        }
        now.takeOver(imageNumber(k));
        acts.forget();
        return 1;
    }

    // ---- asked (promises 24 to 29)

    public int kind(int reader) {
        return now.has(reader) ? now.sort[reader] : BAD;
    }

    public int as(int reader, int kind) {
        if (!now.has(reader) || kind < 0 || kind >= KINDS) {
            return BAD;
        }
        return isOfKind(now.sort[reader], kind) ? foundNothing(reader) : found(KIND);
    }

    public int ask(int reader, int what) {
        if (!now.has(reader) || what < 0 || what > 1) {
            return BAD;
        }
        asks.of(now, reader);
        return what == 0 ? asks.sizeAsked() : asks.markAsked();
    }

    public int trace(int i) {
        return i >= 0 && i < asks.begun ? asks.bodies[i] : NONE;
    }

    public int count(int what) {
        switch (what) {
            case 0: return rows.howMany();
            case 1: return now.readers;
            case 2: return now.hour;
            case 3: return now.at;
            case 4: return now.read;
            case 5: return now.earned;
            case 6: return acts.kept;
            case 7: return tape.length;
            default: return BAD;
        }
    }

    public int status() {
        return finding;
    }

    // ---- helpers

    private int found(int number) {
        finding = number;
        return FINDINGS - number;
    }

    private int foundNothing(int answer) {
        finding = 0;
        return answer;
    }

    /** What fits() and lost() both ask of the numbers by which a row is told. */
    private static boolean isTold(int row, int n, int e) {
        return Rows.isNumber(row) && n >= 1 && n <= READERS && e >= 0 && e <= TOP_EARNED;
    }

    private Town imageNumber(int k) {
        return k == 0 ? firstImage : secondImage;
    }

    /** To how many of a row it must come until e is earned (more); below 0, if it never is. */
    private int timesUntil(int e, int[] items, int i, int n) {
        trial.takeOver(now);
        int times = e <= 0 ? 0 : -1;
        int sum = 0;
        for (int k = 0; k < n; k++) {
            int reader = items[i + k];
            if (!trial.canHave(reader)) {
                return -1;
            }
            sum += trial.hand(reader);
            if (times < 0 && sum >= e) {
                times = k + 1;
            }
        }
        return times;
    }

    private static int power(int base, int times) {
        int product = 1;
        for (int k = 0; k < times; k++) {
            product *= base;
        }
        return product;
    }

    private static int commonDivisor(int a, int b) {
        int high = a;
        int low = b;
        // numbers of 31 bits have come to 0 within 46 rounds
        for (int round = 0; round < 64 && low != 0; round++) {
            int rest = high % low;
            high = low;
            low = rest;
        }
        return high;
    }

    private static boolean isOfKind(int sort, int kind) {
        int k = sort;
        for (int step = 0; step < KINDS && k >= 0 && k < KINDS; step++) {
            if (k == kind) {
                return true;
            }
            k = NEAREST[k];
        }
        return false;
    }

    /** The eight rows. All items are ints, so that one store serves every lane; put() cuts them. */
    private static final class Rows {
        private static final int ROWS = 8, ITEMS = 40, LANES = 3, MISSING = -1;

        private final int[] lane = new int[ROWS];
        private final int[] size = new int[ROWS];
        private final int[][] items = new int[ROWS][ITEMS];

        private Rows() {
            Arrays.fill(lane, MISSING);
        }

        private static boolean isNumber(int row) {
            return row >= 0 && row < ROWS;
        }

        private boolean isMissing(int row) {
            return lane[row] == MISSING;
        }

        private boolean hasSpan(int row, int i, int n) {
            // size - n cannot overflow where i + n could
            return i >= 0 && n >= 0 && i <= size[row] - n;
        }

        private int findingOf(int row, int i, int n) {
            if (isMissing(row)) {
                return NULL;
            }
            return hasSpan(row, i, n) ? 0 : PLACE;
        }

        private void lay(int row, int ofLane, int n) {
            lane[row] = ofLane;
            size[row] = n;
            Arrays.fill(items[row], 0);
        }

        private int put(int row, int i, int v) {
            int cut = lane[row] == 0 ? (byte) v : lane[row] == 1 ? (short) v : v;
            items[row][i] = cut;
            return cut;
        }

        private int takeAway(int row) {
            lane[row] = MISSING;
            return size[row];
        }

        private int howMany() {
            int there = 0;
            for (int row = 0; row < ROWS; row++) {
                if (!isMissing(row)) {
                    there++;
                }
            }
            return there;
        }
    }

    /** A town: its law, its readers, and how far its copy has come. */
    private static final class Town {
        private boolean there;
        private int press;
        private int stamp;
        private int last;
        private int readers;
        private final int[] sort = new int[READERS];
        private final int[] place = new int[READERS];
        private final int[] worth = new int[READERS];
        private final int[] late = new int[READERS];
        private int at;
        private int hour;
        private int read;
        private int earned;

        private Town() {
        }

        private void takeOver(Town other) {
            there = other.there;
            press = other.press;
            stamp = other.stamp;
            last = other.last;
            readers = other.readers;
            System.arraycopy(other.sort, 0, sort, 0, READERS);
            System.arraycopy(other.place, 0, place, 0, READERS);
            System.arraycopy(other.worth, 0, worth, 0, READERS);
            System.arraycopy(other.late, 0, late, 0, READERS);
            copyStands(other.at, other.hour, other.read, other.earned);
        }

        private void copyStands(int atPlace, int atHour, int readBy, int earnedSoFar) {
            at = atPlace;
            hour = atHour;
            read = readBy;
            earned = earnedSoFar;
        }

        private void begin() {
            copyStands(press, 0, 0, 0);
        }

        private boolean has(int reader) {
            return reader >= 0 && reader < readers;
        }

        private int everybody() {
            return (1 << readers) - 1;
        }

        private boolean hasRead(int reader) {
            return (read >> reader & 1) != 0;
        }

        private boolean canHave(int reader) {
            return has(reader) && !hasRead(reader) && comes(reader) <= last;
        }

        private int comes(int reader) {
            return hour + Math.abs(at - place[reader]);
        }

        private int brings(int reader) {
            int fresh = Math.max(0, worth[reader] - comes(reader) * late[reader]);
            switch (sort[reader]) {
                case FRESH: return fresh;
                case SPY: return read == 0 ? fresh : 0;
                case ALOUD: return fresh + neighbours(reader);
                default: return worth[reader];
            }
        }

        private int neighbours(int reader) {
            int others = 0;
            for (int other = 0; other < readers; other++) {
                if (other != reader && place[other] == place[reader]) {
                    others++;
                }
            }
            return others;
        }

        private int hand(int reader) {
            int brought = brings(reader);
            int behind = comes(reader) + (sort[reader] == HIRER ? 2 : 1);
            copyStands(place[reader], behind, read | 1 << reader, earned + brought);
            return brought;
        }

        /** How much a row brings; NONE, if one of them cannot be given it. */
        private int handAlong(int[] items, int i, int n) {
            int sum = 0;
            for (int k = 0; k < n; k++) {
                int reader = items[i + k];
                if (!canHave(reader)) {
                    return NONE;
                }
                sum += hand(reader);
            }
            return sum;
        }

        private void suppose(int reader, int what, int v) {
            if (what == 0) {
                sort[reader] = v;
            } else if (what == 1) {
                late[reader] = v;
            } else {
                place[reader] = v;
            }
        }
    }

    /** The bytes of a text, and how they are read. */
    private static final class Tape {
        private static final int BYTES = 100;
        private static final int NO_TOKEN = 1, NO_SUCH_NUMBER = 2, NO_ROOM = 3;

        private final int[] bytes = new int[BYTES];
        private int length;
        private int next;
        /** The latest fault; it outlives texts that have none. */
        private int fault;
        private int faultPlace;
        private boolean whole;

        private Tape() {
        }

        private boolean append(int letter) {
            if (length >= BYTES) {
                return false;
            }
            bytes[length] = letter;
            length++;
            return true;
        }

        /** Whether the text has no fault; what stands in the town is of use only then. */
        private boolean readInto(Town town) {
            next = 0;
            whole = true;
            readLaw(town);
            town.readers = 0;
            // one round more than there is room for finds the reader too many
            for (int round = 0; round <= READERS && whole && next < length; round++) {
                readReader(town);
            }
            return whole;
        }

        private void readLaw(Town town) {
            readByte('p');
            town.press = readNumber(TOP_PLACE);
            readByte(',');
            town.stamp = readNumber(TOP_STAMP);
            readByte(',');
            town.last = readNumber(TOP_LAST);
            readByte(';');
        }

        private void readReader(Town town) {
            int sort = sortOf(peek());
            if (sort == 0) {
                fail(NO_TOKEN);
                return;
            }
            if (town.readers >= READERS) {
                fail(NO_ROOM);
                return;
            }
            next++;
            int reader = town.readers;
            town.readers++;
            town.sort[reader] = sort;
            town.place[reader] = readNumber(TOP_PLACE);
            readByte(',');
            town.worth[reader] = readNumber(TOP_WORTH);
            readByte(',');
            town.late[reader] = readNumber(TOP_LATE);
            readByte(';');
        }

        private static int sortOf(int letter) {
            switch (letter) {
                case 'f': return FRESH;
                case 's': return SPY;
                case 'a': return ALOUD;
                case 'o': return OLD;
                case 'h': return HIRER;
                default: return 0;
            }
        }

        /** The next byte; below 0 at the end, so that it equals no byte there. */
        private int peek() {
            return next < length ? bytes[next] : -1;
        }

        private void readByte(int wanted) {
            if (peek() == wanted) {
                next++;
            } else {
                fail(NO_TOKEN);
            }
        }

        private int readNumber(int top) {
            int figures = 0;
            int number = 0;
            while (next + figures < length && isFigure(bytes[next + figures])) {
                // a run that is too long is refused below, so only its first figures need to count
                if (figures < 2) {
                    number = 10 * number + bytes[next + figures] - '0';
                }
                figures++;
            }
            if (figures < 1 || figures > 2) {
                fail(NO_TOKEN);
            } else if (number > top) {
                fail(NO_SUCH_NUMBER);
            } else {
                next += figures;
            }
            return number;
        }

        private static boolean isFigure(int letter) {
            return letter >= '0' && letter <= '9';
        }

        /** The first fault counts: what is read behind it stays at its place and is not heard. */
        private void fail(int number) {
            if (whole) {
                whole = false;
                fault = number;
                faultPlace = next;
            }
        }
    }

    /** What acts can be undone: how all that an act may change stood ahead of it. */
    private static final class Acts {
        private static final int ACTS = 24, NOBODY = -1;
        private static final int WHO = 0, HIS_PLACE = 1, HIS_WORTH = 2, AT = 3, HOUR = 4, READ = 5, EARNED = 6;

        /** A ring, so that the oldest is forgotten without moving the others. */
        private final int[][] ahead = new int[ACTS][EARNED + 1];
        private int oldest;
        private int kept;

        private Acts() {
        }

        private void forget() {
            oldest = 0;
            kept = 0;
        }

        private void keep(Town town, int reader) {
            int[] slot = ahead[(oldest + kept) % ACTS];
            if (kept < ACTS) {
                kept++;
            } else {
                oldest = (oldest + 1) % ACTS;
            }
            boolean somebody = town.has(reader);
            slot[WHO] = somebody ? reader : NOBODY;
            slot[HIS_PLACE] = somebody ? town.place[reader] : 0;
            slot[HIS_WORTH] = somebody ? town.worth[reader] : 0;
            slot[AT] = town.at;
            slot[HOUR] = town.hour;
            slot[READ] = town.read;
            slot[EARNED] = town.earned;
        }

        private void takeBack(Town town) {
            if (kept <= 0) {
                return;
            }
            kept--;
            int[] slot = ahead[(oldest + kept) % ACTS];
            int reader = slot[WHO];
            if (town.has(reader)) {
                town.place[reader] = slot[HIS_PLACE];
                town.worth[reader] = slot[HIS_WORTH];
            }
            town.copyStands(slot[AT], slot[HOUR], slot[READ], slot[EARNED]);
        }
    }

    /** Tries the rows of readers one behind another, smaller numbers first, and keeps what is sought. */
    private static final class Search {
        private static final int MOST = 0, SOONEST = 1, SETS = 2;

        private final Town town = new Town();
        private final int[] row = new int[READERS];
        private int aim;
        private int among;
        private int earnedAhead;

        private final int[] kept = new int[READERS];
        private int length;
        private boolean found;
        /** Of the kept row: how much is earned (MOST), or the hour behind it (SOONEST). */
        private int figure;
        /** By sets of readers, all of whom are given it (SETS); NONE: they cannot be. */
        private final int[] mostOfSet = new int[1 << READERS];

        private Search() {
        }

        private void forMost(Town from) {
            town.takeOver(from);
            seek(MOST, from.everybody());
        }

        private void forSoonest(Town from, int readers) {
            town.takeOver(from);
            seek(SOONEST, readers & ~from.read);
        }

        private void forSets(Town from) {
            town.takeOver(from);
            town.begin();
            Arrays.fill(mostOfSet, NONE);
            seek(SETS, from.everybody());
        }

        private void seek(int forWhat, int amongThese) {
            aim = forWhat;
            among = amongThese;
            earnedAhead = town.earned;
            found = false;
            length = 0;
            figure = 0;
            tryRows(this, 0);
        }

        private static void tryRows(Search s, int depth) {
            s.weigh(depth);
            if (depth >= READERS) {
                return;
            }
            Town t = s.town;
            int at = t.at;
            int hour = t.hour;
            int read = t.read;
            int earned = t.earned;
            for (int reader = 0; reader < t.readers; reader++) {
                if ((s.among >> reader & 1) != 0 && t.canHave(reader)) {
                    s.row[depth] = reader;
                    t.hand(reader);
                    tryRows(s, depth + 1);
                    t.copyStands(at, hour, read, earned);
                }
            }
        }

        private void weigh(int depth) {
            if (aim == MOST) {
                int earned = town.earned - earnedAhead;
                if (!found || earned > figure || earned == figure && depth < length) {
                    keepRow(depth, earned);
                }
            } else if (aim == SOONEST) {
                if ((among & ~town.read) == 0 && (!found || town.hour < figure)) {
                    keepRow(depth, town.hour);
                }
            } else if (town.read >= 0 && town.read < mostOfSet.length) {
                mostOfSet[town.read] = Math.max(mostOfSet[town.read], town.earned);
            }
        }

        private void keepRow(int depth, int itsFigure) {
            found = true;
            figure = itsFigure;
            length = depth;
            System.arraycopy(row, 0, kept, 0, depth);
        }

        private int told(int k) {
            return k >= 0 && k < length ? kept[k] : NONE;
        }
    }

    /** Who is to have which copy. */
    private static final class Sharing {
        private static final int COPIES = 3, NO_COPY = 3;

        private final int[] which = new int[READERS];
        private final int[] held = new int[COPIES + 1];
        private final int[] chosen = new int[READERS];
        private int[] mostOfSet = new int[0];
        private int m;
        private int readers;
        private int most;
        private boolean found;

        private Sharing() {
        }

        private void of(int howMany, Town town, int[] mostBySet) {
            m = howMany;
            readers = town.readers;
            mostOfSet = mostBySet;
            found = false;
            most = 0;
            Arrays.fill(held, 0);
            share(this, 0);
        }

        private static void share(Sharing s, int reader) {
            if (reader >= s.readers || reader >= READERS) {
                s.weighShares();
                return;
            }
            for (int choice = 0; choice <= s.m && choice <= COPIES; choice++) {
                int copy = choice < s.m ? choice : NO_COPY;
                s.which[reader] = copy;
                s.held[copy] |= 1 << reader;
                share(s, reader + 1);
                s.held[copy] &= ~(1 << reader);
            }
        }

        private void weighShares() {
            int sum = 0;
            for (int copy = 0; copy < m && copy < COPIES; copy++) {
                int set = held[copy];
                if (set < 0 || set >= mostOfSet.length || mostOfSet[set] == NONE) {
                    return;
                }
                sum += mostOfSet[set];
            }
            if (!found || sum > most) {
                found = true;
                most = sum;
                System.arraycopy(which, 0, chosen, 0, readers);
            }
        }
    }

    /** What readers answer by their kinds, and which bodies begin by it. */
    private static final class Asks {
        private static final int BODIES = 16;

        private final int[] bodies = new int[BODIES];
        private int begun;
        private int sort;
        private int number;
        private int worth;
        private int place;

        private Asks() {
        }

        private void of(Town town, int reader) {
            begun = 0;
            sort = town.sort[reader];
            number = reader;
            worth = town.worth[reader];
            place = town.place[reader];
        }

        private void begins(int body) {
            if (begun < BODIES) {
                bodies[begun] = body;
                begun++;
            }
        }

        private int sizeAsked() {
            return isOfKind(sort, OLD) ? sizeAskedOfOld() : sizeAskedOfFresh();
        }

        private int markAsked() {
            return isOfKind(sort, OLD) ? oldMark() : markAskedOfFresh();
        }

        // Fresh and old ones are asked apart, so that no two of these can call one another in a ring.

        private int sizeAskedOfFresh() {
            if (sort == SPY) {
                begins(12);
                return -freshSize();
            }
            return freshSize();
        }

        private int sizeAskedOfOld() {
            if (sort == HIRER) {
                begins(14);
                return 2 * oldSize();
            }
            return oldSize();
        }

        private int markAskedOfFresh() {
            if (sort == SPY) {
                begins(24);
                return 2 * freshMark();
            }
            if (sort == ALOUD) {
                begins(22);
                return freshMark() - 1000;
            }
            return freshMark();
        }

        private int lentSize() {
            begins(10);
            return worth;
        }

        private int freshSize() {
            begins(11);
            int lent = lentSize();
            return lent + markAskedOfFresh();
        }

        private int oldSize() {
            begins(13);
            return lentSize() - 100;
        }

        private int lentMark() {
            begins(20);
            return number;
        }

        private int freshMark() {
            begins(21);
            return lentMark() + place;
        }

        private int oldMark() {
            begins(23);
            int lent = lentMark();
            return lent - sizeAskedOfOld();
        }
    }
}
