/** A parliament that walks: what each call answers is told in ../shared/DOC.md, whose words in capitals stand here, too. */
public final class WalkingLaw {
    public static final int BAD = -1, NO = -2, FULL = -3, NONE = -4;

    private static final int MOST_BYTES = 300;
    private static final int MOST_IN_ONE_WRITE = 8;
    private static final int MOST_PARISHES = 6;
    private static final int MOST_MEMBERS = 8;
    private static final int MOST_BILLS = 4;
    private static final int MOST_MILES = 30;
    private static final int MOST_BEDS = 40;
    private static final int FASTEST = 9;
    private static final int FOR_ALL_BILLS = 15;
    private static final int MOST_LINES = 10;
    private static final int MOST_KEPT = 2;
    private static final int MOST_HOURS_AT_ONCE = 99;
    private static final int LAST_HOUR = 9999;
    private static final int YEARS = 10000;
    private static final int YEARS_IN_TEN = 10;
    private static final int FARTHEST_HOUR = 400;
    private static final int READING_HOURS = 200;
    private static final int MOST_JOINING = 20;
    private static final int MOST_LATE = 20;
    private static final int NO_CHANGE_BACK = 100;

    private static final int CARTED = 1, LAME = 2, TWO_SIDED = 3, HIRED = 4, SILENT = 5;
    private static final int KINDS = 6;
    private static final int CART_MILES = 4;
    private static final int NIGHT_EACH = 8;

    /** Stands for a MEMBER where none is meant. */
    private static final int NOBODY = -1;
    /** Stands for the i of a call that asks how many there are in all. */
    private static final int HOW_MANY = -1;

    private final Text text;
    private Road road;
    /** The next road is built beside the one in use, so that a TEXT with a FAULT changes nothing. */
    private Road draft;
    private final Walk now;
    /** All looks ahead, and all years, are walked on this one. */
    private final Walk trial;
    private final Walk[] kept;
    private int keptWalks;
    private final Diary notes;
    private final Rows rows;

    public WalkingLaw() {
        text = new Text();
        road = new Road();
        draft = new Road();
        road.addParish(9, 0, 9);
        road.addMember(0, 3, 15);
        now = new Walk(road);
        trial = new Walk(road);
        kept = new Walk[MOST_KEPT];
        for (int k = 0; k < MOST_KEPT; k++) {
            kept[k] = new Walk(road);
        }
        keptWalks = 0;
        notes = new Diary();
        rows = new Rows();
    }

    // ---- roads

    public int write(int n, long v) {
        if (n < 1 || n > MOST_IN_ONE_WRITE) {
            return BAD;
        }
        return text.append(n, v) ? text.length : FULL;
    }

    public int wipe() {
        int length = text.length;
        text.length = 0;
        return length;
    }

    public int fault() {
        return text.tell(draft);
    }

    public int lay() {
        if (text.tell(draft) != NONE || draft.parishes == 0 || draft.members == 0) {
            return NO;
        }
        Road laid = draft;
        draft = road;
        road = laid;
        now.begin(road);
        notes.lines = 0;
        keptWalks = 0;
        return road.members;
    }

    public int parish(int p, int what) {
        if (!isParish(p)) {
            return BAD;
        }
        switch (what) {
            case 0: return road.lengths[p];
            case 1: return road.muddy[p];
            case 2: return road.beds[p];
            case 3: return now.thoseIn(p);
            default: return BAD;
        }
    }

    public int member(int i, int what) {
        if (!isMember(i)) {
            return BAD;
        }
        switch (what) {
            case 0: return road.kinds[i];
            case 1: return road.paces[i];
            case 2: return now.mindOf(i);
            case 3: return now.miles[i];
            case 4: return now.parishOf(i);
            default: return BAD;
        }
    }

    // ---- on the way

    public int hours(int n) {
        if (n < 1 || n > MOST_HOURS_AT_ONCE) {
            return BAD;
        }
        if (now.hour + n > LAST_HOUR) {
            return NO;
        }
        now.goHours(n);
        return now.arrived();
    }

    public int voices(int p, int b, int what) {
        if (!isParish(p) || !isBill(b)) {
            return BAD;
        }
        switch (what) {
            case 0: return now.yesIn(p, b);
            case 1: return now.noIn(p, b);
            case 2: return now.passesIn(p, b, 0) ? 1 : 0;
            default: return BAD;
        }
    }

    public int read(int b) {
        if (!isBill(b)) {
            return BAD;
        }
        return now.readOut(b) ? 1 : 0;
    }

    public int bill(int b, int what) {
        if (!isBill(b)) {
            return BAD;
        }
        switch (what) {
            case 0: return now.passed[b];
            case 1: return now.isHeld(b) ? 1 : 0;
            case 2: return now.made[b];
            default: return BAD;
        }
    }

    // ---- ahead

    public int mile(int n, int i) {
        if (!isAhead(n) || !isMember(i)) {
            return BAD;
        }
        lookAhead(n);
        return trial.miles[i];
    }

    public int who(int n, int p) {
        if (!isAhead(n) || !isParish(p)) {
            return BAD;
        }
        lookAhead(n);
        return trial.thoseIn(p);
    }

    public int arrives() {
        lookAhead(0);
        for (int n = 0; n <= FARTHEST_HOUR; n++) {
            if (trial.arrived() == road.members) {
                return n;
            }
            trial.goHour(NOBODY);
        }
        return NONE;
    }

    public int would(int b) {
        if (!isBill(b)) {
            return BAD;
        }
        lookAhead(0);
        trial.readOut(b);
        for (int n = 0; n < READING_HOURS; n++) {
            trial.goHour(NOBODY);
            trial.readOut(b);
        }
        return trial.passed[b];
    }

    public int order(int i) {
        if (i != HOW_MANY && !isBill(i)) {
            return BAD;
        }
        lookAhead(0);
        rows.weigh(trial);
        return i == HOW_MANY ? rows.most : rows.best[i];
    }

    public int back(int i) {
        if (!isMember(i)) {
            return BAD;
        }
        int wanted = now.mindOf(i);
        int held = Integer.bitCount(heldAhead(NOBODY) & wanted);
        int heldByDelay = Integer.bitCount(heldAhead(i) & wanted);
        return heldByDelay - held + NO_CHANGE_BACK;
    }

    // ---- parties, diaries

    public int parties(int p, int i) {
        if (!isParish(p) || i != HOW_MANY && !isMember(i)) {
            return BAD;
        }
        int there = now.thoseIn(p);
        int whole = road.paceOf(there);
        int asked = i == HOW_MANY ? 0 : 1 << i;
        int found = 0;
        for (int set = 1; set < 1 << MOST_MEMBERS; set++) {
            if ((set & ~there) == 0 && (set & asked) == asked && isParty(set, whole)) {
                found++;
            }
        }
        return found;
    }

    public int join(int p, int b) {
        if (!isParish(p) || !isBill(b)) {
            return BAD;
        }
        for (int more = 0; more <= MOST_JOINING; more++) {
            if (now.passesIn(p, b, more)) {
                return more;
            }
        }
        return NONE;
    }

    public int diary(int i, int p, int h) {
        if (!isMember(i) || !isParish(p) || !isAhead(h)) {
            return BAD;
        }
        return notes.append(i, p, h) ? notes.lines : FULL;
    }

    public int noDiary() {
        int lines = notes.lines;
        notes.lines = 0;
        return lines;
    }

    public int wrong() {
        trial.begin(road);
        return notes.falseLines(trial);
    }

    public int late() {
        trial.begin(road);
        return notes.bestDelay(trial) + MOST_LATE;
    }

    // ---- years

    public int year(int z) {
        return isYear(z) ? heldInYear(z) : BAD;
    }

    public int ten(int z, int b) {
        if (!isYear(z) || !isBill(b)) {
            return BAD;
        }
        int found = 0;
        for (int k = 0; k < YEARS_IN_TEN; k++) {
            found += heldInYear((z + k) % YEARS) >> b & 1;
        }
        return found;
    }

    public int keep() {
        if (keptWalks >= MOST_KEPT) {
            return FULL;
        }
        kept[keptWalks].become(now);
        keptWalks++;
        return keptWalks;
    }

    public int again() {
        if (keptWalks <= 0) {
            return NO;
        }
        keptWalks--;
        now.become(kept[keptWalks]);
        return keptWalks;
    }

    public int count(int what) {
        switch (what) {
            case 0: return road.parishes;
            case 1: return road.members;
            case 2: return road.bills;
            case 3: return now.hour;
            case 4: return road.end;
            case 5: return notes.lines;
            case 6: return keptWalks;
            case 7: return text.length;
            case 8: return road.quorum;
            default: return BAD;
        }
    }

    // ---- what the calls share

    private boolean isParish(int p) {
        return p >= 0 && p < road.parishes;
    }

    private boolean isMember(int i) {
        return i >= 0 && i < road.members;
    }

    private boolean isBill(int b) {
        return b >= 0 && b < road.bills;
    }

    private static boolean isAhead(int n) {
        return n >= 0 && n <= FARTHEST_HOUR;
    }

    private static boolean isYear(int z) {
        return z >= 0 && z < YEARS;
    }

    private void lookAhead(int n) {
        trial.become(now);
        trial.goHours(n);
    }

    /** The BILLS that HOLD in the end, if a MEMBER stands still in the first HOUR. */
    private int heldAhead(int still) {
        lookAhead(0);
        trial.goHour(still);
        trial.readAllFor(READING_HOURS - 1);
        return trial.allHeld();
    }

    /** If its slowest can't be missed, nobody of the set can. */
    private boolean isParty(int set, int whole) {
        int pace = road.paceOf(set);
        return 2 * pace > whole && 2 * (pace - road.slowestOf(set)) <= whole;
    }

    private int heldInYear(int z) {
        trial.begin(road);
        for (int i = 0; i < road.members; i++) {
            trial.setMind(i, drawnMind(z, i));
        }
        trial.readAllFor(READING_HOURS);
        return trial.allHeld();
    }

    private static int drawnMind(int z, int i) {
        long x = 7919L * z + 6151L * i + 1;
        return (int) (x * x % 65521 % 16);
    }

    private static int lowestOf(int set) {
        return set & -set;
    }

    /** THE TEXT, and how it is told. */
    private static final class Text {
        private static final int NOT_SO = -1;
        private static final int MOST_NUMBERS = 3;

        private final byte[] bytes = new byte[MOST_BYTES];
        private final int[] numbers = new int[MOST_NUMBERS];
        private int length;

        boolean append(int n, long v) {
            if (n > MOST_BYTES - length) {
                return false;
            }
            for (int k = n - 1; k >= 0; k--) {
                bytes[length] = (byte) (v >> 8 * k);
                length++;
            }
            return true;
        }

        /** Fills a road; answers FAULT. */
        int tell(Road into) {
            into.clear();
            int place = 0;
            for (int items = 0; items < MOST_BYTES && place < length; items++) {
                int behind = takeItem(place, into);
                if (behind == NOT_SO) {
                    return place;
                }
                place = behind;
            }
            return NONE;
        }

        /** Answers the place behind the ITEM. */
        private int takeItem(int start, Road into) {
            int letter = byteAt(start);
            int wanted = numbersBehind(letter);
            int place = wanted == 0 ? NOT_SO : start + 1;
            for (int k = 0; k < wanted && place != NOT_SO; k++) {
                place = takeNumber(place, k, k + 1 < wanted ? ',' : ';');
            }
            return place != NOT_SO && addItem(letter, into) ? place : NOT_SO;
        }

        private static int numbersBehind(int letter) {
            switch (letter) {
                case 'p':
                case 'm': return MOST_NUMBERS;
                case 'q':
                case 'b': return 1;
                default: return 0;
            }
        }

        /** Answers the place behind the number and the sign that must follow it. */
        private int takeNumber(int start, int k, char sign) {
            if (!isFigure(start)) {
                return NOT_SO;
            }
            int place = start + 1;
            int number = byteAt(start) - '0';
            if (isFigure(place)) {
                number = 10 * number + byteAt(place) - '0';
                place++;
            }
            numbers[k] = number;
            return byteAt(place) == sign ? place + 1 : NOT_SO;
        }

        private boolean addItem(int letter, Road into) {
            switch (letter) {
                case 'p': return into.addParish(numbers[0], numbers[1], numbers[2]);
                case 'm': return into.addMember(numbers[0], numbers[1], numbers[2]);
                case 'q': return into.setQuorum(numbers[0]);
                case 'b': return into.setBills(numbers[0]);
                default: return false;
            }
        }

        private boolean isFigure(int place) {
            int sign = byteAt(place);
            return sign >= '0' && sign <= '9';
        }

        /** Behind THE TEXT there is a byte that is no sign of any ITEM. */
        private int byteAt(int place) {
            return place >= 0 && place < length ? bytes[place] : -1;
        }
    }

    /** THE ROAD and its MEMBERS, as told in a TEXT; sets of MEMBERS are bits. */
    private static final class Road {
        private int parishes;
        private final int[] lengths = new int[MOST_PARISHES];
        private final int[] muddy = new int[MOST_PARISHES];
        private final int[] beds = new int[MOST_PARISHES];
        private final int[] firstMiles = new int[MOST_PARISHES];
        private int end;
        private int members;
        private final int[] kinds = new int[MOST_MEMBERS];
        private final int[] paces = new int[MOST_MEMBERS];
        private final int[] minds = new int[MOST_MEMBERS];
        private final int[] ofKind = new int[KINDS];
        private int quorum;
        private int bills;

        Road() {
            clear();
        }

        void clear() {
            parishes = 0;
            end = 0;
            members = 0;
            for (int k = 0; k < KINDS; k++) {
                ofKind[k] = 0;
            }
            quorum = 1;
            bills = MOST_BILLS;
        }

        boolean addParish(int length, int mud, int bedsThere) {
            if (parishes >= MOST_PARISHES || length < 1 || length > MOST_MILES || mud > 1 || bedsThere > MOST_BEDS) {
                return false;
            }
            lengths[parishes] = length;
            muddy[parishes] = mud;
            beds[parishes] = bedsThere;
            firstMiles[parishes] = end;
            parishes++;
            end += length;
            return true;
        }

        boolean addMember(int kind, int pace, int mind) {
            if (members >= MOST_MEMBERS || kind < 0 || kind >= KINDS || pace < 1 || pace > FASTEST
                || mind > FOR_ALL_BILLS) {
                return false;
            }
            kinds[members] = kind;
            paces[members] = pace;
            minds[members] = mind;
            ofKind[kind] |= 1 << members;
            members++;
            return true;
        }

        boolean setQuorum(int q) {
            if (q < 1 || q > MOST_MEMBERS) {
                return false;
            }
            quorum = q;
            return true;
        }

        boolean setBills(int n) {
            if (n < 1 || n > MOST_BILLS) {
                return false;
            }
            bills = n;
            return true;
        }

        int parishAt(int mile) {
            for (int p = parishes - 1; p > 0; p--) {
                if (mile >= firstMiles[p]) {
                    return p;
                }
            }
            return 0;
        }

        int strideFrom(int mile, int i) {
            switch (kinds[i]) {
                case CARTED: return CART_MILES;
                case LAME: return muddy[parishAt(mile)] == 1 ? paces[i] / 2 : paces[i];
                default: return paces[i];
            }
        }

        /** Those who say what they think. */
        int outspoken() {
            return ~(ofKind[TWO_SIDED] | ofKind[HIRED] | ofKind[SILENT]);
        }

        int paceOf(int set) {
            int pace = 0;
            for (int i = 0; i < members; i++) {
                if ((set >> i & 1) == 1) {
                    pace += paces[i];
                }
            }
            return pace;
        }

        int slowestOf(int set) {
            int slowest = FASTEST;
            for (int i = 0; i < members; i++) {
                if ((set >> i & 1) == 1) {
                    slowest = Math.min(slowest, paces[i]);
                }
            }
            return slowest;
        }
    }

    /** All that changes on the way: where MEMBERS are, minds, what PASSED, MADE, the HOUR. */
    private static final class Walk {
        private Road road;
        private final int[] miles = new int[MOST_MEMBERS];
        /** Of each BILL those who are for it: so that voices are counted, and minds compared, by sets. */
        private final int[] backers = new int[MOST_BILLS];
        private final int[] passed = new int[MOST_BILLS];
        private final int[] made = new int[MOST_BILLS];
        private int hour;

        Walk(Road laid) {
            begin(laid);
        }

        void begin(Road laid) {
            road = laid;
            hour = 0;
            for (int b = 0; b < MOST_BILLS; b++) {
                backers[b] = 0;
                passed[b] = 0;
                made[b] = NONE;
            }
            for (int i = 0; i < MOST_MEMBERS; i++) {
                miles[i] = 0;
            }
            for (int i = 0; i < laid.members; i++) {
                setMind(i, laid.minds[i]);
            }
        }

        void become(Walk other) {
            road = other.road;
            hour = other.hour;
            for (int b = 0; b < MOST_BILLS; b++) {
                backers[b] = other.backers[b];
                passed[b] = other.passed[b];
                made[b] = other.made[b];
            }
            for (int i = 0; i < MOST_MEMBERS; i++) {
                miles[i] = other.miles[i];
            }
        }

        /** Takes BILLS above those that there are, too: a MEMBER stays for them, though nobody reads them. */
        void setMind(int i, int mind) {
            for (int b = 0; b < MOST_BILLS; b++) {
                backers[b] = backers[b] & ~(1 << i) | (mind >> b & 1) << i;
            }
        }

        int mindOf(int i) {
            int mind = 0;
            for (int b = 0; b < MOST_BILLS; b++) {
                mind |= (backers[b] >> i & 1) << b;
            }
            return mind;
        }

        int parishOf(int i) {
            return road.parishAt(miles[i]);
        }

        int thoseIn(int p) {
            int from = road.firstMiles[p];
            int to = p + 1 < road.parishes ? road.firstMiles[p + 1] - 1 : road.end;
            int set = 0;
            for (int i = 0; i < road.members; i++) {
                if (miles[i] >= from && miles[i] <= to) {
                    set |= 1 << i;
                }
            }
            return set;
        }

        int arrived() {
            int there = 0;
            for (int i = 0; i < road.members; i++) {
                if (miles[i] == road.end) {
                    there++;
                }
            }
            return there;
        }

        void goHours(int n) {
            for (int k = 0; k < n; k++) {
                goHour(NOBODY);
            }
        }

        void goHour(int still) {
            for (int i = 0; i < road.members; i++) {
                if (i != still) {
                    miles[i] = Math.min(road.end, miles[i] + road.strideFrom(miles[i], i));
                }
            }
            hour++;
            if (hour % NIGHT_EACH == 0) {
                clearInns();
                changeMinds();
            }
        }

        private void clearInns() {
            for (int p = road.parishes - 1; p > 0; p--) {
                int there = thoseIn(p);
                int tooMany = Integer.bitCount(there) - road.beds[p];
                for (int i = road.members - 1; i >= 0 && tooMany > 0; i--) {
                    if ((there >> i & 1) == 1) {
                        miles[i] = road.firstMiles[p] - 1;
                        tooMany--;
                    }
                }
            }
        }

        private void changeMinds() {
            for (int p = 0; p < road.parishes; p++) {
                int there = thoseIn(p);
                for (int b = 0; b < road.bills; b++) {
                    backers[b] = swayed(there, backers[b]);
                }
            }
        }

        private static int swayed(int there, int backing) {
            int fors = there & backing;
            int others = there & ~backing;
            int more = Integer.bitCount(fors) - Integer.bitCount(others);
            if (more > 0) {
                return backing | lowestOf(others);
            }
            return more < 0 ? backing & ~lowestOf(fors) : backing;
        }

        int yesIn(int p, int b) {
            return yesOf(thoseIn(p), p, b, 0);
        }

        int noIn(int p, int b) {
            return noOf(thoseIn(p), p, b);
        }

        /** So many as join are PLAIN, for the BILL, and of higher numbers than all who walk. */
        boolean passesIn(int p, int b, int joining) {
            int there = thoseIn(p);
            return Integer.bitCount(there) + joining >= road.quorum
                && yesOf(there, p, b, joining) > noOf(there, p, b);
        }

        private int yesOf(int there, int p, int b, int joining) {
            int yes = joining + Integer.bitCount(there & backers[b] & road.outspoken());
            if (p % 2 == 0) {
                yes += Integer.bitCount(there & road.ofKind[TWO_SIDED]);
            }
            int leader = lowestOf(there & ~road.ofKind[HIRED]);
            if (leader == 0 ? joining > 0 : (leader & backers[b]) != 0) {
                yes += Integer.bitCount(there & road.ofKind[HIRED]);
            }
            return yes;
        }

        private int noOf(int there, int p, int b) {
            int no = Integer.bitCount(there & ~backers[b] & road.outspoken());
            if (p % 2 != 0) {
                no += Integer.bitCount(there & road.ofKind[TWO_SIDED]);
            }
            int leader = lowestOf(there & ~road.ofKind[HIRED]);
            if ((leader & ~backers[b]) != 0) {
                no += Integer.bitCount(there & road.ofKind[HIRED]);
            }
            return no;
        }

        boolean readOut(int b) {
            int p = parishOf(0);
            if (!passesIn(p, b, 0)) {
                return false;
            }
            if (passed[b] == 0) {
                made[b] = p;
            }
            passed[b] |= 1 << p;
            return true;
        }

        /** Now and behind each of so many HOURS. */
        void readAllFor(int hours) {
            for (int n = 0; n <= hours; n++) {
                if (n > 0) {
                    goHour(NOBODY);
                }
                for (int b = 0; b < road.bills; b++) {
                    readOut(b);
                }
            }
        }

        boolean isHeld(int b) {
            return passed[b] == (1 << road.parishes) - 1;
        }

        int allHeld() {
            int held = 0;
            for (int b = 0; b < road.bills; b++) {
                if (isHeld(b)) {
                    held |= 1 << b;
                }
            }
            return held;
        }
    }

    /** Rows of all BILLS, of which one BILL is READ at a time. */
    private static final class Rows {
        /** The PARISHES in which a BILL passes, if it is READ whenever its turn in a row is due. */
        private final int[][] passing = new int[MOST_BILLS][MOST_BILLS];
        private final int[] row = new int[MOST_BILLS];
        private final int[] best = new int[MOST_BILLS];
        private int most;

        /** Goes on with the walk to the last reading. */
        void weigh(Walk walk) {
            findPassing(walk);
            int bills = walk.road.bills;
            int all = (1 << walk.road.parishes) - 1;
            most = -1;
            // Two bits for each BILL, the first BILL's the highest: a lower number is a row that comes first.
            for (int number = 0; number < 1 << 2 * bills; number++) {
                if (setRow(number, bills)) {
                    compare(bills, all);
                }
            }
        }

        /** What is READ changes neither ways nor minds, so that one walk serves all rows. */
        private void findPassing(Walk walk) {
            int bills = walk.road.bills;
            for (int b = 0; b < bills; b++) {
                for (int turn = 0; turn < bills; turn++) {
                    passing[b][turn] = walk.passed[b];
                }
            }
            int turn = 0;
            for (int n = 0; n <= READING_HOURS; n++) {
                notePassing(walk, turn);
                walk.goHour(NOBODY);
                turn = turn + 1 < bills ? turn + 1 : 0;
            }
        }

        private void notePassing(Walk walk, int turn) {
            int p = walk.parishOf(0);
            for (int b = 0; b < walk.road.bills; b++) {
                if (walk.passesIn(p, b, 0)) {
                    passing[b][turn] |= 1 << p;
                }
            }
        }

        /** Answers whether the row has each BILL once. */
        private boolean setRow(int number, int bills) {
            int seen = 0;
            for (int turn = 0; turn < bills; turn++) {
                row[turn] = number >> 2 * (bills - 1 - turn) & 3;
                seen |= 1 << row[turn];
            }
            return seen == (1 << bills) - 1;
        }

        private void compare(int bills, int all) {
            int holding = 0;
            for (int turn = 0; turn < bills; turn++) {
                if (passing[row[turn]][turn] == all) {
                    holding++;
                }
            }
            if (holding > most) {
                most = holding;
                for (int turn = 0; turn < bills; turn++) {
                    best[turn] = row[turn];
                }
            }
        }
    }

    /** The DIARY; it is held against a walk that begins. */
    private static final class Diary {
        private final int[] members = new int[MOST_LINES];
        private final int[] parishes = new int[MOST_LINES];
        private final int[] hoursGone = new int[MOST_LINES];
        private int lines;
        /** By each delay: how many lines are so. */
        private final int[] fitting = new int[2 * MOST_LATE + 1];

        boolean append(int i, int p, int h) {
            if (lines >= MOST_LINES) {
                return false;
            }
            members[lines] = i;
            parishes[lines] = p;
            hoursGone[lines] = h;
            lines++;
            return true;
        }

        int falseLines(Walk walk) {
            int found = 0;
            for (int h = 0; h <= FARTHEST_HOUR; h++) {
                for (int line = 0; line < lines; line++) {
                    if (hoursGone[line] == h && !isSo(line, walk)) {
                        found |= 1 << line;
                    }
                }
                walk.goHour(NOBODY);
            }
            return found;
        }

        int bestDelay(Walk walk) {
            for (int k = 0; k < fitting.length; k++) {
                fitting[k] = 0;
            }
            for (int h = 0; h <= FARTHEST_HOUR + MOST_LATE; h++) {
                for (int line = 0; line < lines; line++) {
                    if (isSo(line, walk)) {
                        noteFitting(hoursGone[line], h);
                    }
                }
                walk.goHour(NOBODY);
            }
            return mostFitting();
        }

        private boolean isSo(int line, Walk walk) {
            return walk.parishOf(members[line]) == parishes[line];
        }

        /** A delay that leads ahead of the beginning leads to the beginning. */
        private void noteFitting(int written, int h) {
            int highest = h - written;
            int lowest = h == 0 ? -MOST_LATE : highest;
            for (int d = Math.max(lowest, -MOST_LATE); d <= Math.min(highest, MOST_LATE); d++) {
                fitting[d + MOST_LATE]++;
            }
        }

        private int mostFitting() {
            int best = 0;
            for (int far = 1; far <= MOST_LATE; far++) {
                if (fitting[MOST_LATE - far] > fitting[MOST_LATE + best]) {
                    best = -far;
                }
                if (fitting[MOST_LATE + far] > fitting[MOST_LATE + best]) {
                    best = far;
                }
            }
            return best;
        }
    }
}
