/**
 * A house whose guests are its staff: each does for another what that one would like done.
 * ../shared/DOC.md says what every call answers; the words in capitals there are the words used here.
 */
public final class GuestStaff {
    public static final int NONE = -1, BAD = -2, NO = -3, FULL = -4;

    /** What some calls answer instead of BAD; a FAULT is told by as much less than this. */
    private static final int BAD_TEN = -10;
    private static final int NOT_SO_MANY = -5;

    private static final int KINDS = 6, PLAIN = 0, QUIET = 1;
    private static final int SERVICES = 8, SERVICE_SETS = 1 << SERVICES;
    private static final int MOST_GUESTS = 7, EVERYBODY = (1 << MOST_GUESTS) - 1, FIRST_TIPS = 10;
    private static final int MOST_HOURS = 60, MOST_UNDOABLE = 8;
    private static final int MOST_BYTES = 150, SIGNS = 128;
    private static final int MOST_NOTES = 6, NOTED_HOURS = 100, NOTED_CONTENTS = 31;
    private static final int TENTHS = 10, ODDS_BELOW = 1000000;
    private static final int SEEDS = 1000000, SEED_DUTIES = 8;
    private static final long SEED_TIMES = 1103515245L, SEED_AND = 12345L, SEED_BY = 2147483648L, SEED_CUT = 65536L;
    private static final int IMAGES = 2, COUNTS = 7;

    private final House now;
    /** Where a call tries out what must not change the house; every such call fills it anew. */
    private final House trial;
    private final House[] images;
    private final boolean[] kept = new boolean[IMAGES];
    private final Text text = new Text();
    private final Rows rows = new Rows();
    /** How many calls were refused as BAD, NO, FULL. */
    private final int[] refused = new int[3];
    private long above = 0;
    private long below = 1;

    public GuestStaff() {
        Plain[] kinds = {new Plain(), new Quiet(), new Banker(), new Shouter(), new Late(), new Polisher()};
        now = new House(kinds);
        trial = new House(kinds);
        images = new House[] {new House(kinds), new House(kinds)};
    }

    // ---- a house

    public int house() {
        int before = now.guests;
        now.empty();
        return before;
    }

    public int guest(int kind, int want, int can) {
        if (!isBelow(kind, KINDS) || !isBelow(want, SERVICES) || !isBelow(can, SERVICE_SETS)) {
            return refuseBad(BAD);
        }
        if (now.guests >= MOST_GUESTS) {
            return refuseFull();
        }
        return now.admit(kind, want, can);
    }

    public int duty(int g, int h) {
        if (!now.isGuest(g) || h == g || h != NONE && !now.isGuest(h)) {
            return refuseBad(BAD_TEN);
        }
        int before = now.duty[g];
        now.remember();
        now.duty[g] = h;
        return before;
    }

    public int type(int c) {
        if (!isBelow(c, SIGNS)) {
            return refuseBad(BAD);
        }
        if (text.size >= MOST_BYTES) {
            return refuseFull();
        }
        return text.append(c);
    }

    public int clear() {
        int before = text.size;
        text.size = 0;
        return before;
    }

    public int read() {
        int items = text.parse(trial);
        if (items == NONE) {
            return BAD_TEN - text.at;
        }
        now.copy(trial);
        return items;
    }

    // ---- hours

    public int hour(int n) {
        if (n < 1 || n > MOST_HOURS) {
            return refuseBad(BAD);
        }
        for (int i = 0; i < n; i++) {
            now.remember();
            now.passHour();
        }
        return now.mood;
    }

    public int undo() {
        if (now.undoable == 0) {
            return refuseNo();
        }
        now.recall();
        return now.hour;
    }

    public int of(int g, int what) {
        if (!now.isGuest(g)) {
            return refuseBad(BAD_TEN);
        }
        switch (what) {
            case 0: return now.kind[g];
            case 1: return now.want[g];
            case 2: return now.can[g];
            case 3: return now.duty[g];
            case 4: return now.tips[g];
            case 5: return now.serverOf(g);
            case 6: return now.contentOf(g);
            default: return refuseBad(BAD_TEN);
        }
    }

    public int can(int g, int h) {
        if (!now.isGuest(g) || !now.isGuest(h) || g == h) {
            return refuseBad(BAD);
        }
        return now.canServe(g, h) ? 1 : 0;
    }

    public int work(int g, int s) {
        if (!now.isGuest(g) || !isBelow(s, SERVICES)) {
            return refuseBad(BAD);
        }
        return now.workFor(g, s);
    }

    // ---- who does for whom

    public int all(int g) {
        if (g != NONE && !now.isGuest(g)) {
            return refuseBad(BAD_TEN);
        }
        rows.gather(now, EVERYBODY, Rows.ANY);
        return g == NONE ? rows.ways() : rows.dutyInBest(g);
    }

    public int least() {
        rows.gather(now, EVERYBODY, Rows.WORK);
        int cost = rows.leastCost();
        return cost == Rows.SHUT ? NONE : cost;
    }

    public int most(int g) {
        if (g != NONE && !now.isGuest(g)) {
            return refuseBad(BAD_TEN);
        }
        rows.gather(now, EVERYBODY, Rows.DISCONTENT);
        if (g != NONE) {
            return rows.dutyInBest(g);
        }
        int cost = rows.leastCost();
        return cost == Rows.SHUT ? NONE : -cost;
    }

    public int lone() {
        int bits = 0;
        for (int h = 0; h < now.guests; h++) {
            if (!now.isServable(h)) {
                bits |= 1 << h;
            }
        }
        return bits;
    }

    public int rings(int g) {
        if (g != NONE) {
            return now.isGuest(g) ? now.ringOf(g) : refuseBad(BAD_TEN);
        }
        int back = 0;
        for (int h = 0; h < now.guests; h++) {
            if (now.ringOf(h) > 0) {
                back++;
            }
        }
        return back;
    }

    public int smallest() {
        int found = NONE;
        int fewest = MOST_GUESTS + 1;
        // Bits rise, and only fewer guests win: so of like ones the least stays.
        for (int bits = 0; bits < 1 << now.guests; bits++) {
            int size = Integer.bitCount(bits);
            if (size >= 2 && size < fewest && closes(now, bits)) {
                found = bits;
                fewest = size;
            }
        }
        return found;
    }

    public int swap(int k) {
        if (k < NONE) {
            return refuseBad(BAD_TEN);
        }
        int seen = 0;
        for (int i = 0; i < now.guests; i++) {
            for (int j = i + 1; j < now.guests; j++) {
                if (now.wouldSwap(i, j)) {
                    if (seen == k) {
                        return 10 * i + j;
                    }
                    seen++;
                }
            }
        }
        return k == NONE ? seen : NOT_SO_MANY;
    }

    public int takeIn(int can) {
        if (!isBelow(can, SERVICE_SETS)) {
            return refuseBad(BAD);
        }
        if (now.guests >= MOST_GUESTS) {
            return refuseNo();
        }
        trial.copy(now);
        // Rows ask for no kind, so any kind will do.
        int g = trial.admit(PLAIN, 0, can);
        int bits = 0;
        for (int w = 0; w < SERVICES; w++) {
            trial.want[g] = w;
            if (closes(trial, EVERYBODY)) {
                bits |= 1 << w;
            }
        }
        return bits;
    }

    // ---- wants

    public int note(int g, int q, int s, int hour, int v) {
        boolean told = now.isGuest(g) && isBelow(q, KINDS) && isBelow(s, SERVICES);
        if (!told || !isBelow(hour, NOTED_HOURS) || !isBelow(v, NOTED_CONTENTS)) {
            return refuseBad(BAD);
        }
        if (now.notes.size >= MOST_NOTES) {
            return refuseFull();
        }
        return now.notes.add(g, q, s, hour, v);
    }

    public int forget() {
        int before = now.notes.size;
        now.notes.size = 0;
        return before;
    }

    public int wants(int g) {
        if (!now.isGuest(g)) {
            return refuseBad(BAD);
        }
        return now.wantsThatFit(g, now.kind[g]);
    }

    public int is(int g) {
        if (!now.isGuest(g)) {
            return refuseBad(BAD);
        }
        int bits = 0;
        for (int k = 0; k < KINDS; k++) {
            if (now.wantsThatFit(g, k) != 0) {
                bits |= 1 << k;
            }
        }
        return bits;
    }

    public int next(int g) {
        if (!now.isGuest(g)) {
            return refuseBad(BAD);
        }
        int fitting = now.wantsThatFit(g, now.kind[g]);
        int found = NONE;
        int least = SERVICES + 1;
        for (int s = 0; s < SERVICES && fitting != 0; s++) {
            int wanted = Integer.bitCount(fitting & 1 << s);
            int greater = Math.max(wanted, Integer.bitCount(fitting) - wanted);
            if (greater < least) {
                found = s;
                least = greater;
            }
        }
        return found;
    }

    public int tips(int g, int m) {
        if (!now.isGuest(g) || !isBelow(m, MOST_HOURS + 1)) {
            return refuseBad(BAD);
        }
        trial.copy(now);
        for (int i = 0; i < m; i++) {
            trial.passHour();
        }
        return trial.tips[g];
    }

    public int moods(int c) {
        if (!isBelow(c, TENTHS + 1)) {
            return refuseBad(BAD);
        }
        int sum = 0;
        for (int h = 0; h < now.guests; h++) {
            sum += ODDS_BELOW - oddsOfNone(now.serversOf(h), c);
        }
        keepFraction(sum, ODDS_BELOW);
        return 1;
    }

    public int hours(int seed, int n) {
        if (!isBelow(seed, SEEDS) || !isBelow(n, MOST_HOURS + 1)) {
            return refuseBad(BAD);
        }
        trial.copy(now);
        long x = seed;
        for (int i = 0; i < n; i++) {
            for (int g = 0; g < trial.guests; g++) {
                x = (x * SEED_TIMES + SEED_AND) % SEED_BY;
                int h = (int) (x / SEED_CUT % SEED_DUTIES);
                trial.duty[g] = h != g && trial.isGuest(h) ? h : NONE;
            }
            trial.passHour();
        }
        return trial.mood - now.mood;
    }

    // ---- what there is

    public long part(int what) {
        switch (what) {
            case 0: return above;
            case 1: return below;
            default: return refuseBad(BAD);
        }
    }

    public int image(int i) {
        if (!isBelow(i, IMAGES)) {
            return refuseBad(BAD);
        }
        images[i].copy(now);
        kept[i] = true;
        return 1;
    }

    public int from(int i) {
        if (!isBelow(i, IMAGES)) {
            return refuseBad(BAD);
        }
        if (!kept[i]) {
            return refuseNo();
        }
        now.copy(images[i]);
        return 1;
    }

    public int status(int what) {
        if (!isBelow(what, refused.length)) {
            return refuseBad(NONE);
        }
        return refused[what];
    }

    public int count(int what) {
        return isBelow(what, COUNTS) ? countOf(what) : refuseBad(BAD);
    }

    public long digest() {
        long h = 1097;
        for (int what = 0; what < COUNTS; what++) {
            h = 31 * h + countOf(what);
        }
        h = now.addGuestsTo(h);
        h = now.notes.addTo(h);
        return 31 * (31 * h + above) + below;
    }

    // ---- what the calls share

    private static boolean isBelow(int number, int limit) {
        return number >= 0 && number < limit;
    }

    private int refuseBad(int answer) {
        refused[0]++;
        return answer;
    }

    private int refuseNo() {
        refused[1]++;
        return NO;
    }

    private int refuseFull() {
        refused[2]++;
        return FULL;
    }

    private boolean closes(House house, int bits) {
        rows.gather(house, bits, Rows.ANY);
        return rows.ways() > 0;
    }

    private int countOf(int what) {
        switch (what) {
            case 0: return now.guests;
            case 1: return now.hour;
            case 2: return now.mood;
            case 3: return now.servedCount();
            case 4: return now.notes.size;
            case 5: return now.undoable;
            default: return text.size;
        }
    }

    /** The odds, of ODDS_BELOW, that of so many servers (6 at most) none does the duty. */
    private static int oddsOfNone(int servers, int c) {
        int odds = ODDS_BELOW;
        for (int i = 0; i < servers; i++) {
            odds = odds / TENTHS * (TENTHS - c);
        }
        return odds;
    }

    private void keepFraction(int top, int bottom) {
        int a = top;
        int b = bottom;
        // Euclid's steps for numbers of this size are far fewer than 64.
        for (int i = 0; i < 64 && b != 0; i++) {
            int left = a % b;
            a = b;
            b = left;
        }
        if (a > 0) {
            above = top / a;
            below = bottom / a;
        }
    }

    // ---- kinds: each class stands under the one that it extends, as the document tells them

    private static class Plain {
        int contentBy(int q, int hour) {
            return 5;
        }

        int workOn(int s) {
            return 2;
        }
    }

    private static class Quiet extends Plain {
        int contentBy(int q, int hour) {
            int plain = super.contentBy(q, hour);
            return q == QUIET ? plain + 3 : plain;
        }

        int workOn(int s) {
            return super.workOn(s) - 1;
        }
    }

    private static class Banker extends Plain {
        int contentBy(int q, int hour) {
            return 2 * super.contentBy(q, hour);
        }

        int workOn(int s) {
            return super.workOn(s) + s;
        }
    }

    private static final class Shouter extends Plain {
        int contentBy(int q, int hour) {
            int plain = super.contentBy(q, hour);
            return hour % 2 == 0 ? plain - 2 : plain;
        }
    }

    private static final class Late extends Quiet {
        int contentBy(int q, int hour) {
            return hour % 4 == 0 ? 0 : super.contentBy(q, hour);
        }
    }

    private static final class Polisher extends Banker {
        int contentBy(int q, int hour) {
            return super.contentBy(q, hour) - 4;
        }

        int workOn(int s) {
            return super.workOn(s) / 2;
        }
    }

    /** All that an image keeps: guests, duties, tips, the mood, the hour, notes, and what may be undone. */
    private static final class House {
        private final Plain[] kinds;
        private final int[] kind = new int[MOST_GUESTS];
        private final int[] want = new int[MOST_GUESTS];
        private final int[] can = new int[MOST_GUESTS];
        private final int[] duty = new int[MOST_GUESTS];
        private final int[] tips = new int[MOST_GUESTS];
        private final Notes notes = new Notes();
        private final int[][] pastDuty = new int[MOST_UNDOABLE][MOST_GUESTS];
        private final int[][] pastTips = new int[MOST_UNDOABLE][MOST_GUESTS];
        private final int[] pastMood = new int[MOST_UNDOABLE];
        private final int[] pastHour = new int[MOST_UNDOABLE];
        /** Where the next past goes: the slots are used in a round, so that the oldest is lost first. */
        private int slot = 0;
        private int undoable = 0;
        private int guests = 0;
        private int hour = 0;
        private int mood = 0;

        House(Plain[] kinds) {
            this.kinds = kinds;
        }

        void empty() {
            guests = 0;
            hour = 0;
            mood = 0;
            undoable = 0;
            notes.size = 0;
        }

        void copy(House other) {
            guests = other.guests;
            hour = other.hour;
            mood = other.mood;
            copyRow(other.kind, kind);
            copyRow(other.want, want);
            copyRow(other.can, can);
            copyRow(other.duty, duty);
            copyRow(other.tips, tips);
            notes.copy(other.notes);
            slot = other.slot;
            undoable = other.undoable;
            System.arraycopy(other.pastMood, 0, pastMood, 0, MOST_UNDOABLE);
            System.arraycopy(other.pastHour, 0, pastHour, 0, MOST_UNDOABLE);
            for (int i = 0; i < MOST_UNDOABLE; i++) {
                copyRow(other.pastDuty[i], pastDuty[i]);
                copyRow(other.pastTips[i], pastTips[i]);
            }
        }

        private static void copyRow(int[] source, int[] target) {
            System.arraycopy(source, 0, target, 0, MOST_GUESTS);
        }

        boolean isGuest(int g) {
            return g >= 0 && g < guests;
        }

        /** Only for a house of fewer than MOST_GUESTS. */
        int admit(int itsKind, int itsWant, int itsCan) {
            int g = guests;
            kind[g] = itsKind;
            want[g] = itsWant;
            can[g] = itsCan;
            duty[g] = NONE;
            tips[g] = FIRST_TIPS;
            guests++;
            undoable = 0;
            return g;
        }

        boolean canServe(int g, int h) {
            return (can[g] >> want[h] & 1) != 0;
        }

        boolean isServable(int h) {
            for (int g = 0; g < guests; g++) {
                if (g != h && canServe(g, h)) {
                    return true;
                }
            }
            return false;
        }

        private boolean doesServe(int g, int h) {
            return duty[g] == h && canServe(g, h);
        }

        int serverOf(int h) {
            for (int g = 0; g < guests; g++) {
                if (doesServe(g, h)) {
                    return g;
                }
            }
            return NONE;
        }

        int serversOf(int h) {
            int servers = 0;
            for (int g = 0; g < guests; g++) {
                if (doesServe(g, h)) {
                    servers++;
                }
            }
            return servers;
        }

        int servedCount() {
            int served = 0;
            for (int h = 0; h < guests; h++) {
                if (serverOf(h) != NONE) {
                    served++;
                }
            }
            return served;
        }

        /** How content h would be in this hour, if g served it. */
        int contentBy(int h, int g) {
            return kinds[kind[h]].contentBy(kind[g], hour);
        }

        int contentOf(int h) {
            int g = serverOf(h);
            return g == NONE ? 0 : contentBy(h, g);
        }

        int workFor(int g, int s) {
            return kinds[kind[g]].workOn(s);
        }

        void passHour() {
            for (int h = 0; h < guests; h++) {
                mood += contentOf(h);
            }
            for (int h = 0; h < guests; h++) {
                int g = serverOf(h);
                if (g != NONE && tips[h] > 0) {
                    tips[h]--;
                    tips[g]++;
                }
            }
            hour++;
        }

        void remember() {
            copyRow(duty, pastDuty[slot]);
            copyRow(tips, pastTips[slot]);
            pastMood[slot] = mood;
            pastHour[slot] = hour;
            slot = (slot + 1) % MOST_UNDOABLE;
            undoable = Math.min(undoable + 1, MOST_UNDOABLE);
        }

        /** Only where something may be undone. */
        void recall() {
            slot = (slot + MOST_UNDOABLE - 1) % MOST_UNDOABLE;
            undoable--;
            copyRow(pastDuty[slot], duty);
            copyRow(pastTips[slot], tips);
            mood = pastMood[slot];
            hour = pastHour[slot];
        }

        /** How long the ring of a guest is; 0, if it does not come back to itself. */
        int ringOf(int g) {
            int h = duty[g];
            for (int length = 1; length <= guests && h != NONE; length++) {
                if (h == g) {
                    return length;
                }
                h = duty[h];
            }
            return 0;
        }

        boolean wouldSwap(int i, int j) {
            int a = serverOf(i);
            int b = serverOf(j);
            return a != NONE && b != NONE && wouldRather(i, a, b) && wouldRather(j, b, a);
        }

        private boolean wouldRather(int h, int server, int other) {
            return other != h && canServe(other, h) && contentBy(h, other) > contentBy(h, server);
        }

        int wantsThatFit(int g, int itsKind) {
            return notes.wantsThatFit(g, kinds[itsKind]);
        }

        long addGuestsTo(long start) {
            long h = start;
            for (int g = 0; g < guests; g++) {
                h = 31 * h + kind[g];
                h = 31 * h + want[g];
                h = 31 * h + can[g];
                h = 31 * h + duty[g];
                h = 31 * h + tips[g];
            }
            return h;
        }
    }

    private static final class Notes {
        private static final int GUEST = 0, BY_KIND = 1, SERVICE = 2, HOUR = 3, CONTENT = 4, WIDTH = 5;
        private final int[][] note = new int[MOST_NOTES][WIDTH];
        private int size = 0;

        /** Only for fewer than MOST_NOTES. */
        int add(int g, int q, int s, int hour, int v) {
            int[] row = note[size];
            row[GUEST] = g;
            row[BY_KIND] = q;
            row[SERVICE] = s;
            row[HOUR] = hour;
            row[CONTENT] = v;
            size++;
            return size;
        }

        void copy(Notes other) {
            size = other.size;
            for (int i = 0; i < MOST_NOTES; i++) {
                System.arraycopy(other.note[i], 0, note[i], 0, WIDTH);
            }
        }

        int wantsThatFit(int g, Plain kind) {
            int bits = 0;
            for (int w = 0; w < SERVICES; w++) {
                if (allFit(g, kind, w)) {
                    bits |= 1 << w;
                }
            }
            return bits;
        }

        private boolean allFit(int g, Plain kind, int w) {
            for (int i = 0; i < size; i++) {
                int[] row = note[i];
                int due = row[SERVICE] == w ? kind.contentBy(row[BY_KIND], row[HOUR]) : 0;
                if (row[GUEST] == g && row[CONTENT] != due) {
                    return false;
                }
            }
            return true;
        }

        long addTo(long start) {
            long h = start;
            for (int i = 0; i < size; i++) {
                for (int j = 0; j < WIDTH; j++) {
                    h = 31 * h + note[i][j];
                }
            }
            return h;
        }
    }

    /**
     * The rows of duties by which all of some guests are served. Members take duties by their order, so the
     * set of members already done for tells whose turn it is: what the rest can do is kept for each such set.
     */
    private static final class Rows {
        static final int ANY = 0, WORK = 1, DISCONTENT = 2;
        /** The cost where there is no row: far above every cost that a row can have. */
        static final int SHUT = 1000000;
        private final int[] member = new int[MOST_GUESTS];
        /** For whom each member can do, as bits. */
        private final int[] open = new int[MOST_GUESTS];
        private final int[][] cost = new int[MOST_GUESTS][MOST_GUESTS];
        private final int[] rest = new int[1 << MOST_GUESTS];
        private int members = 0;

        void gather(House house, int bits, int goal) {
            members = 0;
            for (int g = 0; g < house.guests; g++) {
                if ((bits >> g & 1) != 0) {
                    member[members] = g;
                    members++;
                }
            }
            for (int i = 0; i < members; i++) {
                open[i] = 0;
                for (int j = 0; j < members; j++) {
                    if (i != j && house.canServe(member[i], member[j])) {
                        open[i] |= 1 << j;
                        cost[i][j] = costOf(house, member[i], member[j], goal);
                    }
                }
            }
        }

        private static int costOf(House house, int g, int h, int goal) {
            switch (goal) {
                case WORK: return house.workFor(g, house.want[h]);
                case DISCONTENT: return -house.contentBy(h, g);
                default: return 0;
            }
        }

        /** Whether the member whose turn it is may do for j, when those of used are done for. */
        private boolean isOpen(int used, int j) {
            int turn = Integer.bitCount(used);
            return turn < members && ((open[turn] & ~used) >> j & 1) != 0;
        }

        int ways() {
            int full = (1 << members) - 1;
            rest[full] = 1;
            for (int used = full - 1; used >= 0; used--) {
                int sum = 0;
                for (int j = 0; j < members; j++) {
                    if (isOpen(used, j)) {
                        sum += rest[used | 1 << j];
                    }
                }
                rest[used] = sum;
            }
            return rest[0];
        }

        int leastCost() {
            int full = (1 << members) - 1;
            rest[full] = 0;
            for (int used = full - 1; used >= 0; used--) {
                int least = SHUT;
                for (int j = 0; j < members; j++) {
                    if (isOpen(used, j)) {
                        least = Math.min(least, costThrough(used, j));
                    }
                }
                rest[used] = least;
            }
            return rest[0];
        }

        private int costThrough(int used, int j) {
            int left = rest[used | 1 << j];
            return left == SHUT ? SHUT : left + cost[Integer.bitCount(used)][j];
        }

        /** The duty of the g-th member in the first row of the least cost. */
        int dutyInBest(int g) {
            if (leastCost() == SHUT) {
                return NONE;
            }
            int used = 0;
            for (int i = 0; i < members; i++) {
                int j = firstBest(used);
                if (i == g || j == NONE) {
                    return j == NONE ? NONE : member[j];
                }
                used |= 1 << j;
            }
            return NONE;
        }

        private int firstBest(int used) {
            for (int j = 0; j < members; j++) {
                if (isOpen(used, j) && costThrough(used, j) == rest[used]) {
                    return j;
                }
            }
            return NONE;
        }
    }

    /** THE TEXT, read token by token. At its end a token stands that is none: so a FAULT is always where 'at' is. */
    private static final class Text {
        private static final int END = 0, WORD = 1, NUMBER = 2, STOP = 3, STRAY = 4;
        private final int[] bytes = new int[MOST_BYTES];
        private int size = 0;
        private int at = 0;
        private int behind = 0;
        private int sort = END;
        /** What the figures of a token tell; NONE, if they are more than two, which are no number. */
        private int number = NONE;

        /** Only for fewer than MOST_BYTES. */
        int append(int c) {
            bytes[size] = c;
            size++;
            return size;
        }

        /** How many items were read into the draft; NONE, if there is a FAULT. */
        int parse(House draft) {
            draft.empty();
            behind = 0;
            step();
            if (!isWord("house") || !stepToStop()) {
                return NONE;
            }
            for (int items = 1; items <= MOST_BYTES; items++) {
                step();
                if (sort == END) {
                    return items;
                }
                if (!parseItem(draft)) {
                    return NONE;
                }
            }
            return NONE;
        }

        private boolean parseItem(House draft) {
            if (isWord("guest")) {
                return draft.guests < MOST_GUESTS && parseGuest(draft);
            }
            return isWord("duty") && parseDuty(draft);
        }

        private boolean parseGuest(House draft) {
            if (!stepToNumber(KINDS)) {
                return false;
            }
            int kind = number;
            if (!stepToNumber(SERVICES)) {
                return false;
            }
            int want = number;
            int can = 0;
            step();
            for (int i = 0; i < MOST_BYTES && isNumber(SERVICES); i++) {
                can |= 1 << number;
                step();
            }
            if (sort != STOP) {
                return false;
            }
            draft.admit(kind, want, can);
            return true;
        }

        private boolean parseDuty(House draft) {
            if (!stepToNumber(draft.guests)) {
                return false;
            }
            int g = number;
            if (!stepToNumber(draft.guests) || number == g) {
                return false;
            }
            draft.duty[g] = number;
            return stepToStop();
        }

        private boolean stepToStop() {
            step();
            return sort == STOP;
        }

        private boolean stepToNumber(int limit) {
            step();
            return isNumber(limit);
        }

        private boolean isNumber(int limit) {
            return sort == NUMBER && number >= 0 && number < limit;
        }

        private boolean isWord(String word) {
            if (sort != WORD || behind - at != word.length()) {
                return false;
            }
            for (int i = 0; i < word.length(); i++) {
                if (bytes[at + i] != word.charAt(i)) {
                    return false;
                }
            }
            return true;
        }

        private void step() {
            at = endOfRun(behind, ' ', ' ');
            behind = endOfRun(at, 'a', 'z');
            if (behind > at) {
                sort = WORD;
                return;
            }
            behind = endOfRun(at, '0', '9');
            if (behind > at) {
                sort = NUMBER;
                number = behind - at > 2 ? NONE : numberHere();
                return;
            }
            sort = signHere();
            behind = Math.min(at + 1, size);
        }

        private int endOfRun(int start, int first, int last) {
            int place = start;
            while (place < size && bytes[place] >= first && bytes[place] <= last) {
                place++;
            }
            return place;
        }

        private int numberHere() {
            int value = 0;
            for (int place = at; place < behind; place++) {
                value = 10 * value + bytes[place] - '0';
            }
            return value;
        }

        private int signHere() {
            if (at >= size) {
                return END;
            }
            return bytes[at] == ';' ? STOP : STRAY;
        }
    }
}
