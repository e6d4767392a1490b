/**
 * Locks on ranges of a file with 300 places and 8 owners, and a row of requests that wait for them.
 * Locks knows the rules by which they change; this class answers the questions about them, and holds
 * what undo(), restore() and carryOut() need besides.
 */
public final class MeanLocks {
    public static final int NO_SUCH = -1, BAD_VALUE = -2, BAD_TEXT = -3, TOO_MANY = -4, NOT_POSSIBLE = -5, NONE = -6;
    public static final int FAIR = 0, BREAK = 1, PATIENCE = 2;
    public static final int FREE = 0, READ = 1, MEAN = 2, WRITE = 3;

    private static final int OWNERS = 8;
    private static final int PLACES = 300;
    private static final int MOST_PATIENCE = 200;
    private static final int MOST_TICKS = 300;
    private static final int MOST_NUMBER = 300;
    private static final int MOST_DIGITS = 3;
    private static final int MOST_CHARACTERS = 80;
    private static final int MOST_AT_ONCE = 8;
    private static final int LEAST_CODE = 33;
    private static final int GREATEST_CODE = 126;
    private static final int MOST_UNDONE = 6;
    private static final int SLOTS = 2;

    // Two kinds go together exactly if their numbers add up to less than this.
    private static final int APART = 4;

    // Each break frees a place of some owner, and the requests that are given meanwhile, one an owner at most,
    // lock no more than all places of all owners once again.
    private static final int MOST_BREAKS = 2 * OWNERS * PLACES;

    private final Locks now = new Locks();
    private final Locks whatIf = new Locks();
    private final History history = new History();
    private final Locks[] slots = new Locks[SLOTS];
    private final Pad pad = new Pad();

    public MeanLocks() {
        now.settings[FAIR] = 1;
    }

    // ---- requests

    public int set(int setting, int value) {
        history.note(now);
        return history.settle(now.change(setting, value));
    }

    public int request(int owner, int kind, int from, int to, int wait) {
        history.note(now);
        return history.settle(now.ask(owner, kind, from, to, wait));
    }

    public int free(int owner, int from, int to) {
        history.note(now);
        return history.settle(now.release(owner, from, to));
    }

    public int cancel(int owner) {
        history.note(now);
        return history.settle(now.withdraw(owner));
    }

    public int leave(int owner) {
        history.note(now);
        return history.settle(now.depart(owner));
    }

    public int ticks(int ticks) {
        history.note(now);
        return history.settle(now.pass(ticks));
    }

    // ---- what there is

    public int at(int owner, int place) {
        if (!isOwner(owner) || !isPlace(place)) return NO_SUCH;
        return now.kindAt(owner, place);
    }

    public int owners(int place, int kind) {
        if (!isPlace(place)) return NO_SUCH;
        if (kind < FREE || kind > WRITE) return BAD_VALUE;
        int set = 0;
        for (int owner = 0; owner < OWNERS; owner++) {
            if (now.kindAt(owner, place) == kind) set |= 1 << owner;
        }
        return set;
    }

    public int ofOwner(int owner, int what) {
        if (!isOwner(owner)) return NO_SUCH;
        switch (what) {
            case 0: return now.placesOf(owner, READ);
            case 1: return now.placesOf(owner, MEAN);
            case 2: return now.placesOf(owner, WRITE);
            case 3: return now.stretchesOf(owner);
            case 4:
            case 5:
            case 6:
            case 7:
            case 8: return ofRequest(owner, what);
            case 9: return now.given[owner];
            case 10: return now.begun[owner];
            case 11: return now.givenUp[owner];
            case 12: return now.longestWait[owner];
            default: return BAD_VALUE;
        }
    }

    public int stretch(int owner, int stretch, int what) {
        if (!isOwner(owner)) return NO_SUCH;
        int start = now.startOfStretch(owner, stretch);
        if (start < 0) return NO_SUCH;
        switch (what) {
            case 0: return now.kindAt(owner, start);
            case 1: return start;
            case 2: return now.lengthOfStretch(owner, start);
            default: return BAD_VALUE;
        }
    }

    public int inRow(int place) {
        if (place < 0 || place >= now.waiting) return NO_SUCH;
        return now.row[place];
    }

    public int waitsFor(int owner) {
        if (!isOwner(owner)) return NO_SUCH;
        return now.waitedFor(owner);
    }

    public int count(int what) {
        switch (what) {
            case 0: return now.tick;
            case 1: return now.waiting;
            case 2: return now.placesLocked();
            case 3: return now.settings[FAIR];
            case 4: return now.settings[BREAK];
            case 5: return now.settings[PATIENCE];
            case 6: return now.allGiven();
            case 7: return now.gone;
            case 8: return now.breaks;
            case 9: return pad.length;
            case 10: return history.kept;
            default: return BAD_VALUE;
        }
    }

    // ---- what if

    public int couldGive(int owner, int kind, int from, int to) {
        int way = inTheWay(owner, kind, from, to);
        if (way < 0) return way;
        return way == 0 ? 1 : 0;
    }

    public int inTheWay(int owner, int kind, int from, int to) {
        if (!isOwner(owner)) return NO_SUCH;
        if (!isLock(kind) || !isRange(from, to)) return BAD_VALUE;
        return now.inWay(owner, kind, from, to, now.waiting);
    }

    public int ring(int owner, int kind, int from, int to) {
        if (!isOwner(owner)) return NO_SUCH;
        if (!isLock(kind) || !isRange(from, to)) return BAD_VALUE;
        whatIf.become(now);
        whatIf.quitRow(owner);
        whatIf.join(owner, kind, from, to);
        return whatIf.ringOf(owner);
    }

    public int firstFor(int owner, int kind, int length, int place) {
        if (!isOwner(owner)) return NO_SUCH;
        if (!isLock(kind) || length < 1 || length > PLACES || !isPlace(place)) return BAD_VALUE;
        int run = 0;
        for (int last = place; last < PLACES; last++) {
            run = couldLock(owner, kind, last) ? run + 1 : 0;
            if (run == length) return last + 1 - length;
        }
        return NONE;
    }

    public int longestFor(int owner, int kind, int what) {
        if (!isOwner(owner)) return NO_SUCH;
        if (!isLock(kind) || what < 0 || what > 1) return BAD_VALUE;
        int run = 0;
        int longest = 0;
        int first = NONE;
        for (int last = 0; last < PLACES; last++) {
            run = couldLock(owner, kind, last) ? run + 1 : 0;
            if (run > longest) {
                longest = run;
                first = last + 1 - run;
            }
        }
        if (longest == 0) return NONE;
        return what == 0 ? first : longest;
    }

    public int givenIf(int owner) {
        if (!isOwner(owner)) return NO_SUCH;
        whatIf.become(now);
        whatIf.strip(owner);
        return whatIf.goThroughRow();
    }

    public int greatestBar(int what) {
        if (what < 0 || what > 1) return BAD_VALUE;
        int most = 0;
        int greatest = NONE;
        for (int owner = 0; owner < OWNERS; owner++) {
            int many = Integer.bitCount(givenIf(owner));
            if (many > most) {
                most = many;
                greatest = owner;
            }
        }
        if (most == 0) return NONE;
        return what == 0 ? greatest : most;
    }

    // ---- texts

    public int put(long characters) {
        return pad.type(characters);
    }

    public int wipe() {
        return pad.erase();
    }

    public int fault() {
        return pad.firstFault();
    }

    public int carryOut() {
        if (pad.firstFault() != NONE) return BAD_TEXT;
        history.note(now);
        pad.position = 0;
        int done = 0;
        boolean more = true;
        for (int orders = 0; orders < MOST_CHARACTERS && more; orders++) {
            more = pad.readOrder() && obey() >= 0;
            if (more) {
                done++;
                more = pad.skip(';');
            }
        }
        pad.erase();
        return history.settle(done);
    }

    // ---- undo, saving

    public int undo() {
        if (history.kept == 0) return NOT_POSSIBLE;
        history.goBack(now);
        return history.kept;
    }

    public int save(int slot) {
        if (slot < 0 || slot >= SLOTS) return BAD_VALUE;
        Locks saved = slots[slot];
        if (saved == null) {
            saved = new Locks();
            slots[slot] = saved;
        }
        saved.become(now);
        return now.tick;
    }

    public int restore(int slot) {
        if (slot < 0 || slot >= SLOTS) return BAD_VALUE;
        Locks saved = slots[slot];
        if (saved == null) return NOT_POSSIBLE;
        history.note(now);
        now.become(saved);
        return history.settle(now.tick);
    }

    // ---- what the calls share

    private static boolean isOwner(int owner) {
        return owner >= 0 && owner < OWNERS;
    }

    private static boolean isPlace(int place) {
        return place >= 0 && place < PLACES;
    }

    private static boolean isLock(int kind) {
        return kind >= READ && kind <= WRITE;
    }

    private static boolean isRange(int from, int to) {
        return isPlace(from) && to > from && to <= PLACES;
    }

    private static boolean holds(int set, int owner) {
        return (set >> owner & 1) != 0;
    }

    private int ofRequest(int owner, int what) {
        if (now.wanted[owner] == FREE) return NONE;
        switch (what) {
            case 4: return now.placeInRow(owner);
            case 5: return now.wanted[owner];
            case 6: return now.from[owner];
            case 7: return now.to[owner];
            default: return now.waited[owner];
        }
    }

    private boolean couldLock(int owner, int kind, int place) {
        return now.inWay(owner, kind, place, place + 1, now.waiting) == 0;
    }

    // Past the public methods, as an order of a text records nothing in the history.
    private int obey() {
        int kind = "rmw".indexOf(pad.letter) + 1;
        if (kind != FREE) return now.ask(pad.owner, kind, pad.first, pad.second, pad.wait);
        if (pad.letter == 'f') return now.release(pad.owner, pad.first, pad.second);
        if (pad.letter == 'c') return now.withdraw(pad.owner);
        if (pad.letter == 'x') return now.depart(pad.owner);
        return now.pass(pad.first);
    }

    /** Everything that undo() and restore() bring back, and the rules by which it changes. */
    private static final class Locks {
        final int[] settings = new int[PATIENCE + 1];
        int tick;

        // atLeast[kind][place]: the owners who have this kind or a stronger one there. So those whose kind
        // does not go together with a kind are atLeast[APART - kind]. The row of FREE is never used.
        final int[][] atLeast = new int[WRITE + 1][PLACES];

        final int[] row = new int[OWNERS];
        int waiting;

        // The waiting request of each owner; wanted is FREE if none waits.
        final int[] wanted = new int[OWNERS];
        final int[] from = new int[OWNERS];
        final int[] to = new int[OWNERS];
        final int[] waited = new int[OWNERS];

        final int[] given = new int[OWNERS];
        final int[] begun = new int[OWNERS];
        final int[] givenUp = new int[OWNERS];
        final int[] longestWait = new int[OWNERS];
        int gone;
        int breaks;

        // Room for ringOf() to work in: no part of the state.
        final int[] reach = new int[OWNERS];

        void become(Locks other) {
            tick = other.tick;
            waiting = other.waiting;
            gone = other.gone;
            breaks = other.breaks;
            System.arraycopy(other.settings, 0, settings, 0, PATIENCE + 1);
            for (int kind = READ; kind <= WRITE; kind++) {
                System.arraycopy(other.atLeast[kind], 0, atLeast[kind], 0, PLACES);
            }
            System.arraycopy(other.row, 0, row, 0, OWNERS);
            System.arraycopy(other.wanted, 0, wanted, 0, OWNERS);
            System.arraycopy(other.from, 0, from, 0, OWNERS);
            System.arraycopy(other.to, 0, to, 0, OWNERS);
            System.arraycopy(other.waited, 0, waited, 0, OWNERS);
            System.arraycopy(other.given, 0, given, 0, OWNERS);
            System.arraycopy(other.begun, 0, begun, 0, OWNERS);
            System.arraycopy(other.givenUp, 0, givenUp, 0, OWNERS);
            System.arraycopy(other.longestWait, 0, longestWait, 0, OWNERS);
        }

        // ---- the changes: they answer as the public methods do, and change nothing if they answer an error

        int change(int setting, int value) {
            if (setting < FAIR || setting > PATIENCE) return BAD_VALUE;
            int most = setting == PATIENCE ? MOST_PATIENCE : 1;
            if (value < 0 || value > most) return BAD_VALUE;
            if (setting == FAIR && waiting > 0) return NOT_POSSIBLE;
            int previous = settings[setting];
            settings[setting] = value;
            return previous;
        }

        int ask(int owner, int kind, int first, int behind, int wait) {
            if (!isOwner(owner)) return NO_SUCH;
            if (!isLock(kind) || !isRange(first, behind) || wait < 0 || wait > 1) return BAD_VALUE;
            if (wanted[owner] != FREE) return NOT_POSSIBLE;
            if (inWay(owner, kind, first, behind, waiting) == 0) {
                give(owner, kind, first, behind);
                goThroughRow();
                return 1;
            }
            if (wait == 0) return NOT_POSSIBLE;
            join(owner, kind, first, behind);
            int ring = ringOf(owner);
            if (ring != 0 && settings[BREAK] == 0) {
                quitRow(owner);
                return NOT_POSSIBLE;
            }
            begun[owner]++;
            for (int i = 0; i < MOST_BREAKS && ring != 0; i++) {
                giveUp(leastHarmed(ring), ring);
                goThroughRow();
                ring = ringOf(owner);
            }
            return wanted[owner] == FREE ? 1 : 0;
        }

        int release(int owner, int first, int behind) {
            if (!isOwner(owner)) return NO_SUCH;
            if (!isRange(first, behind)) return BAD_VALUE;
            int freed = freeRange(owner, first, behind);
            goThroughRow();
            return freed;
        }

        int withdraw(int owner) {
            if (!isOwner(owner)) return NO_SUCH;
            if (wanted[owner] == FREE) return NOT_POSSIBLE;
            int ticks = waited[owner];
            quitRow(owner);
            goThroughRow();
            return ticks;
        }

        int depart(int owner) {
            if (!isOwner(owner)) return NO_SUCH;
            int freed = strip(owner);
            goThroughRow();
            return freed;
        }

        int pass(int ticks) {
            if (ticks < 1 || ticks > MOST_TICKS) return BAD_VALUE;
            int before = gone;
            for (int i = 0; i < ticks; i++) {
                // Every change leaves a row in which none can be given; it stays so in a tick that ends none.
                if (endPatience()) goThroughRow();
                tick++;
            }
            return gone - before;
        }

        // ---- parts of the changes

        /** The first two steps of a tick; tells whether a request went away. */
        boolean endPatience() {
            int patience = settings[PATIENCE];
            int before = waiting;
            // From the end, as a request that goes away moves those behind it.
            for (int i = before - 1; i >= 0; i--) {
                int owner = row[i];
                waited[owner]++;
                if (patience > 0 && waited[owner] >= patience) quitRow(owner);
            }
            gone += before - waiting;
            return waiting < before;
        }

        int strip(int owner) {
            quitRow(owner);
            return freeRange(owner, 0, PLACES);
        }

        int freeRange(int owner, int first, int behind) {
            int freed = 0;
            for (int place = first; place < behind; place++) {
                if (kindAt(owner, place) != FREE) {
                    lock(owner, place, FREE);
                    freed++;
                }
            }
            return freed;
        }

        void lock(int owner, int place, int kind) {
            int bit = 1 << owner;
            for (int weaker = READ; weaker <= kind; weaker++) {
                atLeast[weaker][place] |= bit;
            }
            for (int stronger = kind + 1; stronger <= WRITE; stronger++) {
                atLeast[stronger][place] &= ~bit;
            }
        }

        void give(int owner, int kind, int first, int behind) {
            for (int place = first; place < behind; place++) {
                lock(owner, place, kind);
            }
            given[owner]++;
        }

        void join(int owner, int kind, int first, int behind) {
            if (waiting >= OWNERS) return;
            row[waiting] = owner;
            waiting++;
            wanted[owner] = kind;
            from[owner] = first;
            to[owner] = behind;
            waited[owner] = 0;
        }

        void quitRow(int owner) {
            int place = placeInRow(owner);
            if (place < 0) return;
            waiting--;
            for (int i = place; i < waiting; i++) {
                row[i] = row[i + 1];
            }
            wanted[owner] = FREE;
        }

        /** Tells whose requests were given, as a set. */
        int goThroughRow() {
            int set = 0;
            int place = 0;
            // With each request that is given the row begins anew, one shorter: at most 8 + 7 + .. + 1 steps.
            for (int steps = 0; steps < OWNERS * OWNERS && place < waiting; steps++) {
                if (waitedForAt(place) != 0) {
                    place++;
                    continue;
                }
                int owner = row[place];
                give(owner, wanted[owner], from[owner], to[owner]);
                longestWait[owner] = Math.max(longestWait[owner], waited[owner]);
                quitRow(owner);
                set |= 1 << owner;
                place = 0;
            }
            return set;
        }

        // ---- who waits for whom

        /**
         * The owners for whom an owner would wait with a request behind the first requests of the row, as many
         * as ahead tells. No place of the range stops the request exactly if there are none.
         */
        int inWay(int owner, int kind, int first, int behind, int ahead) {
            int bit = 1 << owner;
            int[] strong = atLeast[kind];
            int[] against = atLeast[APART - kind];
            int set = 0;
            for (int place = first; place < behind; place++) {
                if ((strong[place] & bit) == 0) set |= against[place];
            }
            for (int i = 0; i < ahead && settings[FAIR] == 1; i++) {
                int other = row[i];
                if (wanted[other] + kind >= APART && !holds(set, other)) {
                    int start = Math.max(first, from[other]);
                    int end = Math.min(behind, to[other]);
                    if (isWeaker(owner, kind, start, end)) set |= 1 << other;
                }
            }
            return set & ~bit;
        }

        boolean isWeaker(int owner, int kind, int first, int behind) {
            int bit = 1 << owner;
            int[] strong = atLeast[kind];
            for (int place = first; place < behind; place++) {
                if ((strong[place] & bit) == 0) return true;
            }
            return false;
        }

        int waitedForAt(int placeInRow) {
            int owner = row[placeInRow];
            return inWay(owner, wanted[owner], from[owner], to[owner], placeInRow);
        }

        int waitedFor(int owner) {
            int place = placeInRow(owner);
            return place < 0 ? 0 : waitedForAt(place);
        }

        /** The ring of an owner, 0 if it is in no circle. */
        int ringOf(int owner) {
            for (int i = 0; i < OWNERS; i++) {
                reach[i] = 0;
            }
            for (int place = 0; place < waiting; place++) {
                reach[row[place]] = waitedForAt(place);
            }
            for (int over = 0; over < OWNERS; over++) {
                for (int i = 0; i < OWNERS; i++) {
                    if (holds(reach[i], over)) reach[i] |= reach[over];
                }
            }
            int set = 0;
            for (int i = 0; i < OWNERS; i++) {
                if (holds(reach[owner], i) && holds(reach[i], owner)) set |= 1 << i;
            }
            return set;
        }

        // ---- breaking a circle

        /** The owner of a ring who gives its places up; -1 never, as some owner of a ring has a place to give up. */
        int leastHarmed(int ring) {
            int least = PLACES + 1;
            int found = -1;
            for (int owner = 0; owner < OWNERS; owner++) {
                int many = holds(ring, owner) ? placesInDispute(owner, ring) : 0;
                if (many > 0 && many <= least) {
                    least = many;
                    found = owner;
                }
            }
            return found;
        }

        int placesInDispute(int owner, int ring) {
            int many = 0;
            for (int place = 0; place < PLACES; place++) {
                if (isInDispute(owner, place, ring)) many++;
            }
            return many;
        }

        /** Tells whether an owner's kind at a place stops the request of another owner of the ring. */
        boolean isInDispute(int owner, int place, int ring) {
            int kind = kindAt(owner, place);
            if (kind == FREE) return false;
            for (int i = 0; i < waiting; i++) {
                int other = row[i];
                if (other != owner && holds(ring, other) && from[other] <= place && place < to[other]
                        && kind + wanted[other] >= APART && kindAt(other, place) < wanted[other]) {
                    return true;
                }
            }
            return false;
        }

        void giveUp(int owner, int ring) {
            if (!isOwner(owner)) return;
            for (int place = 0; place < PLACES; place++) {
                if (isInDispute(owner, place, ring)) {
                    lock(owner, place, FREE);
                    givenUp[owner]++;
                }
            }
            breaks++;
        }

        // ---- numbers

        int kindAt(int owner, int place) {
            int bit = 1 << owner;
            if ((atLeast[WRITE][place] & bit) != 0) return WRITE;
            if ((atLeast[MEAN][place] & bit) != 0) return MEAN;
            return (atLeast[READ][place] & bit) != 0 ? READ : FREE;
        }

        int placeInRow(int owner) {
            for (int i = 0; i < waiting; i++) {
                if (row[i] == owner) return i;
            }
            return -1;
        }

        int placesOf(int owner, int kind) {
            int many = 0;
            for (int place = 0; place < PLACES; place++) {
                if (kindAt(owner, place) == kind) many++;
            }
            return many;
        }

        int placesLocked() {
            int many = 0;
            for (int place = 0; place < PLACES; place++) {
                if (atLeast[READ][place] != 0) many++;
            }
            return many;
        }

        int allGiven() {
            int sum = 0;
            for (int owner = 0; owner < OWNERS; owner++) {
                sum += given[owner];
            }
            return sum;
        }

        boolean isStart(int owner, int place) {
            int kind = kindAt(owner, place);
            return kind != FREE && (place == 0 || kindAt(owner, place - 1) != kind);
        }

        int stretchesOf(int owner) {
            int many = 0;
            for (int place = 0; place < PLACES; place++) {
                if (isStart(owner, place)) many++;
            }
            return many;
        }

        /** The first place of a stretch, -1 if there is no such stretch. */
        int startOfStretch(int owner, int stretch) {
            int before = 0;
            for (int place = 0; place < PLACES; place++) {
                if (isStart(owner, place)) {
                    if (before == stretch) return place;
                    before++;
                }
            }
            return -1;
        }

        int lengthOfStretch(int owner, int start) {
            int kind = kindAt(owner, start);
            int behind = start + 1;
            while (behind < PLACES && kindAt(owner, behind) == kind) {
                behind++;
            }
            return behind - start;
        }
    }

    /** The states before the latest changes, in a round of which one place is always spare. */
    private static final class History {
        private static final int ROUND = MOST_UNDONE + 1;

        final Locks[] states = new Locks[ROUND];
        int spare;
        int kept;

        /** Notes the state before a change, which settle() then keeps or lets go. */
        void note(Locks state) {
            Locks noted = states[spare];
            if (noted == null) {
                noted = new Locks();
                states[spare] = noted;
            }
            noted.become(state);
        }

        int settle(int answer) {
            if (answer >= 0) {
                spare = (spare + 1) % ROUND;
                kept = Math.min(kept + 1, MOST_UNDONE);
            }
            return answer;
        }

        void goBack(Locks state) {
            int latest = (spare + MOST_UNDONE) % ROUND;
            Locks noted = states[latest];
            if (kept == 0 || noted == null) return;
            state.become(noted);
            spare = latest;
            kept--;
        }
    }

    /** The pad, and the reading of its orders. */
    private static final class Pad {
        final char[] text = new char[MOST_CHARACTERS];
        int length;
        int position;

        // The order that was read last.
        char letter;
        int owner;
        int first;
        int second;
        int wait;

        int type(long characters) {
            int many = 0;
            long rest = characters;
            for (int i = 0; i < MOST_AT_ONCE && rest != 0; i++) {
                long code = rest & 255;
                // Also 8 bits that are 0 with something above them.
                if (code < LEAST_CODE || code > GREATEST_CODE) return BAD_VALUE;
                rest >>>= 8;
                many++;
            }
            if (many == 0) return BAD_VALUE;
            if (length + many > MOST_CHARACTERS) return TOO_MANY;
            rest = characters;
            for (int i = length + many - 1; i >= length; i--) {
                text[i] = (char) (rest & 255);
                rest >>>= 8;
            }
            length += many;
            return length;
        }

        int erase() {
            int before = length;
            length = 0;
            return before;
        }

        int firstFault() {
            position = 0;
            boolean more = true;
            for (int orders = 0; orders < MOST_CHARACTERS && more; orders++) {
                if (!readOrder()) return position;
                more = skip(';');
            }
            return position < length ? position : NONE;
        }

        /** Reads an order, or as much of it as stands there; tells whether it stands there whole. */
        boolean readOrder() {
            letter = sign();
            wait = 0;
            if ("rmwfcxt".indexOf(letter) < 0) return false;
            position++;
            if (letter == 't') {
                first = readNumber();
                return first >= 0;
            }
            if (!readOwner()) return false;
            if (letter == 'c' || letter == 'x') return true;
            if (!readRange()) return false;
            if (letter != 'f' && skip('!')) wait = 1;
            return true;
        }

        boolean readOwner() {
            owner = digit();
            if (!isOwner(owner)) return false;
            position++;
            return true;
        }

        boolean readRange() {
            if (!skip(':')) return false;
            first = readNumber();
            if (first < 0 || !skip('-')) return false;
            second = readNumber();
            return second >= 0;
        }

        /** Reads a number up to where it ends or the next digit can't stand; -1 if there is none. */
        int readNumber() {
            int number = digit();
            if (number < 0) return -1;
            position++;
            // A 0 ends at once, as no number has leading zeros.
            for (int more = 1; more < MOST_DIGITS && number > 0; more++) {
                int digit = digit();
                if (digit < 0 || number * 10 + digit > MOST_NUMBER) return number;
                number = number * 10 + digit;
                position++;
            }
            return number;
        }

        boolean skip(char sign) {
            if (sign() != sign) return false;
            position++;
            return true;
        }

        int digit() {
            char sign = sign();
            return sign >= '0' && sign <= '9' ? sign - '0' : -1;
        }

        /** The character at the position, 0 (which no pad holds) behind the last one. */
        char sign() {
            return position >= 0 && position < length ? text[position] : 0;
        }
    }
}
