/**
 * A machine that wraps sweets: lanes with hoppers and foil, tins, flavours that are kept apart,
 * questions about what would be, orders that are read from a text, undo, and saved states.
 *
 * All states are made in the constructor and used again, so that no call makes an object.
 */
public final class SweetWraps {
    public static final int NO_SUCH = -1, BAD_VALUE = -2, BAD_TEXT = -3, TOO_MANY = -4, NOT_POSSIBLE = -5, NONE = -6;
    public static final int SPEED = 0, TEAR = 1, ROOM = 2, TWIST = 3;

    private static final int LANES = 4, FLAVOURS = 6, HEAPS = 6, TINS = 16, SLOTS = 2;
    private static final int MOST_IN_HEAP_CALL = 200, MOST_IN_HOPPER = 999;
    private static final int MOST_IN_FOIL_CALL = 999, MOST_FOIL = 9999;
    private static final int MOST_IN_RUN_CALL = 99, MOST_TICKS = 9999;
    private static final int MOST_TICKS_ASKED = 50, MOST_TICKS_OF_STANDS = 200;
    private static final int PAD_ROOM = 80, MOST_CHARACTERS = 8, MOST_VALUES = 3, MOST_UNDONE = 6;
    private static final int FIRST_CODE = 33, LAST_CODE = 126;
    private static final int LEAST_PERIOD = 2, MOST_NUMBER = 999;
    private static final int EMPTY_HOPPER = 1, NO_TIN = 2, TOO_LITTLE_FOIL = 3;
    private static final int[] LEAST_OF_SETTING = {1, 4, 1, 1};
    private static final int[] MOST_OF_SETTING = {9, 60, 99, 2};

    private final Machine now = new Machine();
    private final Machine trial = new Machine();
    private final History history = new History();
    private final Machine[] slots = new Machine[SLOTS];
    private final boolean[] saved = new boolean[SLOTS];
    private final Pad pad = new Pad();

    public SweetWraps() {
        for (int slot = 0; slot < slots.length; slot++) {
            slots[slot] = new Machine();
        }
    }

    // ---- changes

    public int set(int setting, int value) {
        history.prepare(now);
        return history.record(now.changeSetting(setting, value));
    }

    public int heap(int lane, int flavour, int many) {
        history.prepare(now);
        return history.record(now.addSweets(lane, flavour, many));
    }

    public int foil(int lane, int length) {
        history.prepare(now);
        return history.record(now.addFoil(lane, length));
    }

    public int tin() {
        history.prepare(now);
        return history.record(now.addTin());
    }

    public int ship(int tin) {
        history.prepare(now);
        return history.record(now.shipTin(tin));
    }

    public int apart(int flavour, int other) {
        history.prepare(now);
        return history.record(now.changeApart(flavour, other));
    }

    public int run(int ticks) {
        history.prepare(now);
        return history.record(now.runTicks(ticks));
    }

    // ---- what there is

    public int of(int lane, int what) {
        return now.laneFact(lane, what);
    }

    public int ofHeap(int lane, int heap, int what) {
        return now.heapFact(lane, heap, what);
    }

    public int ofTin(int tin, int what) {
        return now.tinFact(tin, what);
    }

    public int inTin(int tin, int flavour) {
        return now.sweetsInTin(tin, flavour);
    }

    public int flavour(int flavour, int what) {
        return now.flavourFact(flavour, what);
    }

    public int byRoom(int rank) {
        return now.tinOfRank(rank);
    }

    public int byCount(int rank) {
        return now.flavourOfRank(rank);
    }

    public int count(int what) {
        switch (what) {
            case 15: return pad.length;
            case 16: return history.depth;
            default: return now.number(what);
        }
    }

    // ---- what if; nothing changes

    public int stands(int lane, int what) {
        if (!isIndex(lane, LANES)) return NO_SUCH;
        if (what != 0 && what != 1) return BAD_VALUE;
        trial.copyFrom(now);
        for (int tick = 1; tick <= MOST_TICKS_OF_STANDS; tick++) {
            trial.work(1);
            int reason = trial.lanes[lane].lastReason;
            if (reason != 0) return what == 0 ? tick : reason;
        }
        return NONE;
    }

    public int bestSpeed(int ticks, int what) {
        if (!isBetween(ticks, 1, MOST_TICKS_ASKED)) return BAD_VALUE;
        if (what != 0 && what != 1) return BAD_VALUE;
        int bestSpeed = 0;
        int most = -1;
        for (int speed = LEAST_OF_SETTING[SPEED]; speed <= MOST_OF_SETTING[SPEED]; speed++) {
            trial.copyFrom(now);
            trial.settings[SPEED] = speed;
            int wrapped = trial.work(ticks);
            if (wrapped > most) {
                bestSpeed = speed;
                most = wrapped;
            }
        }
        return what == 0 ? bestSpeed : most;
    }

    public int ifApart(int flavour, int other, int ticks) {
        if (!isIndex(flavour, FLAVOURS) || !isIndex(other, FLAVOURS)) return NO_SUCH;
        if (flavour == other || !isBetween(ticks, 1, MOST_TICKS_ASKED)) return BAD_VALUE;
        trial.copyFrom(now);
        trial.switchApart(flavour, other);
        return trial.work(ticks);
    }

    public int tinsFor() {
        return now.tinsForHoppers();
    }

    // ---- texts

    public int put(long characters) {
        return pad.append(characters);
    }

    public int wipe() {
        return pad.clear();
    }

    public int fault() {
        return pad.findFault();
    }

    public int carryOut() {
        if (pad.findFault() != NONE) return BAD_TEXT;
        history.prepare(now);
        pad.startReading();
        int carried = 0;
        for (int order = 0; order < PAD_ROOM; order++) {
            if (!pad.readOrder() || carryOrder() < 0) break;
            carried++;
            if (!pad.readSign(';')) break;
        }
        pad.clear();
        return history.record(carried);
    }

    /** Goes past the public calls, because an order of a text records nothing by itself. */
    private int carryOrder() {
        switch (pad.kind) {
            case 'h': return now.addSweets(pad.values[0], pad.values[1], pad.values[2]);
            case 'f': return now.addFoil(pad.values[0], pad.values[1]);
            case 't': return now.addTin();
            case 's': return now.shipTin(pad.values[0]);
            case 'a': return now.changeApart(pad.values[0], pad.values[1]);
            case 'r': return now.runTicks(pad.values[0]);
            default: return BAD_TEXT;
        }
    }

    // ---- undo, saving

    public int undo() {
        return history.stepBack(now);
    }

    public int save(int slot) {
        if (!isIndex(slot, SLOTS)) return BAD_VALUE;
        slots[slot].copyFrom(now);
        saved[slot] = true;
        return now.tinCount;
    }

    public int restore(int slot) {
        if (!isIndex(slot, SLOTS)) return BAD_VALUE;
        if (!saved[slot]) return NOT_POSSIBLE;
        history.prepare(now);
        now.copyFrom(slots[slot]);
        return history.record(now.tinCount);
    }

    // ---- helpers

    private static boolean isIndex(int value, int length) {
        return value >= 0 && value < length;
    }

    private static boolean isBetween(int value, int least, int most) {
        return value >= least && value <= most;
    }

    private static void copyNumbers(int[] from, int[] to) {
        System.arraycopy(from, 0, to, 0, Math.min(from.length, to.length));
    }

    /** All that undo and saved states bring back: settings, lanes, tins, flavours kept apart, ticks. */
    private static final class Machine {
        final int[] settings = {3, 20, 12, 1};
        final Lane[] lanes = new Lane[LANES];
        final Tin[] tins = new Tin[TINS];
        final int[] apartFrom = new int[FLAVOURS];
        int tinCount;
        int ticks;
        int foilPulled;
        int foilWasted;

        Machine() {
            for (int lane = 0; lane < lanes.length; lane++) {
                lanes[lane] = new Lane();
            }
            for (int tin = 0; tin < tins.length; tin++) {
                tins[tin] = new Tin();
            }
        }

        void copyFrom(Machine other) {
            copyNumbers(other.settings, settings);
            copyNumbers(other.apartFrom, apartFrom);
            for (int lane = 0; lane < LANES; lane++) {
                lanes[lane].copyFrom(other.lanes[lane]);
            }
            for (int tin = 0; tin < TINS; tin++) {
                tins[tin].copyFrom(other.tins[tin]);
            }
            tinCount = other.tinCount;
            ticks = other.ticks;
            foilPulled = other.foilPulled;
            foilWasted = other.foilWasted;
        }

        // -- changes: each one checks first, so that an error changes nothing

        int changeSetting(int setting, int value) {
            if (!isIndex(setting, settings.length)) return BAD_VALUE;
            if (!isBetween(value, LEAST_OF_SETTING[setting], MOST_OF_SETTING[setting])) return BAD_VALUE;
            int previous = settings[setting];
            settings[setting] = value;
            return previous;
        }

        int addSweets(int lane, int flavour, int many) {
            if (!isIndex(lane, LANES) || !isIndex(flavour, FLAVOURS)) return NO_SUCH;
            if (!isBetween(many, 1, MOST_IN_HEAP_CALL)) return BAD_VALUE;
            return lanes[lane].addSweets(flavour, many);
        }

        int addFoil(int lane, int length) {
            if (!isIndex(lane, LANES)) return NO_SUCH;
            if (!isBetween(length, 1, MOST_IN_FOIL_CALL)) return BAD_VALUE;
            if (lanes[lane].foilLeft + length > MOST_FOIL) return TOO_MANY;
            lanes[lane].foilLeft += length;
            return lanes[lane].foilLeft;
        }

        int addTin() {
            if (tinCount >= TINS) return TOO_MANY;
            tinCount++;
            return tinCount - 1;
        }

        int shipTin(int tin) {
            if (!isTin(tin)) return NO_SUCH;
            if (tins[tin].shipped || tins[tin].total == 0) return NOT_POSSIBLE;
            tins[tin].shipped = true;
            return tins[tin].total;
        }

        int changeApart(int flavour, int other) {
            if (!isIndex(flavour, FLAVOURS) || !isIndex(other, FLAVOURS)) return NO_SUCH;
            if (flavour == other) return BAD_VALUE;
            boolean apartNow = (apartFrom[flavour] & 1 << other) != 0;
            if (!apartNow && isOpenTinWithBoth(flavour, other)) return NOT_POSSIBLE;
            switchApart(flavour, other);
            return apartNow ? 0 : 1;
        }

        /** Switches whatever the tins have; a pair that isn't two flavours switches nothing. */
        void switchApart(int flavour, int other) {
            if (!isIndex(flavour, FLAVOURS) || !isIndex(other, FLAVOURS) || flavour == other) return;
            apartFrom[flavour] ^= 1 << other;
            apartFrom[other] ^= 1 << flavour;
        }

        int runTicks(int many) {
            if (!isBetween(many, 1, MOST_IN_RUN_CALL)) return BAD_VALUE;
            if (ticks + many > MOST_TICKS) return NOT_POSSIBLE;
            return work(many);
        }

        // -- ticks

        /** Works for some ticks, without a look at the bound of ticks; answers how many sweets are wrapped. */
        int work(int many) {
            int wrapped = 0;
            for (int tick = 0; tick < many; tick++) {
                for (int lane = 0; lane < LANES; lane++) {
                    wrapped += workLane(lanes[lane]);
                }
                ticks++;
            }
            return wrapped;
        }

        private int workLane(Lane lane) {
            int length = foilOfPull();
            int period = pullsUntilTear();
            int wrapped = 0;
            lane.lastReason = 0;
            for (int attempt = 0; attempt < settings[SPEED]; attempt++) {
                int flavour = lane.nextFlavour();
                int tin = tinFor(flavour);
                lane.lastReason = reasonOf(lane, tin);
                if (lane.lastReason != 0 || !isIndex(tin, TINS)) return wrapped;
                foilPulled += length;
                if (lane.pullTears(length, period)) {
                    foilWasted += length;
                } else {
                    tins[tin].add(flavour);
                    lane.wrapNext();
                    wrapped++;
                }
            }
            return wrapped;
        }

        private int foilOfPull() {
            return 2 + settings[TWIST];
        }

        private int pullsUntilTear() {
            int speed = settings[SPEED];
            return speed < 1 ? LEAST_PERIOD : Math.max(LEAST_PERIOD, settings[TEAR] / speed);
        }

        /** Why a try of a lane, whose next sweet a tin takes or NONE, fails; 0 if it does not. */
        private int reasonOf(Lane lane, int tin) {
            if (lane.heaps == 0) return EMPTY_HOPPER;
            if (tin == NONE) return NO_TIN;
            return lane.foilLeft < foilOfPull() ? TOO_LITTLE_FOIL : 0;
        }

        /** Why the next try of a lane would fail, as it is now; 0 if it would not. */
        private int reasonNow(Lane lane) {
            return reasonOf(lane, tinFor(lane.nextFlavour()));
        }

        /** The lowest tin that takes a sweet of a flavour; NONE if no tin does. */
        private int tinFor(int flavour) {
            if (!isIndex(flavour, FLAVOURS)) return NONE;
            for (int tin = 0; tin < tinCount && tin < TINS; tin++) {
                if (tins[tin].hasRoomFor(settings[ROOM], apartFrom[flavour])) return tin;
            }
            return NONE;
        }

        // -- lanes

        int laneFact(int lane, int what) {
            if (!isIndex(lane, LANES)) return NO_SUCH;
            Lane asked = lanes[lane];
            switch (what) {
                case 0: return asked.sweetsInHopper();
                case 1: return asked.heaps;
                case 2: return asked.nextFlavour();
                case 3: return asked.foilLeft;
                case 4: return asked.pulls;
                case 5: return asked.torn;
                case 6: return asked.wrapped;
                case 7: return reasonNow(asked);
                default: return BAD_VALUE;
            }
        }

        int heapFact(int lane, int heap, int what) {
            if (!isIndex(lane, LANES) || !lanes[lane].isHeap(heap)) return NO_SUCH;
            switch (what) {
                case 0: return lanes[lane].flavours[heap];
                case 1: return lanes[lane].sweets[heap];
                default: return BAD_VALUE;
            }
        }

        /** The sum of one thing over all lanes, by the numbers that laneFact has for it. */
        private int overLanes(int what) {
            int sum = 0;
            for (int lane = 0; lane < LANES; lane++) {
                sum += laneFact(lane, what);
            }
            return sum;
        }

        private int standingLanes() {
            int set = 0;
            for (int lane = 0; lane < LANES; lane++) {
                if (reasonNow(lanes[lane]) != 0) set |= 1 << lane;
            }
            return set;
        }

        // -- tins

        private boolean isTin(int tin) {
            return isIndex(tin, tinCount) && tin < TINS;
        }

        private boolean isOpen(int tin) {
            return isTin(tin) && !tins[tin].shipped;
        }

        private boolean isOpenTinWithBoth(int flavour, int other) {
            int both = 1 << flavour | 1 << other;
            for (int tin = 0; tin < TINS; tin++) {
                if (isOpen(tin) && (tins[tin].flavours & both) == both) return true;
            }
            return false;
        }

        int tinFact(int tin, int what) {
            if (!isTin(tin)) return NO_SUCH;
            switch (what) {
                case 0: return tins[tin].total;
                case 1: return tins[tin].shipped ? 1 : 0;
                case 2: return tins[tin].flavours;
                case 3: return flavoursTakenBy(tins[tin]);
                default: return BAD_VALUE;
            }
        }

        private int flavoursTakenBy(Tin tin) {
            int set = 0;
            for (int flavour = 0; flavour < FLAVOURS; flavour++) {
                if (tin.hasRoomFor(settings[ROOM], apartFrom[flavour])) set |= 1 << flavour;
            }
            return set;
        }

        int sweetsInTin(int tin, int flavour) {
            if (!isTin(tin) || !isIndex(flavour, FLAVOURS)) return NO_SUCH;
            return tins[tin].sweets[flavour];
        }

        private int tinsThatAre(boolean shipped) {
            int set = 0;
            for (int tin = 0; tin < TINS; tin++) {
                if (isTin(tin) && tins[tin].shipped == shipped) set |= 1 << tin;
            }
            return set;
        }

        private int sweetsShipped() {
            int sum = 0;
            for (int flavour = 0; flavour < FLAVOURS; flavour++) {
                sum += sweetsInTins(flavour, true);
            }
            return sum;
        }

        int tinOfRank(int rank) {
            for (int tin = 0; tin < TINS; tin++) {
                if (isOpen(tin) && openTinsAhead(tin) == rank) return tin;
            }
            return NO_SUCH;
        }

        private int openTinsAhead(int tin) {
            int ahead = 0;
            for (int other = 0; other < TINS; other++) {
                boolean first = tins[other].total > tins[tin].total
                        || tins[other].total == tins[tin].total && other < tin;
                if (isOpen(other) && first) ahead++;
            }
            return ahead;
        }

        // -- flavours

        int flavourFact(int flavour, int what) {
            if (!isIndex(flavour, FLAVOURS)) return NO_SUCH;
            switch (what) {
                case 0: return sweetsInHoppers(flavour);
                case 1: return sweetsInTins(flavour, false);
                case 2: return sweetsInTins(flavour, true);
                case 3: return apartFrom[flavour];
                default: return BAD_VALUE;
            }
        }

        private int sweetsInHoppers(int flavour) {
            int sum = 0;
            for (int lane = 0; lane < LANES; lane++) {
                sum += lanes[lane].sweetsOf(flavour);
            }
            return sum;
        }

        /** Tins that have not come yet are empty, and so add nothing. */
        private int sweetsInTins(int flavour, boolean shipped) {
            int sum = 0;
            for (int tin = 0; tin < TINS; tin++) {
                if (tins[tin].shipped == shipped) sum += tins[tin].sweets[flavour];
            }
            return sum;
        }

        private int sweetsInAllTins(int flavour) {
            return sweetsInTins(flavour, false) + sweetsInTins(flavour, true);
        }

        int flavourOfRank(int rank) {
            for (int flavour = 0; flavour < FLAVOURS; flavour++) {
                if (sweetsInAllTins(flavour) > 0 && flavoursAhead(flavour) == rank) return flavour;
            }
            return NO_SUCH;
        }

        private int flavoursAhead(int flavour) {
            int sweets = sweetsInAllTins(flavour);
            int ahead = 0;
            for (int other = 0; other < FLAVOURS; other++) {
                int otherSweets = sweetsInAllTins(other);
                if (otherSweets > sweets || otherSweets == sweets && other < flavour) ahead++;
            }
            return ahead;
        }

        int tinsForHoppers() {
            int room = settings[ROOM];
            if (room < 1) return 0;
            int needed = 0;
            for (int flavour = 0; flavour < FLAVOURS; flavour++) {
                needed += (sweetsInHoppers(flavour) + room - 1) / room;
            }
            return needed;
        }

        // -- numbers of the whole machine

        int number(int what) {
            switch (what) {
                case 0: return ticks;
                case 1: return tinCount;
                case 2: return tinsThatAre(false);
                case 3: return tinsThatAre(true);
                case 4: return overLanes(0);
                case 5: return overLanes(6);
                case 6: return sweetsShipped();
                case 7: return overLanes(3);
                case 8: return foilPulled;
                case 9: return foilWasted;
                case 10: return standingLanes();
                case 11: return settings[SPEED];
                case 12: return settings[TEAR];
                case 13: return settings[ROOM];
                case 14: return settings[TWIST];
                default: return BAD_VALUE;
            }
        }
    }

    /** A lane: its hopper, the first heap ahead, its foil, and what it has done so far. */
    private static final class Lane {
        final int[] flavours = new int[HEAPS];
        final int[] sweets = new int[HEAPS];
        int heaps;
        int foilLeft;
        int pulls;
        int torn;
        int wrapped;
        /** Why the lane stood still in the tick that was worked last; no part of what is copied. */
        int lastReason;

        void copyFrom(Lane other) {
            copyNumbers(other.flavours, flavours);
            copyNumbers(other.sweets, sweets);
            heaps = other.heaps;
            foilLeft = other.foilLeft;
            pulls = other.pulls;
            torn = other.torn;
            wrapped = other.wrapped;
        }

        boolean isHeap(int heap) {
            return isIndex(heap, heaps) && heap < HEAPS;
        }

        int nextFlavour() {
            return heaps > 0 ? flavours[0] : NONE;
        }

        int sweetsInHopper() {
            int sum = 0;
            for (int heap = 0; heap < heaps && heap < HEAPS; heap++) {
                sum += sweets[heap];
            }
            return sum;
        }

        int sweetsOf(int flavour) {
            int sum = 0;
            for (int heap = 0; heap < heaps && heap < HEAPS; heap++) {
                if (flavours[heap] == flavour) sum += sweets[heap];
            }
            return sum;
        }

        int addSweets(int flavour, int many) {
            boolean joinsLast = isHeap(heaps - 1) && flavours[heaps - 1] == flavour;
            int place = joinsLast ? heaps - 1 : heaps;
            if (!isIndex(place, HEAPS)) return TOO_MANY;
            if (sweetsInHopper() + many > MOST_IN_HOPPER) return TOO_MANY;
            flavours[place] = flavour;
            sweets[place] = joinsLast ? sweets[place] + many : many;
            heaps = place + 1;
            return sweetsInHopper();
        }

        /** Pulls foil for one sweet, and tells whether it is torn. */
        boolean pullTears(int length, int period) {
            foilLeft -= length;
            pulls++;
            if (period < 1 || pulls % period != 0) return false;
            torn++;
            return true;
        }

        /** The first sweet leaves the hopper, wrapped; a heap without sweets is gone. */
        void wrapNext() {
            wrapped++;
            sweets[0]--;
            if (sweets[0] > 0) return;
            heaps--;
            for (int heap = 0; heap < heaps && heap + 1 < HEAPS; heap++) {
                flavours[heap] = flavours[heap + 1];
                sweets[heap] = sweets[heap + 1];
            }
        }
    }

    /** A tin, come or not yet. */
    private static final class Tin {
        final int[] sweets = new int[FLAVOURS];
        int flavours;
        int total;
        boolean shipped;

        void copyFrom(Tin other) {
            copyNumbers(other.sweets, sweets);
            flavours = other.flavours;
            total = other.total;
            shipped = other.shipped;
        }

        boolean hasRoomFor(int room, int apartFromIt) {
            return !shipped && total < room && (flavours & apartFromIt) == 0;
        }

        void add(int flavour) {
            if (!isIndex(flavour, FLAVOURS)) return;
            sweets[flavour]++;
            flavours |= 1 << flavour;
            total++;
        }
    }

    /** The states before the latest changes, the oldest one first. */
    private static final class History {
        final Machine[] states = new Machine[MOST_UNDONE];
        Machine prepared = new Machine();
        int depth;

        History() {
            for (int state = 0; state < states.length; state++) {
                states[state] = new Machine();
            }
        }

        /** Keeps the state before a change, which is recorded only if the change answers no error. */
        void prepare(Machine now) {
            prepared.copyFrom(now);
        }

        /** Records the prepared state unless the answer is an error; gives the answer back. */
        int record(int answer) {
            if (answer < 0) return answer;
            if (depth >= MOST_UNDONE) dropOldest();
            if (!isIndex(depth, MOST_UNDONE)) return answer;
            Machine free = states[depth];
            states[depth] = prepared;
            prepared = free;
            depth++;
            return answer;
        }

        private void dropOldest() {
            Machine oldest = states[0];
            for (int state = 0; state + 1 < states.length; state++) {
                states[state] = states[state + 1];
            }
            states[MOST_UNDONE - 1] = oldest;
            depth = MOST_UNDONE - 1;
        }

        int stepBack(Machine now) {
            if (!isIndex(depth - 1, MOST_UNDONE)) return NOT_POSSIBLE;
            depth--;
            now.copyFrom(states[depth]);
            return depth;
        }
    }

    /** The text of orders, and its reading from left to right: where that fails, its place is the fault. */
    private static final class Pad {
        final char[] signs = new char[PAD_ROOM];
        final int[] values = new int[MOST_VALUES];
        int length;
        int place;
        int kind;
        int valueCount;

        // -- writing

        int append(long characters) {
            int many = charactersIn(characters);
            if (many < 1) return BAD_VALUE;
            if (length + many > PAD_ROOM) return TOO_MANY;
            long rest = characters;
            for (int index = length + many - 1; index >= length && isIndex(index, PAD_ROOM); index--) {
                signs[index] = (char) (rest & 255);
                rest >>>= 8;
            }
            length += many;
            return length;
        }

        /** How many characters a number gives; 0 if it is no row of good ones. */
        private static int charactersIn(long characters) {
            long rest = characters;
            int many = 0;
            while (rest != 0 && many < MOST_CHARACTERS) {
                if (!isBetween((int) (rest & 255), FIRST_CODE, LAST_CODE)) return 0;
                rest >>>= 8;
                many++;
            }
            return many;
        }

        int clear() {
            int had = length;
            length = 0;
            return had;
        }

        // -- reading

        int findFault() {
            startReading();
            for (int order = 0; order < PAD_ROOM; order++) {
                if (!readOrder()) return place;
                if (place >= length) return NONE;
                if (!readSign(';')) return place;
            }
            return place;
        }

        void startReading() {
            place = 0;
        }

        /** Reads an order: its letter into kind, and what it is about into values. */
        boolean readOrder() {
            kind = signHere();
            valueCount = 0;
            String shape = shapeOf(kind);
            for (int part = 0; part < shape.length(); part++) {
                if (!readPart(shape.charAt(part))) return false;
            }
            return !shape.isEmpty();
        }

        /** The parts of an order behind one another: d is a digit, n a number, all else stands for itself. */
        private static String shapeOf(int kind) {
            switch (kind) {
                case 'h': return "hd.d*n";
                case 'f': return "fd+n";
                case 't': return "t";
                case 's': return "sn";
                case 'a': return "add";
                case 'r': return "rn";
                default: return "";
            }
        }

        private boolean readPart(int part) {
            switch (part) {
                case 'd': return readDigit();
                case 'n': return readNumber();
                default: return readSign(part);
            }
        }

        boolean readSign(int sign) {
            if (signHere() != sign) return false;
            place++;
            return true;
        }

        private boolean readDigit() {
            if (!isDigitHere()) return false;
            keepValue(signHere() - '0');
            place++;
            return true;
        }

        private boolean readNumber() {
            if (!isDigitHere()) return false;
            int value = signHere() - '0';
            place++;
            for (; place < length && isDigitHere(); place++) {
                int longer = value * 10 + signHere() - '0';
                if (value == 0 || longer > MOST_NUMBER) return false;
                value = longer;
            }
            keepValue(value);
            return true;
        }

        private void keepValue(int value) {
            if (!isIndex(valueCount, MOST_VALUES)) return;
            values[valueCount] = value;
            valueCount++;
        }

        private boolean isDigitHere() {
            return isBetween(signHere(), '0', '9');
        }

        /** The character at the place of the reading; 0, which the pad never holds, behind the end. */
        private int signHere() {
            return place >= 0 && place < length && place < PAD_ROOM ? signs[place] : 0;
        }
    }
}
