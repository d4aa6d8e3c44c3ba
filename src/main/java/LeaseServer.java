import java.util.Arrays;
import java.util.NoSuchElementException;

/**
 * An allocator of network addresses: pools with exclusions in relay groups, offers that are held, leases with
 * renewing and rebinding, probes that find conflicts, quarantines, reclaiming by time, a log, and statistics.
 */
public final class LeaseServer {
    private static final int ADDRESSES = 100;
    private static final int CLIENTS = 20;
    private static final int GROUPS = 3;
    private static final int POOLS = 5;
    private static final int LOG_ENTRIES = 30;

    private static final int LEAST_LEASE = 8;
    private static final int GREATEST_LEASE = 800;
    private static final int GREATEST_HOLD = 50;
    private static final int FIRST_HOLD = 10;
    private static final int GREATEST_QUARANTINE = 500;
    private static final int FIRST_QUARANTINE = 100;
    private static final int GREATEST_TICKS = 2000;
    private static final int GREATEST_TIME = 100000;

    /** Stands for no address, no client and no pool. */
    private static final int NONE = -1;

    /** Less than every time, so that fresh addresses come before all that became free at some time. */
    private static final int FRESH = -1;

    private static final int FREE = 0;
    private static final int OFFERED = 1;
    private static final int LEASED = 2;
    private static final int DECLINED = 3;

    private static final int IDLE = 0;
    private static final int WITH_OFFER = 1;
    private static final int NORMAL = 2;
    private static final int RENEWING = 3;
    private static final int REBINDING = 4;

    // The kinds of events, in the order in which those of one time are carried out.
    private static final int OFFER_END = 0;
    private static final int QUARANTINE_END = 1;
    private static final int RENEWAL_TIME = 2;
    private static final int REBINDING_TIME = 3;
    private static final int LEASE_END = 4;
    private static final int EVENT_KINDS = 5;

    /** Stands for no event, and is later than every event. */
    private static final int NEVER = 0x7fffffff;

    /** Far above the events of one advance: 20 clients, a renewal every 4 ticks, and 100 quarantines. */
    private static final int EVENT_BOUND = 1000000;

    private static final int OFFER_MADE = 1;
    private static final int LEASE_BEGAN = 2;
    private static final int LEASE_RENEWED = 3;
    private static final int RENEWAL_REFUSED = 4;
    private static final int LEASE_ENDED = 5;
    private static final int LEASE_RELEASED = 6;
    private static final int ADDRESS_DECLINED = 7;
    private static final int CONFLICT_FOUND = 8;
    private static final int OFFER_ENDED = 9;
    private static final int KIND_FACTOR = 1000;

    private final Log entries = new Log();
    private final State state = new State(entries);
    private final State saved = new State(entries);
    private boolean somethingSaved;

    public LeaseServer() {
    }

    public int addPool(int group, int first, int last, int lease)
            throws IndexOutOfBoundsException, IllegalArgumentException, IllegalStateException {
        requireGroup(group);
        if (!isAddress(first) || !isAddress(last) || first > last) {
            throw new IllegalArgumentException("the addresses are not a range of addresses");
        }
        if (lease < LEAST_LEASE || lease > GREATEST_LEASE) {
            throw new IllegalArgumentException("the lease time is out of range");
        }
        if (state.pools.count >= POOLS) {
            throw new IllegalStateException("there are no more pools to add");
        }
        if (state.pools.overlap(first, last)) {
            throw new IllegalStateException("a pool has one of the addresses");
        }
        state.addresses.makeFresh(first, last);
        return state.pools.append(group, first, last, lease);
    }

    public int removePool(int pool) throws IndexOutOfBoundsException, IllegalStateException {
        requirePool(pool);
        int first = state.pools.first[pool];
        int last = state.pools.last[pool];
        if (state.addresses.countIn(first, last, FREE) != last - first + 1) {
            throw new IllegalStateException("an address of the pool is not free");
        }
        return state.pools.drop(pool);
    }

    public int poolCount() {
        return state.pools.count;
    }

    public int pool(int pool, int part) throws IndexOutOfBoundsException, IllegalArgumentException {
        requirePool(pool);
        Pools pools = state.pools;
        switch (part) {
            case 0:
                return pools.group[pool];
            case 1:
                return pools.first[pool];
            case 2:
                return pools.last[pool];
            case 3:
                return pools.lease[pool];
            case 4:
                return state.addresses.countOfferable(pools.first[pool], pools.last[pool]);
            default:
                throw new IllegalArgumentException("the part is out of range");
        }
    }

    public int poolOf(int address) throws IndexOutOfBoundsException, NoSuchElementException {
        requireAddress(address);
        requireInPool(address);
        return state.pools.numberAt(address);
    }

    public boolean exclude(int address, boolean on) throws IndexOutOfBoundsException {
        requireAddress(address);
        boolean before = state.addresses.excluded[address];
        state.addresses.excluded[address] = on;
        return before;
    }

    public boolean setStranger(int address, boolean on) throws IndexOutOfBoundsException {
        requireAddress(address);
        boolean before = state.addresses.stranger[address];
        state.addresses.stranger[address] = on;
        return before;
    }

    public int setHold(int time) throws IllegalArgumentException {
        if (time < 1 || time > GREATEST_HOLD) {
            throw new IllegalArgumentException("the hold time is out of range");
        }
        int before = state.settings.hold;
        state.settings.hold = time;
        return before;
    }

    public int setQuarantine(int time) throws IllegalArgumentException {
        if (time < 1 || time > GREATEST_QUARANTINE) {
            throw new IllegalArgumentException("the quarantine is out of range");
        }
        int before = state.settings.quarantine;
        state.settings.quarantine = time;
        return before;
    }

    public boolean setDirect(int group, boolean up) throws IndexOutOfBoundsException {
        requireGroup(group);
        boolean before = state.settings.direct[group];
        state.settings.direct[group] = up;
        return before;
    }

    public boolean setRelay(int group, boolean up) throws IndexOutOfBoundsException {
        requireGroup(group);
        boolean before = state.settings.relay[group];
        state.settings.relay[group] = up;
        return before;
    }

    public int discover(int client, int group, int wanted)
            throws IndexOutOfBoundsException, IllegalStateException, NoSuchElementException {
        requireClient(client);
        requireGroup(group);
        if (state.clients.isBound(client)) {
            throw new IllegalStateException("the client is bound");
        }
        if (!state.settings.relay[group]) {
            throw new IllegalStateException("the relay path is down");
        }
        int address = state.makeOffer(client, group, wanted);
        if (address == NONE) {
            throw new NoSuchElementException("there is no candidate without a conflict");
        }
        return address;
    }

    public int accept(int client) throws IndexOutOfBoundsException, NoSuchElementException, IllegalStateException {
        requireClient(client);
        if (state.clients.state[client] != WITH_OFFER) {
            throw new NoSuchElementException("the client has no offer");
        }
        if (!state.relayUpFor(client)) {
            throw new IllegalStateException("the relay path is down");
        }
        state.beginLease(client);
        return state.clients.address[client];
    }

    public int release(int client) throws IndexOutOfBoundsException, NoSuchElementException {
        requireClient(client);
        requireBound(client);
        int address = state.clients.address[client];
        state.endHolding(client);
        entries.write(LEASE_RELEASED, address);
        return address;
    }

    public int decline(int client) throws IndexOutOfBoundsException, NoSuchElementException {
        requireClient(client);
        requireBound(client);
        int address = state.clients.address[client];
        state.declineLease(client);
        return address;
    }

    public boolean renew(int client) throws IndexOutOfBoundsException, NoSuchElementException, IllegalStateException {
        requireClient(client);
        requireBound(client);
        if (!state.directUpFor(client)) {
            throw new IllegalStateException("the direct path is down");
        }
        return state.renewOrRefuse(client);
    }

    public int advance(int ticks) throws IllegalArgumentException, IllegalStateException {
        if (ticks < 1 || ticks > GREATEST_TICKS) {
            throw new IllegalArgumentException("the ticks are out of range");
        }
        int target = state.settings.time + ticks;
        if (target > GREATEST_TIME) {
            throw new IllegalStateException("the time would be too great");
        }
        return state.passTimeTo(target);
    }

    public int advanceToEvent() throws NoSuchElementException, IllegalStateException {
        int event = state.earliestEvent();
        if (event == NEVER) {
            throw new NoSuchElementException("nothing ends by time");
        }
        int target = timeOfEvent(event);
        if (target > GREATEST_TIME) {
            throw new IllegalStateException("the time would be too great");
        }
        state.passTimeTo(target);
        return target;
    }

    public int time() {
        return state.settings.time;
    }

    public int clientState(int client) throws IndexOutOfBoundsException {
        requireClient(client);
        return state.clients.state[client];
    }

    public int addressOf(int client) throws IndexOutOfBoundsException, NoSuchElementException {
        requireClient(client);
        if (state.clients.state[client] == IDLE) {
            throw new NoSuchElementException("the client is idle");
        }
        return state.clients.address[client];
    }

    public int remembered(int client) throws IndexOutOfBoundsException, NoSuchElementException {
        requireClient(client);
        if (state.clients.lastLeased[client] == NONE) {
            throw new NoSuchElementException("the client remembers none");
        }
        return state.clients.lastLeased[client];
    }

    public int timer(int client, int part)
            throws IndexOutOfBoundsException, NoSuchElementException, IllegalArgumentException {
        requireClient(client);
        requireBound(client);
        switch (part) {
            case 0:
                return state.clients.renewal[client];
            case 1:
                return state.clients.rebinding[client];
            case 2:
                return state.leaseEnd(client);
            default:
                throw new IllegalArgumentException("the part is out of range");
        }
    }

    public int addressState(int address) throws IndexOutOfBoundsException, NoSuchElementException {
        requireAddress(address);
        requireInPool(address);
        return state.addresses.state[address];
    }

    public int holder(int address) throws IndexOutOfBoundsException, NoSuchElementException {
        requireAddress(address);
        requireInPool(address);
        if (state.addresses.holder[address] == NONE) {
            throw new NoSuchElementException("the address is neither offered nor leased");
        }
        return state.addresses.holder[address];
    }

    public int until(int address) throws IndexOutOfBoundsException, NoSuchElementException {
        requireAddress(address);
        requireInPool(address);
        if (state.addresses.state[address] == FREE) {
            throw new NoSuchElementException("the address is free");
        }
        return state.addresses.end[address];
    }

    public int freeSince(int address) throws IndexOutOfBoundsException, NoSuchElementException {
        requireAddress(address);
        requireInPool(address);
        if (state.addresses.state[address] != FREE) {
            throw new NoSuchElementException("the address is not free");
        }
        return state.addresses.freed[address];
    }

    public int nextCandidate(int client, int group) throws IndexOutOfBoundsException, NoSuchElementException {
        requireClient(client);
        requireGroup(group);
        int address = state.firstCandidate(client, group, NONE);
        if (address == NONE) {
            throw new NoSuchElementException("there is no candidate");
        }
        return address;
    }

    public int countState(int group, int state) throws IndexOutOfBoundsException, IllegalArgumentException {
        requireGroup(group);
        if (state < FREE || state > DECLINED) {
            throw new IllegalArgumentException("the state is out of range");
        }
        return this.state.countInGroup(group, state);
    }

    public int bound() {
        return state.clients.countBound();
    }

    public int conflicts() {
        return state.settings.conflicts;
    }

    public int logSize() {
        return entries.size;
    }

    public int log(int index) throws IndexOutOfBoundsException {
        if (index < 0 || index >= entries.size) {
            throw new IndexOutOfBoundsException("there is no such entry");
        }
        return entries.read(index);
    }

    public double utilization(int group) throws IndexOutOfBoundsException, ArithmeticException {
        requireGroup(group);
        int all = state.pools.countAddresses(group);
        if (all == 0) {
            throw new ArithmeticException("the group has no addresses");
        }
        return (double) state.countInGroup(group, LEASED) / (double) all;
    }

    public float averageRest() throws ArithmeticException {
        int leases = state.clients.countBound();
        if (leases == 0) {
            throw new ArithmeticException("there are no leases");
        }
        return (float) state.sumOfRests() / (float) leases;
    }

    public int save() {
        saved.copyFrom(state);
        somethingSaved = true;
        return state.clients.countBound();
    }

    public int restore() throws IllegalStateException {
        if (!somethingSaved) {
            throw new IllegalStateException("nothing was saved");
        }
        state.copyFrom(saved);
        return state.clients.countBound();
    }

    private static boolean isAddress(int address) {
        return address >= 0 && address < ADDRESSES;
    }

    private static boolean isClient(int client) {
        return client >= 0 && client < CLIENTS;
    }

    private static boolean isGroup(int group) {
        return group >= 0 && group < GROUPS;
    }

    private static void requireAddress(int address) {
        if (!isAddress(address)) {
            throw new IndexOutOfBoundsException("there is no such address");
        }
    }

    private static void requireClient(int client) {
        if (!isClient(client)) {
            throw new IndexOutOfBoundsException("there is no such client");
        }
    }

    private static void requireGroup(int group) {
        if (!isGroup(group)) {
            throw new IndexOutOfBoundsException("there is no such group");
        }
    }

    private void requirePool(int pool) {
        if (!state.pools.isPool(pool)) {
            throw new IndexOutOfBoundsException("there is no such pool");
        }
    }

    private void requireInPool(int address) {
        if (state.pools.numberAt(address) == NONE) {
            throw new NoSuchElementException("the address belongs to no pool");
        }
    }

    private void requireBound(int client) {
        if (!state.clients.isBound(client)) {
            throw new NoSuchElementException("the client is not bound");
        }
    }

    /** Makes the number of an event: a smaller number is to be carried out first. */
    private static int eventAt(int time, int kind, int address) {
        return (time * EVENT_KINDS + kind) * ADDRESSES + address;
    }

    private static int timeOfEvent(int event) {
        return event / ADDRESSES / EVENT_KINDS;
    }

    private static int kindOfEvent(int event) {
        return event / ADDRESSES % EVENT_KINDS;
    }

    private static int addressOfEvent(int event) {
        return event % ADDRESSES;
    }

    private static void copyNumbers(int[] from, int[] to) {
        System.arraycopy(from, 0, to, 0, Math.min(from.length, to.length));
    }

    private static void copyFlags(boolean[] from, boolean[] to) {
        for (int place = 0; place < from.length && place < to.length; place++) {
            to[place] = from[place];
        }
    }

    /** The pools, a place in each row for each number. */
    private static final class Pools {
        int count;
        final int[] group = new int[POOLS];
        final int[] first = new int[POOLS];
        final int[] last = new int[POOLS];
        final int[] lease = new int[POOLS];

        boolean isPool(int pool) {
            return pool >= 0 && pool < count && pool < POOLS;
        }

        int numberAt(int address) {
            for (int pool = 0; pool < POOLS && pool < count; pool++) {
                if (first[pool] <= address && address <= last[pool]) {
                    return pool;
                }
            }
            return NONE;
        }

        int groupAt(int address) {
            int pool = numberAt(address);
            return isPool(pool) ? group[pool] : NONE;
        }

        int leaseAt(int address) {
            int pool = numberAt(address);
            return isPool(pool) ? lease[pool] : 0;
        }

        boolean overlap(int from, int to) {
            for (int pool = 0; pool < POOLS && pool < count; pool++) {
                if (first[pool] <= to && from <= last[pool]) {
                    return true;
                }
            }
            return false;
        }

        int countAddresses(int ofGroup) {
            int sum = 0;
            for (int pool = 0; pool < POOLS && pool < count; pool++) {
                if (group[pool] == ofGroup) {
                    sum += last[pool] - first[pool] + 1;
                }
            }
            return sum;
        }

        int append(int newGroup, int newFirst, int newLast, int newLease) {
            int pool = count;
            if (pool < 0 || pool >= POOLS) {
                return NONE;
            }
            group[pool] = newGroup;
            first[pool] = newFirst;
            last[pool] = newLast;
            lease[pool] = newLease;
            count = pool + 1;
            return pool;
        }

        int drop(int pool) {
            if (!isPool(pool)) {
                return count;
            }
            for (int place = pool; place + 1 < POOLS && place + 1 < count; place++) {
                group[place] = group[place + 1];
                first[place] = first[place + 1];
                last[place] = last[place + 1];
                lease[place] = lease[place + 1];
            }
            count--;
            return count;
        }

        void copyFrom(Pools other) {
            count = other.count;
            copyNumbers(other.group, group);
            copyNumbers(other.first, first);
            copyNumbers(other.last, last);
            copyNumbers(other.lease, lease);
        }
    }

    /** The addresses, a place in each row for each one; an address of no pool stands as free. */
    private static final class Addresses {
        final boolean[] excluded = new boolean[ADDRESSES];
        final boolean[] stranger = new boolean[ADDRESSES];
        final int[] state = new int[ADDRESSES];
        final int[] holder = new int[ADDRESSES];
        final int[] end = new int[ADDRESSES];
        final int[] freed = new int[ADDRESSES];

        Addresses() {
            Arrays.fill(holder, NONE);
            Arrays.fill(freed, FRESH);
        }

        void makeFresh(int first, int last) {
            for (int address = Math.max(first, 0); address < ADDRESSES && address <= last; address++) {
                becomeFree(address, FRESH);
            }
        }

        void becomeFree(int address, int time) {
            if (isAddress(address)) {
                state[address] = FREE;
                holder[address] = NONE;
                freed[address] = time;
            }
        }

        void becomeHeld(int address, int newState, int client, int newEnd) {
            if (isAddress(address)) {
                state[address] = newState;
                holder[address] = client;
                end[address] = newEnd;
            }
        }

        void becomeDeclined(int address, int newEnd) {
            becomeHeld(address, DECLINED, NONE, newEnd);
        }

        boolean isOfferable(int address) {
            return isAddress(address) && state[address] == FREE && !excluded[address];
        }

        boolean isFreeLonger(int address, int than) {
            if (!isAddress(address) || !isAddress(than)) {
                return false;
            }
            return freed[address] < freed[than] || freed[address] == freed[than] && address < than;
        }

        int countIn(int first, int last, int wantedState) {
            int sum = 0;
            for (int address = Math.max(first, 0); address < ADDRESSES && address <= last; address++) {
                if (state[address] == wantedState) {
                    sum++;
                }
            }
            return sum;
        }

        int countOfferable(int first, int last) {
            int sum = 0;
            for (int address = Math.max(first, 0); address < ADDRESSES && address <= last; address++) {
                if (isOfferable(address)) {
                    sum++;
                }
            }
            return sum;
        }

        int earliestQuarantineEnd() {
            int earliest = NEVER;
            for (int address = 0; address < ADDRESSES; address++) {
                if (state[address] == DECLINED) {
                    earliest = Math.min(earliest, eventAt(end[address], QUARANTINE_END, address));
                }
            }
            return earliest;
        }

        void copyFrom(Addresses other) {
            copyFlags(other.excluded, excluded);
            copyFlags(other.stranger, stranger);
            copyNumbers(other.state, state);
            copyNumbers(other.holder, holder);
            copyNumbers(other.end, end);
            copyNumbers(other.freed, freed);
        }
    }

    /** The clients, a place in each row for each one; the address is that of the offer or the lease. */
    private static final class Clients {
        final int[] state = new int[CLIENTS];
        final int[] address = new int[CLIENTS];
        final int[] lastLeased = new int[CLIENTS];
        final int[] renewal = new int[CLIENTS];
        final int[] rebinding = new int[CLIENTS];

        Clients() {
            Arrays.fill(address, NONE);
            Arrays.fill(lastLeased, NONE);
        }

        boolean isBound(int client) {
            return isClient(client) && state[client] >= NORMAL;
        }

        int countBound() {
            int sum = 0;
            for (int client = 0; client < CLIENTS; client++) {
                if (isBound(client)) {
                    sum++;
                }
            }
            return sum;
        }

        void becomeIdle(int client) {
            if (isClient(client)) {
                state[client] = IDLE;
                address[client] = NONE;
            }
        }

        void takeOffer(int client, int offered) {
            if (isClient(client)) {
                state[client] = WITH_OFFER;
                address[client] = offered;
            }
        }

        void takeLease(int client, int time, int lease) {
            if (isClient(client)) {
                state[client] = NORMAL;
                lastLeased[client] = address[client];
                renewal[client] = time + lease / 2;
                rebinding[client] = time + lease * 7 / 8;
            }
        }

        void copyFrom(Clients other) {
            copyNumbers(other.state, state);
            copyNumbers(other.address, address);
            copyNumbers(other.lastLeased, lastLeased);
            copyNumbers(other.renewal, renewal);
            copyNumbers(other.rebinding, rebinding);
        }
    }

    /** The time, the times that are set, the paths of the groups, and the number of conflicts. */
    private static final class Settings {
        int time;
        int hold = FIRST_HOLD;
        int quarantine = FIRST_QUARANTINE;
        int conflicts;
        final boolean[] direct = new boolean[GROUPS];
        final boolean[] relay = new boolean[GROUPS];

        Settings() {
            for (int group = 0; group < GROUPS; group++) {
                direct[group] = true;
                relay[group] = true;
            }
        }

        void copyFrom(Settings other) {
            time = other.time;
            hold = other.hold;
            quarantine = other.quarantine;
            conflicts = other.conflicts;
            copyFlags(other.direct, direct);
            copyFlags(other.relay, relay);
        }
    }

    /** The latest entries, in a ring, so that a new one takes the place of the oldest. */
    private static final class Log {
        final int[] ring = new int[LOG_ENTRIES];
        int size;
        int next;

        void write(int kind, int address) {
            if (next >= 0 && next < LOG_ENTRIES) {
                ring[next] = kind * KIND_FACTOR + address;
            }
            next = (next + 1) % LOG_ENTRIES;
            size = Math.min(size + 1, LOG_ENTRIES);
        }

        int read(int index) {
            return ring[Math.floorMod(next - 1 - index, LOG_ENTRIES)];
        }
    }

    /** All that saving keeps, and how it changes. */
    private static final class State {
        final Pools pools = new Pools();
        final Addresses addresses = new Addresses();
        final Clients clients = new Clients();
        final Settings settings = new Settings();
        final Log log;

        State(Log log) {
            this.log = log;
        }

        void copyFrom(State other) {
            pools.copyFrom(other.pools);
            addresses.copyFrom(other.addresses);
            clients.copyFrom(other.clients);
            settings.copyFrom(other.settings);
        }

        boolean directUpFor(int client) {
            int group = groupOfClient(client);
            return isGroup(group) && settings.direct[group];
        }

        boolean relayUpFor(int client) {
            int group = groupOfClient(client);
            return isGroup(group) && settings.relay[group];
        }

        private int groupOfClient(int client) {
            return isClient(client) ? pools.groupAt(clients.address[client]) : NONE;
        }

        int leaseEnd(int client) {
            int address = isClient(client) ? clients.address[client] : NONE;
            return isAddress(address) ? addresses.end[address] : NONE;
        }

        int countInGroup(int group, int wantedState) {
            int sum = 0;
            for (int pool = 0; pool < POOLS && pool < pools.count; pool++) {
                if (pools.group[pool] == group) {
                    sum += addresses.countIn(pools.first[pool], pools.last[pool], wantedState);
                }
            }
            return sum;
        }

        int sumOfRests() {
            int sum = 0;
            for (int client = 0; client < CLIENTS; client++) {
                if (clients.isBound(client)) {
                    sum += leaseEnd(client) - settings.time;
                }
            }
            return sum;
        }

        int firstCandidate(int client, int group, int wanted) {
            int last = isClient(client) ? clients.lastLeased[client] : NONE;
            if (isCandidate(last, group)) {
                return last;
            }
            if (isCandidate(wanted, group)) {
                return wanted;
            }
            return longestFree(group);
        }

        private boolean isCandidate(int address, int group) {
            return addresses.isOfferable(address) && pools.groupAt(address) == group;
        }

        private int longestFree(int group) {
            int best = NONE;
            for (int pool = 0; pool < POOLS && pool < pools.count; pool++) {
                if (pools.group[pool] == group) {
                    best = longestFreeIn(pools.first[pool], pools.last[pool], best);
                }
            }
            return best;
        }

        private int longestFreeIn(int first, int last, int bestBefore) {
            int best = bestBefore;
            for (int address = Math.max(first, 0); address < ADDRESSES && address <= last; address++) {
                if (addresses.isOfferable(address) && (best == NONE || addresses.isFreeLonger(address, best))) {
                    best = address;
                }
            }
            return best;
        }

        /** Returns the address, or NONE; the offer before and the probes count in either case. */
        int makeOffer(int client, int group, int wanted) {
            endHolding(client);
            // A conflict takes its address out of the candidates, so that there is an end.
            for (int probes = 0; probes < ADDRESSES; probes++) {
                int address = firstCandidate(client, group, wanted);
                if (!isAddress(address)) {
                    return NONE;
                }
                if (!addresses.stranger[address]) {
                    holdFor(client, address);
                    return address;
                }
                findConflict(address);
            }
            return NONE;
        }

        private void holdFor(int client, int address) {
            addresses.becomeHeld(address, OFFERED, client, settings.time + settings.hold);
            clients.takeOffer(client, address);
            log.write(OFFER_MADE, address);
        }

        private void findConflict(int address) {
            addresses.becomeDeclined(address, settings.time + settings.quarantine);
            settings.conflicts++;
            log.write(CONFLICT_FOUND, address);
        }

        void beginLease(int client) {
            if (isClient(client)) {
                startTerm(client);
                log.write(LEASE_BEGAN, clients.address[client]);
            }
        }

        private void startTerm(int client) {
            int address = clients.address[client];
            int lease = pools.leaseAt(address);
            addresses.becomeHeld(address, LEASED, client, settings.time + lease);
            clients.takeLease(client, settings.time, lease);
        }

        /** Ends the offer or the lease of a client, if there is one. */
        void endHolding(int client) {
            if (isClient(client)) {
                addresses.becomeFree(clients.address[client], settings.time);
                clients.becomeIdle(client);
            }
        }

        void declineLease(int client) {
            if (isClient(client)) {
                int address = clients.address[client];
                addresses.becomeDeclined(address, settings.time + settings.quarantine);
                clients.becomeIdle(client);
                clients.lastLeased[client] = NONE;
                log.write(ADDRESS_DECLINED, address);
            }
        }

        boolean renewOrRefuse(int client) {
            int address = isClient(client) ? clients.address[client] : NONE;
            if (!isAddress(address)) {
                return false;
            }
            if (addresses.excluded[address]) {
                endHolding(client);
                log.write(RENEWAL_REFUSED, address);
                return false;
            }
            startTerm(client);
            log.write(LEASE_RENEWED, address);
            return true;
        }

        int earliestEvent() {
            return Math.min(earliestEventOfClients(), addresses.earliestQuarantineEnd());
        }

        private int earliestEventOfClients() {
            int earliest = NEVER;
            for (int client = 0; client < CLIENTS; client++) {
                if (clients.state[client] != IDLE) {
                    earliest = Math.min(earliest, eventOfClient(client));
                }
            }
            return earliest;
        }

        private int eventOfClient(int client) {
            int address = clients.address[client];
            if (!isAddress(address)) {
                return NEVER;
            }
            switch (clients.state[client]) {
                case WITH_OFFER:
                    return eventAt(addresses.end[address], OFFER_END, address);
                case NORMAL:
                    return eventAt(clients.renewal[client], RENEWAL_TIME, address);
                case RENEWING:
                    return eventAt(clients.rebinding[client], REBINDING_TIME, address);
                case REBINDING:
                    return eventAt(addresses.end[address], LEASE_END, address);
                default:
                    return NEVER;
            }
        }

        /** Returns the number of events up to the target, which becomes the time. */
        int passTimeTo(int target) {
            int events = 0;
            // No event makes a quarantine, so that the earliest is looked up again only when one has ended.
            int quarantine = addresses.earliestQuarantineEnd();
            while (events < EVENT_BOUND) {
                int event = Math.min(quarantine, earliestEventOfClients());
                if (event == NEVER || timeOfEvent(event) > target) {
                    break;
                }
                carryOut(event);
                events++;
                if (kindOfEvent(event) == QUARANTINE_END) {
                    quarantine = addresses.earliestQuarantineEnd();
                }
            }
            settings.time = target;
            return events;
        }

        private void carryOut(int event) {
            int address = addressOfEvent(event);
            int client = isAddress(address) ? addresses.holder[address] : NONE;
            settings.time = timeOfEvent(event);
            switch (kindOfEvent(event)) {
                case OFFER_END:
                    endHolding(client);
                    log.write(OFFER_ENDED, address);
                    break;
                case QUARANTINE_END:
                    addresses.becomeFree(address, settings.time);
                    break;
                case RENEWAL_TIME:
                    renewOrTurn(client, directUpFor(client), RENEWING);
                    break;
                case REBINDING_TIME:
                    renewOrTurn(client, relayUpFor(client), REBINDING);
                    break;
                case LEASE_END:
                    endHolding(client);
                    log.write(LEASE_ENDED, address);
                    break;
                default:
                    break;
            }
        }

        private void renewOrTurn(int client, boolean pathUp, int turnedState) {
            if (pathUp) {
                renewOrRefuse(client);
            } else if (isClient(client)) {
                clients.state[client] = turnedState;
            }
        }
    }
}
