import java.util.ArrayList;
import java.util.Arrays;
import java.util.Comparator;
import java.util.LinkedHashSet;
import java.util.List;
import java.util.NoSuchElementException;
import java.util.stream.Collectors;
import java.util.stream.IntStream;

/**
 * The document once more, written apart from the program and in another way: time passes tick by tick, and
 * nothing is fast. The random runs hold the program against it.
 */
final class Model {
    private static final class Range {
        int group;
        int first;
        int last;
        int lease;
    }

    private static final class Place {
        boolean excluded;
        boolean stranger;
        String state = "free";
        int client = -1;
        int end;
        int freed = -1;
    }

    private static final class Guest {
        String state = "idle";
        int address = -1;
        int last = -1;
        int begin;
    }

    private List<Range> ranges = new ArrayList<>();
    private Place[] places = IntStream.range(0, 100).mapToObj(i -> new Place()).toArray(Place[]::new);
    private Guest[] guests = IntStream.range(0, 20).mapToObj(i -> new Guest()).toArray(Guest[]::new);
    private boolean[] direct = {true, true, true};
    private boolean[] relay = {true, true, true};
    private int now = 0;
    private int hold = 10;
    private int quarantine = 100;
    private int found = 0;
    private final List<Integer> entries = new ArrayList<>();
    private Model kept = null;

    private static void index(int number, int end) {
        if (number < 0 || number >= end) {
            throw new IndexOutOfBoundsException();
        }
    }

    private static void argument(boolean good) {
        if (!good) {
            throw new IllegalArgumentException();
        }
    }

    private static void state(boolean good) {
        if (!good) {
            throw new IllegalStateException();
        }
    }

    private static void element(boolean good) {
        if (!good) {
            throw new NoSuchElementException();
        }
    }

    private int rangeOf(int address) {
        for (Range r : ranges) {
            if (r.first <= address && address <= r.last) {
                return ranges.indexOf(r);
            }
        }
        return -1;
    }

    private int groupOf(int address) {
        return rangeOf(address) < 0 ? -1 : ranges.get(rangeOf(address)).group;
    }

    private void enter(int kind, int address) {
        entries.add(0, kind * 1000 + address);
    }

    int addPool(int group, int first, int last, int lease) {
        index(group, 3);
        argument(first >= 0 && first <= 99 && last >= 0 && last <= 99);
        argument(lease >= 8 && lease <= 800 && first <= last);
        state(ranges.size() < 5);
        for (int a = first; a <= last; a++) {
            state(rangeOf(a) < 0);
        }
        Range r = new Range();
        r.group = group;
        r.first = first;
        r.last = last;
        r.lease = lease;
        ranges.add(r);
        for (int a = first; a <= last; a++) {
            places[a].freed = -1;
        }
        return ranges.size() - 1;
    }

    int removePool(int pool) {
        index(pool, ranges.size());
        Range r = ranges.get(pool);
        for (int a = r.first; a <= r.last; a++) {
            state(places[a].state.equals("free"));
        }
        ranges.remove(pool);
        return ranges.size();
    }

    int poolCount() {
        return ranges.size();
    }

    int pool(int pool, int part) {
        index(pool, ranges.size());
        argument(part >= 0 && part <= 4);
        Range r = ranges.get(pool);
        int free = (int) IntStream.rangeClosed(r.first, r.last)
            .filter(a -> places[a].state.equals("free") && !places[a].excluded).count();
        return new int[] {r.group, r.first, r.last, r.lease, free}[part];
    }

    int poolOf(int address) {
        index(address, 100);
        element(rangeOf(address) >= 0);
        return rangeOf(address);
    }

    boolean exclude(int address, boolean on) {
        index(address, 100);
        boolean before = places[address].excluded;
        places[address].excluded = on;
        return before;
    }

    boolean setStranger(int address, boolean on) {
        index(address, 100);
        boolean before = places[address].stranger;
        places[address].stranger = on;
        return before;
    }

    int setHold(int time) {
        argument(time >= 1 && time <= 50);
        int before = hold;
        hold = time;
        return before;
    }

    int setQuarantine(int time) {
        argument(time >= 1 && time <= 500);
        int before = quarantine;
        quarantine = time;
        return before;
    }

    boolean setDirect(int group, boolean up) {
        index(group, 3);
        boolean before = direct[group];
        direct[group] = up;
        return before;
    }

    boolean setRelay(int group, boolean up) {
        index(group, 3);
        boolean before = relay[group];
        relay[group] = up;
        return before;
    }

    private boolean isBound(int client) {
        return !guests[client].state.equals("idle") && !guests[client].state.equals("offer");
    }

    private List<Integer> candidates(int client, int group, int wanted) {
        List<Integer> free = IntStream.range(0, 100).boxed()
            .filter(a -> groupOf(a) == group && places[a].state.equals("free") && !places[a].excluded)
            .collect(Collectors.toList());
        LinkedHashSet<Integer> order = new LinkedHashSet<>(Arrays.asList(guests[client].last, wanted));
        free.stream().filter(a -> places[a].freed < 0).forEach(order::add);
        free.stream().sorted(Comparator.comparingInt(a -> places[a].freed)).forEach(order::add);
        return order.stream().filter(free::contains).collect(Collectors.toList());
    }

    private void free(int address) {
        Place p = places[address];
        if (p.client >= 0) {
            guests[p.client].state = "idle";
            guests[p.client].address = -1;
        }
        p.client = -1;
        p.state = "free";
        p.freed = now;
    }

    private void decline(int address, int kind) {
        free(address);
        places[address].state = "declined";
        places[address].end = now + quarantine;
        enter(kind, address);
    }

    int discover(int client, int group, int wanted) {
        index(client, 20);
        index(group, 3);
        state(!isBound(client));
        state(relay[group]);
        if (guests[client].address >= 0) {
            free(guests[client].address);
        }
        for (int a : candidates(client, group, wanted)) {
            if (places[a].stranger) {
                found++;
                decline(a, 8);
                continue;
            }
            guests[client].state = "offer";
            guests[client].address = a;
            places[a].state = "offered";
            places[a].client = client;
            places[a].end = now + hold;
            enter(1, a);
            return a;
        }
        throw new NoSuchElementException();
    }

    private void lease(int client, int kind) {
        Guest g = guests[client];
        g.state = "normal";
        g.last = g.address;
        g.begin = now;
        places[g.address].state = "leased";
        places[g.address].end = now + ranges.get(rangeOf(g.address)).lease;
        enter(kind, g.address);
    }

    int accept(int client) {
        index(client, 20);
        element(guests[client].state.equals("offer"));
        state(relay[groupOf(guests[client].address)]);
        lease(client, 2);
        return guests[client].address;
    }

    int release(int client) {
        index(client, 20);
        element(isBound(client));
        int a = guests[client].address;
        free(a);
        enter(6, a);
        return a;
    }

    int decline(int client) {
        index(client, 20);
        element(isBound(client));
        int a = guests[client].address;
        decline(a, 7);
        guests[client].last = -1;
        return a;
    }

    boolean renew(int client) {
        index(client, 20);
        element(isBound(client));
        state(direct[groupOf(guests[client].address)]);
        return renewed(client);
    }

    private boolean renewed(int client) {
        int a = guests[client].address;
        if (places[a].excluded) {
            free(a);
            enter(4, a);
            return false;
        }
        lease(client, 3);
        return true;
    }

    private int term(int client) {
        return ranges.get(rangeOf(guests[client].address)).lease;
    }

    /** Carries out the events of the present tick, and returns how many there were. */
    private int tick() {
        int events = 0;
        for (int kind = 0; kind < 5; kind++) {
            for (int a = 0; a < 100; a++) {
                events += event(kind, a) ? 1 : 0;
            }
        }
        return events;
    }

    private boolean event(int kind, int a) {
        Place p = places[a];
        boolean ends = !p.state.equals("free") && p.end == now;
        if (kind == 0 && ends && p.state.equals("offered")) {
            free(a);
            enter(9, a);
            return true;
        }
        if (kind == 1 && ends && p.state.equals("declined")) {
            free(a);
            return true;
        }
        if (kind == 4 && ends && p.state.equals("leased")) {
            free(a);
            enter(5, a);
            return true;
        }
        return p.state.equals("leased") && leaseEvent(kind, p.client);
    }

    private boolean leaseEvent(int kind, int client) {
        Guest g = guests[client];
        boolean path;
        if (kind == 2 && g.state.equals("normal") && now == g.begin + term(client) / 2) {
            path = direct[groupOf(g.address)];
        } else if (kind == 3 && g.state.equals("renewing") && now == g.begin + 7 * term(client) / 8) {
            path = relay[groupOf(g.address)];
        } else {
            return false;
        }
        if (path) {
            renewed(client);
        } else {
            g.state = kind == 2 ? "renewing" : "rebinding";
        }
        return true;
    }

    int advance(int ticks) {
        argument(ticks >= 1 && ticks <= 2000);
        state(now + ticks <= 100000);
        int events = 0;
        for (int i = 0; i < ticks; i++) {
            now++;
            events += tick();
        }
        return events;
    }

    int advanceToEvent() {
        element(Arrays.stream(places).anyMatch(p -> !p.state.equals("free")));
        Model trial = copy();
        // No event is further away than the longest lease.
        do {
            trial.now++;
        } while (trial.tick() == 0);
        state(trial.now <= 100000);
        now = trial.now;
        tick();
        return now;
    }

    int time() {
        return now;
    }

    int clientState(int client) {
        index(client, 20);
        return Arrays.asList("idle", "offer", "normal", "renewing", "rebinding").indexOf(guests[client].state);
    }

    int addressOf(int client) {
        index(client, 20);
        element(guests[client].address >= 0);
        return guests[client].address;
    }

    int remembered(int client) {
        index(client, 20);
        element(guests[client].last >= 0);
        return guests[client].last;
    }

    int timer(int client, int part) {
        index(client, 20);
        element(isBound(client));
        argument(part >= 0 && part <= 2);
        return guests[client].begin + new int[] {term(client) / 2, 7 * term(client) / 8, term(client)}[part];
    }

    int addressState(int address) {
        poolOf(address);
        return Arrays.asList("free", "offered", "leased", "declined").indexOf(places[address].state);
    }

    int holder(int address) {
        poolOf(address);
        element(places[address].client >= 0);
        return places[address].client;
    }

    int until(int address) {
        poolOf(address);
        element(!places[address].state.equals("free"));
        return places[address].end;
    }

    int freeSince(int address) {
        poolOf(address);
        element(places[address].state.equals("free"));
        return places[address].freed;
    }

    int nextCandidate(int client, int group) {
        index(client, 20);
        index(group, 3);
        List<Integer> order = candidates(client, group, -1);
        element(!order.isEmpty());
        return order.get(0);
    }

    int countState(int group, int state) {
        index(group, 3);
        argument(state >= 0 && state <= 3);
        return (int) IntStream.range(0, 100).filter(a -> groupOf(a) == group && addressState(a) == state).count();
    }

    int bound() {
        return (int) IntStream.range(0, 20).filter(this::isBound).count();
    }

    int conflicts() {
        return found;
    }

    int logSize() {
        return Math.min(30, entries.size());
    }

    int log(int index) {
        index(index, logSize());
        return entries.get(index);
    }

    double utilization(int group) {
        index(group, 3);
        double all = IntStream.range(0, 100).filter(a -> groupOf(a) == group).count();
        if (all == 0) {
            throw new ArithmeticException();
        }
        return countState(group, 2) / all;
    }

    float averageRest() {
        float sum = 0;
        float leases = 0;
        for (Place p : places) {
            if (p.state.equals("leased")) {
                sum += p.end - now;
                leases++;
            }
        }
        if (leases == 0) {
            throw new ArithmeticException();
        }
        return sum / leases;
    }

    private Model copy() {
        Model m = new Model();
        m.take(this);
        return m;
    }

    private void take(Model from) {
        ranges = new ArrayList<>(from.ranges);
        for (int a = 0; a < 100; a++) {
            Place p = new Place();
            p.excluded = from.places[a].excluded;
            p.stranger = from.places[a].stranger;
            p.state = from.places[a].state;
            p.client = from.places[a].client;
            p.end = from.places[a].end;
            p.freed = from.places[a].freed;
            places[a] = p;
        }
        for (int c = 0; c < 20; c++) {
            Guest g = new Guest();
            g.state = from.guests[c].state;
            g.address = from.guests[c].address;
            g.last = from.guests[c].last;
            g.begin = from.guests[c].begin;
            guests[c] = g;
        }
        direct = from.direct.clone();
        relay = from.relay.clone();
        now = from.now;
        hold = from.hold;
        quarantine = from.quarantine;
        found = from.found;
    }

    int save() {
        kept = copy();
        return bound();
    }

    int restore() {
        state(kept != null);
        take(kept);
        return bound();
    }
}
