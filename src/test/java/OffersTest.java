/** Promises 13 and 29. */
public final class OffersTest {
    public static void main(String[] args) {
        orderOfCandidates();
        groupsAndExclusions();
        offerTakenBack();
        conflicts();
        nothingFound();
        exceptions();
        nextCandidate();
        Script.end();
    }

    private static void orderOfCandidates() {
        Script.check("promise 13: remembered, wanted, fresh, then the longest free", """
            addPool(0, 20, 22, 50) = 0
            addPool(0, 5, 6, 50) = 1
            discover(0, 0, 21) = 21
            accept(0) = 21
            release(0) = 21
            # fresh ones in ascending order, also across pools
            discover(1, 0, -1) = 5
            discover(2, 0, 100) = 6
            discover(3, 0, 99) = 20
            discover(4, 0, 2147483647) = 22
            discover(5, 0, -2147483648) = 21
            advance(10) = 5
            # now all are free since 10; the remembered one before the wanted one
            discover(0, 0, 5) = 21
            discover(1, 0, 22) = 22
            discover(2, 0, -1) = 5
            discover(3, 0, -1) = 6
            discover(4, 0, -1) = 20
            log(0) = 1020
            log(4) = 1021
            """);
        Script.check("promise 13: by the times at which they became free, also across pools", """
            addPool(0, 50, 51, 50) = 0
            addPool(0, 10, 11, 50) = 1
            discover(0, 0, 50) = 50
            discover(1, 0, 51) = 51
            discover(2, 0, 10) = 10
            discover(3, 0, 11) = 11
            accept(0) = 50
            accept(1) = 51
            accept(2) = 10
            accept(3) = 11
            advance(1) = 0
            release(1) = 51
            advance(1) = 0
            release(3) = 11
            release(0) = 50
            advance(1) = 0
            release(2) = 10
            freeSince(51) = 1
            freeSince(11) = 2
            freeSince(50) = 2
            freeSince(10) = 3
            nextCandidate(9, 0) = 51
            discover(4, 0, -1) = 51
            discover(5, 0, -1) = 11
            discover(6, 0, -1) = 50
            discover(7, 0, -1) = 10
            """);
    }

    private static void groupsAndExclusions() {
        Script.check("promise 13: only free addresses of the group that are not excluded", """
            addPool(0, 0, 3, 50) = 0
            addPool(1, 4, 7, 50) = 1
            discover(0, 1, 0) = 4
            accept(0) = 4
            release(0) = 4
            discover(0, 0, -1) = 0
            exclude(5, true) = false
            discover(1, 1, 5) = 6
            exclude(4, true) = false
            discover(0, 1, 6) = 7
            discover(2, 1, -1) ! NoSuchElementException
            exclude(4, false) = true
            discover(0, 1, 6) = 4
            discover(2, 2, 4) ! NoSuchElementException
            """);
    }

    private static void offerTakenBack() {
        Script.check("promise 13: an offer is taken back first, without an entry", """
            addPool(0, 0, 2, 50) = 0
            discover(0, 0, 1) = 1
            advance(3) = 0
            discover(0, 0, -1) = 0
            logSize() = 2
            log(0) = 1000
            freeSince(1) = 3
            until(0) = 13
            clientState(0) = 1
            addressOf(0) = 0
            holder(0) = 0
            remembered(0) ! NoSuchElementException
            advance(2) = 0
            # its own address is a candidate again
            discover(0, 0, 0) = 0
            until(0) = 15
            exclude(0, true) = false
            exclude(1, true) = false
            exclude(2, true) = false
            discover(0, 0, 0) ! NoSuchElementException
            clientState(0) = 0
            addressState(0) = 0
            freeSince(0) = 5
            logSize() = 3
            advance(50) = 0
            """);
        Script.check("promise 13: the offer of another group is taken back", """
            addPool(0, 0, 0, 50) = 0
            addPool(1, 1, 1, 50) = 1
            discover(0, 0, -1) = 0
            discover(0, 1, -1) = 1
            addressState(0) = 0
            freeSince(0) = 0
            discover(0, 2, -1) ! NoSuchElementException
            clientState(0) = 0
            addressState(1) = 0
            """);
    }

    private static void conflicts() {
        Script.check("promise 13: probes find conflicts", """
            addPool(0, 0, 4, 50) = 0
            discover(0, 0, 3) = 3
            accept(0) = 3
            release(0) = 3
            setStranger(3, true) = false
            setStranger(0, true) = false
            advance(7) = 0
            # the remembered address is also the wanted one, and probed once
            discover(0, 0, 3) = 1
            conflicts() = 2
            logSize() = 6
            log(0) = 1001
            log(1) = 8000
            log(2) = 8003
            addressState(3) = 3
            addressState(0) = 3
            until(3) = 107
            until(0) = 107
            holder(3) ! NoSuchElementException
            remembered(0) = 3
            # the stranger at an address that is not probed does not matter
            setStranger(4, true) = false
            discover(1, 0, -1) = 2
            conflicts() = 2
            setStranger(2, true) = false
            addressState(2) = 1
            advanceToEvent() = 17
            advanceToEvent() = 107
            freeSince(3) = 107
            freeSince(0) = 107
            nextCandidate(5, 0) = 4
            """);
    }

    private static void nothingFound() {
        Script.check("promise 13: the probes and the taking back stay if nothing is found", """
            addPool(0, 0, 2, 50) = 0
            discover(0, 0, 1) = 1
            advance(2) = 0
            setStranger(0, true) = false
            setStranger(1, true) = false
            setStranger(2, true) = false
            discover(0, 0, -1) ! NoSuchElementException
            conflicts() = 3
            clientState(0) = 0
            countState(0, 3) = 3
            until(1) = 102
            logSize() = 4
            log(0) = 8001
            log(1) = 8002
            log(2) = 8000
            log(3) = 1001
            discover(0, 0, -1) ! NoSuchElementException
            conflicts() = 3
            advance(100) = 3
            logSize() = 4
            """);
        StringBuilder strangers = new StringBuilder("addPool(0, 0, 99, 50) = 0\n");
        for (int address = 0; address < 100; address++) {
            strangers.append("setStranger(" + address + ", true) = false\n");
        }
        Script.check("promise 13: a stranger at every address", strangers + """
            discover(0, 0, 77) ! NoSuchElementException
            conflicts() = 100
            countState(0, 3) = 100
            logSize() = 30
            log(0) = 8099
            advance(100) = 100
            countState(0, 0) = 100
            setStranger(99, false) = true
            discover(0, 0, 77) = 99
            conflicts() = 199
            """);
    }

    private static void exceptions() {
        Script.check("promise 13: exceptions", """
            addPool(0, 0, 2, 50) = 0
            discover(-1, 0, 0) ! IndexOutOfBoundsException
            discover(20, 0, 0) ! IndexOutOfBoundsException
            discover(0, -1, 0) ! IndexOutOfBoundsException
            discover(0, 3, 0) ! IndexOutOfBoundsException
            discover(19, 0, 0) = 0
            setRelay(0, false) = true
            # the offer stays if the relay path is down
            discover(19, 0, 1) ! IllegalStateException
            addressOf(19) = 0
            setRelay(0, true) = false
            accept(19) = 0
            discover(19, 0, 0) ! IllegalStateException
            discover(19, 1, 0) ! IllegalStateException
            discover(19, 3, 0) ! IndexOutOfBoundsException
            # before a missing candidate, the path
            setRelay(1, false) = true
            discover(0, 1, 0) ! IllegalStateException
            setDirect(0, false) = true
            discover(0, 0, 0) = 1
            # renewing and rebinding clients are bound too
            setRelay(0, false) = true
            advanceToEvent() = 10
            advanceToEvent() = 25
            clientState(19) = 3
            discover(19, 2, 0) ! IllegalStateException
            advanceToEvent() = 43
            clientState(19) = 4
            discover(19, 2, 0) ! IllegalStateException
            advanceToEvent() = 50
            discover(19, 2, 0) ! NoSuchElementException
            """);
    }

    private static void nextCandidate() {
        Script.check("promise 29", """
            nextCandidate(0, 0) ! NoSuchElementException
            nextCandidate(-1, 0) ! IndexOutOfBoundsException
            nextCandidate(20, 0) ! IndexOutOfBoundsException
            nextCandidate(0, -1) ! IndexOutOfBoundsException
            nextCandidate(0, 3) ! IndexOutOfBoundsException
            addPool(1, 7, 9, 50) = 0
            nextCandidate(0, 0) ! NoSuchElementException
            nextCandidate(0, 1) = 7
            exclude(7, true) = false
            nextCandidate(0, 1) = 8
            # no probe
            setStranger(8, true) = false
            nextCandidate(0, 1) = 8
            conflicts() = 0
            addressState(8) = 0
            setStranger(8, false) = true
            # the own offer stays
            discover(0, 1, -1) = 8
            nextCandidate(0, 1) = 9
            addressOf(0) = 8
            accept(0) = 8
            nextCandidate(0, 1) = 9
            release(0) = 8
            nextCandidate(0, 1) = 8
            nextCandidate(1, 1) = 9
            setRelay(1, false) = true
            nextCandidate(0, 1) = 8
            nextCandidate(0, 2) ! NoSuchElementException
            exclude(8, true) = false
            nextCandidate(0, 1) = 9
            exclude(9, true) = false
            nextCandidate(0, 1) ! NoSuchElementException
            """);
    }
}
