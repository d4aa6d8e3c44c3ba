/** Promises 14 to 17. */
public final class LeasesTest {
    public static void main(String[] args) {
        accept();
        release();
        decline();
        renew();
        Script.end();
    }

    private static void accept() {
        Script.check("promise 14", """
            addPool(0, 0, 3, 9) = 0
            addPool(1, 4, 5, 800) = 1
            accept(-1) ! IndexOutOfBoundsException
            accept(20) ! IndexOutOfBoundsException
            accept(0) ! NoSuchElementException
            discover(0, 0, 2) = 2
            remembered(0) ! NoSuchElementException
            advance(5) = 0
            setRelay(1, false) = true
            setDirect(0, false) = true
            accept(0) = 2
            log(0) = 2002
            clientState(0) = 2
            addressState(2) = 2
            holder(2) = 0
            remembered(0) = 2
            timer(0, 0) = 9
            timer(0, 1) = 12
            timer(0, 2) = 14
            until(2) = 14
            accept(0) ! NoSuchElementException
            # the group of the offered address counts
            setRelay(1, true) = false
            discover(1, 1, -1) = 4
            setRelay(1, false) = true
            accept(1) ! IllegalStateException
            addressState(4) = 1
            setRelay(0, false) = true
            setRelay(1, true) = false
            accept(1) = 4
            timer(1, 0) = 405
            timer(1, 1) = 705
            timer(1, 2) = 805
            # no offer comes before a path that is down
            accept(2) ! NoSuchElementException
            """);
        Script.check("promise 14: an offer of an excluded address can be accepted, one that ended can not", """
            addPool(0, 0, 3, 15) = 0
            discover(0, 0, 0) = 0
            discover(1, 0, 1) = 1
            exclude(0, true) = false
            setStranger(0, true) = false
            advance(9) = 0
            accept(0) = 0
            timer(0, 0) = 16
            timer(0, 1) = 22
            timer(0, 2) = 24
            advance(1) = 1
            accept(1) ! NoSuchElementException
            log(0) = 9001
            """);
    }

    private static void release() {
        Script.check("promise 15", """
            addPool(0, 0, 3, 8) = 0
            release(-1) ! IndexOutOfBoundsException
            release(20) ! IndexOutOfBoundsException
            release(0) ! NoSuchElementException
            discover(0, 0, 2) = 2
            release(0) ! NoSuchElementException
            accept(0) = 2
            setDirect(0, false) = true
            setRelay(0, false) = true
            advance(3) = 0
            release(0) = 2
            log(0) = 6002
            logSize() = 3
            clientState(0) = 0
            addressState(2) = 0
            freeSince(2) = 3
            remembered(0) = 2
            holder(2) ! NoSuchElementException
            timer(0, 0) ! NoSuchElementException
            addressOf(0) ! NoSuchElementException
            release(0) ! NoSuchElementException
            advance(100) = 0
            setRelay(0, true) = false
            discover(0, 0, -1) = 2
            accept(0) = 2
            setRelay(0, false) = true
            advance(4) = 1
            clientState(0) = 3
            release(0) = 2
            setRelay(0, true) = false
            discover(0, 0, -1) = 2
            accept(0) = 2
            setRelay(0, false) = true
            advance(7) = 2
            clientState(0) = 4
            release(0) = 2
            freeSince(2) = 114
            """);
    }

    private static void decline() {
        Script.check("promise 16", """
            addPool(0, 0, 3, 8) = 0
            decline(-1) ! IndexOutOfBoundsException
            decline(20) ! IndexOutOfBoundsException
            decline(0) ! NoSuchElementException
            discover(1, 0, 2) = 2
            accept(1) = 2
            release(1) = 2
            discover(0, 0, 2) = 2
            decline(0) ! NoSuchElementException
            accept(0) = 2
            advance(3) = 0
            decline(0) = 2
            log(0) = 7002
            logSize() = 6
            conflicts() = 0
            clientState(0) = 0
            addressState(2) = 3
            until(2) = 103
            holder(2) ! NoSuchElementException
            freeSince(2) ! NoSuchElementException
            remembered(0) ! NoSuchElementException
            # another client still remembers it
            remembered(1) = 2
            nextCandidate(1, 0) = 0
            decline(0) ! NoSuchElementException
            advance(99) = 0
            addressState(2) = 3
            advance(1) = 1
            addressState(2) = 0
            freeSince(2) = 103
            logSize() = 6
            nextCandidate(1, 0) = 2
            nextCandidate(0, 0) = 0
            """);
    }

    private static void renew() {
        Script.check("promise 17", """
            addPool(0, 0, 3, 23) = 0
            addPool(1, 4, 5, 23) = 1
            renew(-1) ! IndexOutOfBoundsException
            renew(20) ! IndexOutOfBoundsException
            renew(0) ! NoSuchElementException
            discover(0, 0, 2) = 2
            renew(0) ! NoSuchElementException
            accept(0) = 2
            advance(5) = 0
            setDirect(1, false) = true
            setRelay(0, false) = true
            renew(0) = true
            log(0) = 3002
            timer(0, 0) = 16
            timer(0, 1) = 25
            timer(0, 2) = 28
            until(2) = 28
            setDirect(0, false) = true
            renew(0) ! IllegalStateException
            # the lease of no client comes before the path
            renew(1) ! NoSuchElementException
            advance(20) = 2
            clientState(0) = 4
            renew(0) ! IllegalStateException
            setDirect(0, true) = false
            renew(0) = true
            clientState(0) = 2
            timer(0, 0) = 36
            timer(0, 1) = 45
            timer(0, 2) = 48
            setDirect(0, false) = true
            advanceToEvent() = 36
            clientState(0) = 3
            setDirect(0, true) = false
            renew(0) = true
            clientState(0) = 2
            """);
        Script.check("promise 17: a renewal is refused", """
            addPool(0, 0, 3, 23) = 0
            discover(0, 0, 2) = 2
            accept(0) = 2
            advance(4) = 0
            exclude(2, true) = false
            setDirect(0, false) = true
            renew(0) ! IllegalStateException
            clientState(0) = 2
            setDirect(0, true) = false
            renew(0) = false
            log(0) = 4002
            logSize() = 3
            clientState(0) = 0
            addressState(2) = 0
            freeSince(2) = 4
            remembered(0) = 2
            renew(0) ! NoSuchElementException
            nextCandidate(0, 0) = 0
            exclude(2, false) = true
            nextCandidate(0, 0) = 2
            # an address that is excluded no longer is renewed
            discover(0, 0, -1) = 2
            accept(0) = 2
            exclude(2, true) = false
            exclude(2, false) = true
            renew(0) = true
            """);
    }
}
