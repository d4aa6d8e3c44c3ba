/** Promises 18 to 20, and the paragraph on events. */
public final class TimeTest {
    public static void main(String[] args) {
        advance();
        endOfTime();
        renewals();
        refusedAtRenewalAndRebinding();
        orderOfEvents();
        advanceToEvent();
        manyLeases();
        Script.end();
    }

    private static void advance() {
        Script.check("promises 18 and 20", """
            time() = 0
            advance(0) ! IllegalArgumentException
            advance(-1) ! IllegalArgumentException
            advance(2001) ! IllegalArgumentException
            advance(2147483647) ! IllegalArgumentException
            advance(1) = 0
            time() = 1
            advance(2000) = 0
            time() = 2001
            addPool(0, 0, 9, 8) = 0
            discover(0, 0, -1) = 0
            advance(9) = 0
            clientState(0) = 1
            advance(1) = 1
            clientState(0) = 0
            freeSince(0) = 2011
            log(0) = 9000
            """);
    }

    private static void endOfTime() {
        Script.check("promises 18 and 19: the time is never greater than 100000", "addPool(0, 0, 9, 8) = 0\n"
            + "advance(2000) = 0\n".repeat(49) + """
            advance(1999) = 0
            time() = 99999
            discover(0, 0, -1) = 0
            advance(2) ! IllegalStateException
            advance(2001) ! IllegalArgumentException
            advanceToEvent() ! IllegalStateException
            time() = 99999
            setHold(1) = 10
            discover(1, 0, -1) = 1
            advanceToEvent() = 100000
            log(0) = 9001
            advance(1) ! IllegalStateException
            advanceToEvent() ! IllegalStateException
            until(0) = 100009
            accept(0) = 0
            timer(0, 2) = 100008
            advanceToEvent() ! IllegalStateException
            release(0) = 0
            advanceToEvent() ! NoSuchElementException
            time() = 100000
            """);
        Script.check("promise 19: a renewal may come before the end of time, the end of the lease after it",
            "addPool(0, 0, 9, 8) = 0\n" + "advance(2000) = 0\n".repeat(49) + """
            advance(1995) = 0
            discover(0, 0, -1) = 0
            accept(0) = 0
            advanceToEvent() = 99999
            advanceToEvent() ! IllegalStateException
            advance(1) = 0
            clientState(0) = 2
            """);
    }

    private static void renewals() {
        Script.check("promise 18: renewals over the direct path, counted from the renewal", """
            addPool(0, 0, 9, 17) = 0
            discover(0, 0, -1) = 0
            accept(0) = 0
            advance(7) = 0
            advance(1) = 1
            log(0) = 3000
            timer(0, 0) = 16
            timer(0, 1) = 22
            timer(0, 2) = 25
            advance(80) = 10
            time() = 88
            timer(0, 2) = 105
            """);
        Script.check("promise 18: rebinding over the relay path", """
            addPool(0, 0, 9, 17) = 0
            discover(0, 0, -1) = 0
            accept(0) = 0
            setDirect(0, false) = true
            advance(8) = 1
            clientState(0) = 3
            logSize() = 2
            # once it is renewing, only the rebinding time counts
            setDirect(0, true) = false
            advance(5) = 0
            clientState(0) = 3
            advance(1) = 1
            time() = 14
            clientState(0) = 2
            log(0) = 3000
            timer(0, 0) = 22
            timer(0, 1) = 28
            timer(0, 2) = 31
            """);
        Script.check("promise 18: the lease ends by time", """
            addPool(0, 0, 9, 17) = 0
            discover(0, 0, -1) = 0
            accept(0) = 0
            setDirect(0, false) = true
            setRelay(0, false) = true
            advance(14) = 2
            clientState(0) = 4
            setDirect(0, true) = false
            setRelay(0, true) = false
            # a rebinding client is renewed no more by time
            advance(2) = 0
            clientState(0) = 4
            timer(0, 2) = 17
            advance(1) = 1
            clientState(0) = 0
            log(0) = 5000
            logSize() = 3
            freeSince(0) = 17
            remembered(0) = 0
            """);
        Script.check("promise 18: the paths of the own group count", """
            addPool(0, 0, 9, 16) = 0
            addPool(1, 10, 19, 16) = 1
            setDirect(1, false) = true
            discover(0, 0, -1) = 0
            accept(0) = 0
            discover(1, 1, -1) = 10
            accept(1) = 10
            setRelay(1, false) = true
            advance(8) = 2
            clientState(0) = 2
            clientState(1) = 3
            advance(6) = 1
            clientState(1) = 4
            """);
    }

    private static void refusedAtRenewalAndRebinding() {
        Script.check("promise 18: refused at the renewal time", """
            addPool(0, 0, 9, 16) = 0
            discover(0, 0, -1) = 0
            accept(0) = 0
            exclude(0, true) = false
            advance(20) = 1
            log(0) = 4000
            logSize() = 3
            freeSince(0) = 8
            clientState(0) = 0
            remembered(0) = 0
            """);
        Script.check("promise 18: refused at the rebinding time", """
            addPool(0, 0, 9, 16) = 0
            discover(0, 0, -1) = 0
            accept(0) = 0
            exclude(0, true) = false
            setDirect(0, false) = true
            advance(20) = 2
            log(0) = 4000
            logSize() = 3
            freeSince(0) = 14
            clientState(0) = 0
            remembered(0) = 0
            """);
        Script.check("promise 18: an excluded address is leased to the end without a path", """
            addPool(0, 0, 9, 16) = 0
            discover(0, 0, -1) = 0
            accept(0) = 0
            exclude(0, true) = false
            setDirect(0, false) = true
            setRelay(0, false) = true
            advance(20) = 3
            log(0) = 5000
            freeSince(0) = 16
            """);
    }

    private static void orderOfEvents() {
        // At the time 28 there are two of each kind but quarantines, which leave no entry, the greater address first.
        Script.check("promise 18: the order of the events of one time", """
            addPool(0, 0, 19, 32) = 0
            addPool(1, 20, 39, 56) = 1
            addPool(2, 40, 59, 28) = 2
            setDirect(0, false) = true
            setDirect(2, false) = true
            setRelay(2, true) = true
            discover(0, 0, 9) = 9
            accept(0) = 9
            discover(1, 0, 8) = 8
            accept(1) = 8
            discover(2, 1, 29) = 29
            accept(2) = 29
            discover(3, 1, 28) = 28
            accept(3) = 28
            discover(4, 2, 49) = 49
            accept(4) = 49
            discover(5, 2, 48) = 48
            accept(5) = 48
            setRelay(2, false) = true
            setHold(28) = 10
            discover(6, 1, 39) = 39
            discover(7, 0, 7) = 7
            logSize() = 14
            advance(27) = 6
            logSize() = 14
            advance(1) = 8
            log(7) = 9007
            log(6) = 9039
            log(5) = 3028
            log(4) = 3029
            log(3) = 3008
            log(2) = 3009
            log(1) = 5048
            log(0) = 5049
            """);
        Script.check("promise 18: events of different times in the order of the times", """
            addPool(0, 0, 19, 8) = 0
            discover(0, 0, 9) = 9
            accept(0) = 9
            setHold(6) = 10
            discover(1, 0, 3) = 3
            setHold(2) = 6
            discover(2, 0, 5) = 5
            advance(6) = 3
            log(0) = 9003
            log(1) = 3009
            log(2) = 9005
            freeSince(5) = 2
            freeSince(3) = 6
            """);
    }

    private static void advanceToEvent() {
        Script.check("promise 19", """
            advanceToEvent() ! NoSuchElementException
            addPool(0, 0, 9, 16) = 0
            advanceToEvent() ! NoSuchElementException
            setStranger(0, true) = false
            discover(0, 0, -1) = 1
            discover(1, 0, -1) = 2
            advanceToEvent() = 10
            time() = 10
            # both offers have ended
            logSize() = 5
            clientState(0) = 0
            clientState(1) = 0
            advanceToEvent() = 100
            addressState(0) = 0
            freeSince(0) = 100
            advanceToEvent() ! NoSuchElementException
            discover(0, 0, -1) = 3
            accept(0) = 3
            advanceToEvent() = 108
            setDirect(0, false) = true
            advanceToEvent() = 116
            clientState(0) = 3
            setRelay(0, false) = true
            advanceToEvent() = 122
            clientState(0) = 4
            advanceToEvent() = 124
            clientState(0) = 0
            advanceToEvent() ! NoSuchElementException
            time() = 124
            """);
        Script.check("promise 19: events of all kinds at one time", """
            addPool(0, 0, 9, 20) = 0
            setQuarantine(10) = 100
            setStranger(4, true) = false
            setStranger(2, true) = false
            discover(0, 0, 4) = 0
            accept(0) = 0
            discover(1, 0, 2) = 1
            advanceToEvent() = 10
            addressState(4) = 0
            addressState(2) = 0
            addressState(1) = 0
            timer(0, 0) = 20
            """);
    }

    private static void manyLeases() {
        StringBuilder text = new StringBuilder("addPool(0, 0, 99, 8) = 0\n");
        for (int client = 0; client < 20; client++) {
            text.append("discover(" + client + ", 0, -1) = " + client + "\naccept(" + client + ") = " + client + "\n");
        }
        Script.check("promise 18: as many events as there can be", text + """
            advance(2000) = 10000
            bound() = 20
            log(0) = 3019
            log(19) = 3000
            log(20) = 3019
            """);
    }
}
