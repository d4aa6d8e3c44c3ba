/** Promises 1 to 6. */
public final class PoolsTest {
    public static void main(String[] args) {
        newObject();
        addPool();
        addPoolOrderOfExceptions();
        removePool();
        removedPoolIsForgotten();
        pool();
        poolOf();
        Script.end();
    }

    private static void newObject() {
        Script.check("promise 1", """
            poolCount() = 0
            time() = 0
            bound() = 0
            conflicts() = 0
            logSize() = 0
            clientState(0) = 0
            clientState(19) = 0
            remembered(0) ! NoSuchElementException
            remembered(19) ! NoSuchElementException
            addressOf(0) ! NoSuchElementException
            poolOf(0) ! NoSuchElementException
            poolOf(99) ! NoSuchElementException
            pool(0, 0) ! IndexOutOfBoundsException
            exclude(0, false) = false
            exclude(99, false) = false
            setStranger(0, false) = false
            setStranger(99, false) = false
            setDirect(0, true) = true
            setDirect(2, true) = true
            setRelay(0, true) = true
            setRelay(2, true) = true
            setHold(10) = 10
            setQuarantine(100) = 100
            restore() ! IllegalStateException
            """);
    }

    private static void addPool() {
        Script.check("promise 2", """
            addPool(0, 0, 0, 8) = 0
            addPool(2, 99, 99, 800) = 1
            addPool(1, 10, 20, 100) = 2
            pool(0, 3) = 8
            pool(1, 0) = 2
            pool(1, 1) = 99
            addressState(15) = 0
            freeSince(10) = -1
            freeSince(20) = -1
            addPool(0, 20, 21, 8) ! IllegalStateException
            addPool(0, 9, 10, 8) ! IllegalStateException
            addPool(0, 12, 13, 8) ! IllegalStateException
            addPool(0, 1, 98, 8) ! IllegalStateException
            addPool(1, 21, 98, 8) = 3
            addPool(0, 1, 9, 8) = 4
            addPool(0, 99, 99, 8) ! IllegalStateException
            poolCount() = 5
            """);
        Script.check("promise 2: five pools with addresses left", """
            addPool(0, 0, 0, 8) = 0
            addPool(0, 1, 1, 8) = 1
            addPool(0, 2, 2, 8) = 2
            addPool(0, 3, 3, 8) = 3
            addPool(0, 4, 4, 8) = 4
            addPool(0, 50, 60, 8) ! IllegalStateException
            """);
        Script.check("promise 2: addresses out of range", """
            addPool(0, -1, 5, 8) ! IllegalArgumentException
            addPool(0, 0, 100, 8) ! IllegalArgumentException
            addPool(0, 100, 100, 8) ! IllegalArgumentException
            addPool(0, -5, -1, 8) ! IllegalArgumentException
            addPool(0, 6, 5, 8) ! IllegalArgumentException
            addPool(0, -2147483648, 2147483647, 8) ! IllegalArgumentException
            addPool(0, 5, 6, 7) ! IllegalArgumentException
            addPool(0, 5, 6, 801) ! IllegalArgumentException
            addPool(0, 5, 6, -8) ! IllegalArgumentException
            addPool(-1, 5, 6, 8) ! IndexOutOfBoundsException
            addPool(3, 5, 6, 8) ! IndexOutOfBoundsException
            addPool(0, 0, 99, 8) = 0
            poolCount() = 1
            """);
    }

    private static void addPoolOrderOfExceptions() {
        Script.check("promise 2: the order of the exceptions", """
            addPool(0, 0, 9, 8) = 0
            addPool(3, 6, 5, 7) ! IndexOutOfBoundsException
            addPool(0, 0, 9, 7) ! IllegalArgumentException
            addPool(0, 1, 1, 8) ! IllegalStateException
            addPool(0, 10, 10, 8) = 1
            addPool(0, 11, 11, 8) = 2
            addPool(0, 12, 12, 8) = 3
            addPool(0, 13, 13, 8) = 4
            addPool(0, 14, 14, 801) ! IllegalArgumentException
            addPool(-1, 14, 14, 8) ! IndexOutOfBoundsException
            """);
    }

    private static void removePool() {
        Script.check("promise 3", """
            addPool(0, 0, 9, 10) = 0
            addPool(1, 10, 19, 20) = 1
            addPool(2, 20, 29, 30) = 2
            removePool(3) ! IndexOutOfBoundsException
            removePool(-1) ! IndexOutOfBoundsException
            removePool(2147483647) ! IndexOutOfBoundsException
            removePool(0) = 2
            poolOf(5) ! NoSuchElementException
            poolOf(10) = 0
            poolOf(29) = 1
            pool(0, 0) = 1
            pool(0, 1) = 10
            pool(0, 2) = 19
            pool(0, 3) = 20
            pool(1, 0) = 2
            pool(1, 1) = 20
            pool(1, 2) = 29
            pool(1, 3) = 30
            pool(2, 0) ! IndexOutOfBoundsException
            removePool(1) = 1
            removePool(0) = 0
            removePool(0) ! IndexOutOfBoundsException
            """);
        Script.check("promise 3: all five pools", """
            addPool(0, 0, 0, 8) = 0
            addPool(0, 1, 1, 9) = 1
            addPool(0, 2, 2, 10) = 2
            addPool(0, 3, 3, 11) = 3
            addPool(0, 4, 4, 12) = 4
            removePool(1) = 4
            pool(1, 3) = 10
            pool(3, 3) = 12
            pool(4, 3) ! IndexOutOfBoundsException
            addPool(0, 1, 1, 13) = 4
            """);
        Script.check("promise 3: addresses that are not free", """
            addPool(0, 0, 2, 10) = 0
            discover(0, 0, 2) = 2
            removePool(0) ! IllegalStateException
            accept(0) = 2
            removePool(0) ! IllegalStateException
            decline(0) = 2
            removePool(0) ! IllegalStateException
            advance(99) = 0
            removePool(0) ! IllegalStateException
            advance(1) = 1
            removePool(0) = 0
            """);
    }

    private static void removedPoolIsForgotten() {
        Script.check("promises 2 and 3: an address is fresh again in a new pool, exclusion and memory stay", """
            addPool(0, 0, 2, 10) = 0
            exclude(2, true) = false
            setStranger(0, true) = false
            discover(7, 0, 1) = 1
            accept(7) = 1
            release(7) = 1
            freeSince(1) = 0
            removePool(0) = 0
            remembered(7) = 1
            addressState(1) ! NoSuchElementException
            addPool(1, 0, 3, 10) = 0
            freeSince(1) = -1
            pool(0, 4) = 3
            exclude(2, true) = true
            setStranger(0, true) = true
            nextCandidate(7, 1) = 1
            nextCandidate(8, 1) = 0
            """);
        Script.check("promise 2: the first and the last address are fresh again too", """
            addPool(0, 0, 1, 10) = 0
            addPool(0, 98, 99, 10) = 1
            setHold(1) = 10
            discover(0, 0, 0) = 0
            discover(1, 0, 1) = 1
            discover(2, 0, 98) = 98
            discover(3, 0, 99) = 99
            advance(1) = 4
            removePool(1) = 1
            removePool(0) = 0
            addPool(2, 0, 99, 10) = 0
            freeSince(0) = -1
            freeSince(1) = -1
            freeSince(98) = -1
            freeSince(99) = -1
            """);
    }

    private static void pool() {
        Script.check("promises 4 and 5", """
            poolCount() = 0
            addPool(1, 3, 7, 12) = 0
            poolCount() = 1
            pool(0, 0) = 1
            pool(0, 1) = 3
            pool(0, 2) = 7
            pool(0, 3) = 12
            pool(0, 4) = 5
            exclude(3, true) = false
            exclude(8, true) = false
            pool(0, 4) = 4
            discover(0, 1, 3) = 4
            pool(0, 4) = 3
            exclude(4, true) = false
            pool(0, 4) = 3
            pool(0, 5) ! IllegalArgumentException
            pool(0, -1) ! IllegalArgumentException
            pool(1, 0) ! IndexOutOfBoundsException
            pool(1, 9) ! IndexOutOfBoundsException
            pool(-1, 0) ! IndexOutOfBoundsException
            """);
    }

    private static void poolOf() {
        Script.check("promise 6", """
            addPool(1, 3, 7, 12) = 0
            addPool(1, 8, 8, 12) = 1
            poolOf(2) ! NoSuchElementException
            poolOf(3) = 0
            poolOf(7) = 0
            poolOf(8) = 1
            poolOf(9) ! NoSuchElementException
            poolOf(-1) ! IndexOutOfBoundsException
            poolOf(100) ! IndexOutOfBoundsException
            poolOf(-2147483648) ! IndexOutOfBoundsException
            """);
    }
}
