/** Promises 37 and 38. */
public final class SavingTest {
    public static void main(String[] args) {
        everythingButTheLog();
        settings();
        staysSaved();
        eventsAfterRestoring();
        poolsAndFreeTimes();
        Script.end();
    }

    private static void everythingButTheLog() {
        Script.check("promises 37 and 38", """
            restore() ! IllegalStateException
            addPool(0, 0, 9, 16) = 0
            addPool(1, 10, 19, 20) = 1
            setStranger(3, true) = false
            discover(0, 0, 3) = 0
            accept(0) = 0
            discover(1, 1, 12) = 12
            discover(2, 0, 5) = 5
            accept(2) = 5
            release(2) = 5
            advance(4) = 0
            save() = 1
            logSize() = 7
            release(0) = 0
            discover(0, 0, 9) = 0
            removePool(1) ! IllegalStateException
            advance(50) = 2
            removePool(1) = 1
            discover(5, 0, 7) = 7
            accept(5) = 7
            decline(5) = 7
            setStranger(8, true) = false
            discover(6, 0, 8) = 1
            conflicts() = 2
            logSize() = 16
            restore() = 1
            logSize() = 16
            log(0) = 1001
            time() = 4
            poolCount() = 2
            pool(1, 3) = 20
            conflicts() = 1
            bound() = 1
            clientState(0) = 2
            addressOf(0) = 0
            timer(0, 0) = 8
            timer(0, 1) = 14
            timer(0, 2) = 16
            clientState(1) = 1
            addressOf(1) = 12
            until(12) = 10
            holder(12) = 1
            clientState(5) = 0
            remembered(5) ! NoSuchElementException
            remembered(2) = 5
            freeSince(5) = 0
            freeSince(7) = -1
            addressState(7) = 0
            until(3) = 100
            addressState(8) = 0
            setStranger(8, false) = false
            setStranger(3, true) = true
            """);
    }

    private static void settings() {
        Script.check("promises 37 and 38: what is set is saved", """
            save() = 0
            setHold(7) = 10
            setQuarantine(77) = 100
            setDirect(0, false) = true
            setRelay(2, false) = true
            exclude(50, true) = false
            setStranger(51, true) = false
            addPool(1, 0, 5, 8) = 0
            advance(5) = 0
            restore() = 0
            poolCount() = 0
            time() = 0
            setHold(8) = 10
            setQuarantine(88) = 100
            setDirect(0, false) = true
            setRelay(2, false) = true
            exclude(50, true) = false
            setStranger(51, true) = false
            addPool(1, 0, 5, 8) = 0
            advance(6) = 0
            save() = 0
            setHold(9) = 8
            setQuarantine(99) = 88
            setDirect(0, true) = false
            setRelay(2, true) = false
            exclude(50, false) = true
            setStranger(51, false) = true
            removePool(0) = 0
            restore() = 0
            time() = 6
            setHold(9) = 8
            setQuarantine(99) = 88
            setDirect(0, true) = false
            setRelay(2, true) = false
            exclude(50, false) = true
            setStranger(51, false) = true
            pool(0, 2) = 5
            """);
    }

    private static void staysSaved() {
        Script.check("promise 38: it stays saved, until it is saved again", """
            addPool(0, 0, 9, 16) = 0
            discover(0, 0, -1) = 0
            accept(0) = 0
            save() = 1
            release(0) = 0
            bound() = 0
            restore() = 1
            decline(0) = 0
            exclude(1, true) = false
            restore() = 1
            clientState(0) = 2
            remembered(0) = 0
            exclude(1, false) = false
            discover(1, 0, -1) = 1
            accept(1) = 1
            save() = 2
            release(0) = 0
            release(1) = 1
            restore() = 2
            restore() = 2
            addressOf(1) = 1
            """);
    }

    private static void eventsAfterRestoring() {
        Script.check("promise 38: the events take place again", """
            addPool(0, 0, 9, 16) = 0
            setStranger(9, true) = false
            discover(0, 0, 9) = 0
            accept(0) = 0
            discover(1, 0, -1) = 1
            save() = 1
            advance(100) = 14
            restore() = 1
            time() = 0
            advance(100) = 14
            restore() = 1
            setDirect(0, false) = true
            setRelay(0, false) = true
            advance(100) = 5
            time() = 100
            bound() = 0
            restore() = 1
            advanceToEvent() = 8
            clientState(0) = 2
            log(0) = 3000
            log(1) = 5000
            """);
    }

    private static void poolsAndFreeTimes() {
        Script.check("promise 38: pools that were removed, and the times at which addresses became free", """
            addPool(0, 0, 9, 16) = 0
            addPool(1, 10, 19, 20) = 1
            discover(0, 0, 4) = 4
            accept(0) = 4
            advance(3) = 0
            release(0) = 4
            save() = 0
            discover(0, 0, 4) = 4
            advance(10) = 1
            freeSince(4) = 13
            removePool(0) = 1
            removePool(0) = 0
            addPool(2, 50, 60, 30) = 0
            restore() = 0
            poolCount() = 2
            pool(0, 0) = 0
            pool(0, 1) = 0
            pool(0, 2) = 9
            pool(0, 3) = 16
            pool(1, 0) = 1
            pool(1, 1) = 10
            pool(1, 2) = 19
            pool(1, 3) = 20
            freeSince(4) = 3
            freeSince(5) = -1
            poolOf(55) ! NoSuchElementException
            poolOf(19) = 1
            """);
    }
}
