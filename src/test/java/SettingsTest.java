/** Promises 7 to 12. */
public final class SettingsTest {
    public static void main(String[] args) {
        exclude();
        setStranger();
        setHold();
        setQuarantine();
        setDirect();
        setRelay();
        Script.end();
    }

    private static void exclude() {
        Script.check("promise 7", """
            exclude(0, true) = false
            exclude(0, true) = true
            exclude(0, false) = true
            exclude(0, false) = false
            exclude(99, true) = false
            exclude(-1, true) ! IndexOutOfBoundsException
            exclude(100, false) ! IndexOutOfBoundsException
            addPool(0, 98, 99, 8) = 0
            pool(0, 4) = 1
            discover(0, 0, 99) = 98
            discover(1, 0, 99) ! NoSuchElementException
            exclude(98, true) = false
            addressState(98) = 1
            until(98) = 10
            clientState(0) = 1
            accept(0) = 98
            addressState(98) = 2
            clientState(0) = 2
            exclude(99, false) = true
            discover(1, 0, 99) = 99
            """);
    }

    private static void setStranger() {
        Script.check("promise 8", """
            setStranger(0, true) = false
            setStranger(0, true) = true
            setStranger(0, false) = true
            setStranger(0, false) = false
            setStranger(99, true) = false
            setStranger(-1, true) ! IndexOutOfBoundsException
            setStranger(100, true) ! IndexOutOfBoundsException
            addPool(0, 98, 99, 8) = 0
            discover(0, 0, 99) = 98
            conflicts() = 1
            setStranger(98, true) = false
            accept(0) = 98
            conflicts() = 1
            """);
    }

    private static void setHold() {
        Script.check("promise 9", """
            setHold(0) ! IllegalArgumentException
            setHold(51) ! IllegalArgumentException
            setHold(-1) ! IllegalArgumentException
            setHold(50) = 10
            addPool(0, 0, 9, 8) = 0
            discover(0, 0, -1) = 0
            setHold(1) = 50
            until(0) = 50
            discover(1, 0, -1) = 1
            until(1) = 1
            setHold(7) = 1
            advance(1) = 1
            addressState(1) = 0
            advance(48) = 0
            addressState(0) = 1
            advance(1) = 1
            addressState(0) = 0
            """);
    }

    private static void setQuarantine() {
        Script.check("promise 10", """
            setQuarantine(0) ! IllegalArgumentException
            setQuarantine(501) ! IllegalArgumentException
            setQuarantine(-100) ! IllegalArgumentException
            setQuarantine(500) = 100
            addPool(0, 0, 9, 8) = 0
            setStranger(0, true) = false
            discover(0, 0, -1) = 1
            until(0) = 500
            setQuarantine(1) = 500
            until(0) = 500
            accept(0) = 1
            decline(0) = 1
            until(1) = 1
            setQuarantine(33) = 1
            advance(1) = 1
            addressState(1) = 0
            freeSince(1) = 1
            addressState(0) = 3
            """);
    }

    private static void setDirect() {
        Script.check("promise 11", """
            setDirect(0, false) = true
            setDirect(0, false) = false
            setDirect(0, true) = false
            setDirect(1, true) = true
            setDirect(2, false) = true
            setDirect(-1, true) ! IndexOutOfBoundsException
            setDirect(3, true) ! IndexOutOfBoundsException
            addPool(1, 0, 9, 8) = 0
            addPool(2, 10, 19, 8) = 1
            discover(0, 1, -1) = 0
            discover(1, 2, -1) = 10
            accept(0) = 0
            accept(1) = 10
            renew(0) = true
            renew(1) ! IllegalStateException
            advance(4) = 2
            clientState(0) = 2
            clientState(1) = 3
            """);
    }

    private static void setRelay() {
        Script.check("promise 12", """
            setRelay(0, false) = true
            setRelay(0, false) = false
            setRelay(0, true) = false
            setRelay(1, true) = true
            setRelay(2, false) = true
            setRelay(-1, true) ! IndexOutOfBoundsException
            setRelay(3, true) ! IndexOutOfBoundsException
            addPool(1, 0, 9, 8) = 0
            addPool(2, 10, 19, 8) = 1
            discover(1, 2, -1) ! IllegalStateException
            discover(1, 1, -1) = 0
            setRelay(1, false) = true
            accept(1) ! IllegalStateException
            setRelay(2, true) = false
            discover(1, 2, -1) = 10
            accept(1) = 10
            nextCandidate(2, 1) = 1
            """);
    }
}
