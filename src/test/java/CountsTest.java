/** Promises 30 to 32, 35 and 36. */
public final class CountsTest {
    public static void main(String[] args) {
        countState();
        boundAndConflicts();
        utilization();
        averageRest();
        Script.end();
    }

    private static void countState() {
        Script.check("promise 30", """
            countState(-1, 0) ! IndexOutOfBoundsException
            countState(3, 0) ! IndexOutOfBoundsException
            countState(3, 4) ! IndexOutOfBoundsException
            countState(0, -1) ! IllegalArgumentException
            countState(0, 4) ! IllegalArgumentException
            countState(0, 0) = 0
            addPool(0, 0, 9, 16) = 0
            addPool(1, 10, 14, 16) = 1
            addPool(0, 20, 24, 16) = 2
            countState(0, 0) = 15
            countState(1, 0) = 5
            countState(2, 0) = 0
            # excluded addresses count too
            exclude(0, true) = false
            countState(0, 0) = 15
            setStranger(24, true) = false
            discover(0, 0, 23) = 23
            discover(1, 0, 9) = 9
            discover(2, 0, 24) = 1
            discover(3, 1, -1) = 10
            accept(1) = 9
            countState(0, 0) = 11
            countState(0, 1) = 2
            countState(0, 2) = 1
            countState(0, 3) = 1
            countState(1, 0) = 4
            countState(1, 1) = 1
            countState(1, 2) = 0
            countState(1, 3) = 0
            """);
    }

    private static void boundAndConflicts() {
        Script.check("promises 31 and 32", """
            bound() = 0
            conflicts() = 0
            addPool(0, 0, 9, 16) = 0
            discover(0, 0, -1) = 0
            bound() = 0
            accept(0) = 0
            bound() = 1
            discover(1, 0, -1) = 1
            accept(1) = 1
            bound() = 2
            setDirect(0, false) = true
            setRelay(0, false) = true
            advance(8) = 2
            bound() = 2
            advance(6) = 2
            bound() = 2
            decline(0) = 0
            bound() = 1
            conflicts() = 0
            advance(2) = 1
            bound() = 0
            setRelay(0, true) = false
            setStranger(2, true) = false
            setStranger(3, true) = false
            discover(0, 0, 3) = 4
            conflicts() = 2
            advance(200) = 4
            conflicts() = 2
            discover(0, 0, 3) = 5
            conflicts() = 3
            """);
    }

    private static void utilization() {
        Script.check("promise 35", """
            utilization(-1) ! IndexOutOfBoundsException
            utilization(3) ! IndexOutOfBoundsException
            utilization(0) ! ArithmeticException
            addPool(0, 0, 1, 16) = 0
            addPool(0, 10, 10, 16) = 1
            addPool(1, 20, 29, 16) = 2
            utilization(0) = 0.0
            utilization(2) ! ArithmeticException
            discover(0, 0, 10) = 10
            utilization(0) = 0.0
            accept(0) = 10
            utilization(0) = 0.3333333333333333
            utilization(1) = 0.0
            exclude(0, true) = false
            utilization(0) = 0.3333333333333333
            discover(1, 0, 1) = 1
            accept(1) = 1
            utilization(0) = 0.6666666666666666
            decline(1) = 1
            utilization(0) = 0.3333333333333333
            discover(2, 1, 29) = 29
            accept(2) = 29
            utilization(1) = 0.1
            removePool(2) ! IllegalStateException
            release(2) = 29
            removePool(2) = 2
            utilization(1) ! ArithmeticException
            """);
    }

    private static void averageRest() {
        Script.check("promise 36", """
            averageRest() ! ArithmeticException
            addPool(0, 0, 9, 100) = 0
            addPool(1, 10, 19, 21) = 1
            discover(0, 0, -1) = 0
            averageRest() ! ArithmeticException
            accept(0) = 0
            averageRest() = 100.0
            advance(3) = 0
            averageRest() = 97.0
            discover(1, 1, -1) = 10
            accept(1) = 10
            averageRest() = 59.0
            discover(2, 1, -1) = 11
            accept(2) = 11
            averageRest() = 46.333332
            setDirect(1, false) = true
            setRelay(1, false) = true
            advance(20) = 4
            averageRest() = 26.333334
            advance(1) = 2
            averageRest() = 76.0
            decline(0) = 0
            averageRest() ! ArithmeticException
            """);
    }
}
