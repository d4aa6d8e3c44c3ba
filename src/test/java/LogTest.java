/** Promises 33 and 34, and the paragraph on the log. */
public final class LogTest {
    public static void main(String[] args) {
        kinds();
        latestThirty();
        Script.end();
    }

    private static void kinds() {
        Script.check("promises 33 and 34: each kind", """
            logSize() = 0
            log(0) ! IndexOutOfBoundsException
            log(-1) ! IndexOutOfBoundsException
            addPool(0, 0, 99, 8) = 0
            setStranger(98, true) = false
            discover(0, 0, 98) = 0
            log(0) = 1000
            log(1) = 8098
            log(2) ! IndexOutOfBoundsException
            log(-1) ! IndexOutOfBoundsException
            log(2147483647) ! IndexOutOfBoundsException
            log(-2147483648) ! IndexOutOfBoundsException
            discover(0, 0, 99) = 99
            log(0) = 1099
            accept(0) = 99
            log(0) = 2099
            renew(0) = true
            log(0) = 3099
            exclude(99, true) = false
            renew(0) = false
            log(0) = 4099
            exclude(99, false) = true
            discover(0, 0, 99) = 99
            accept(0) = 99
            setDirect(0, false) = true
            setRelay(0, false) = true
            logSize() = 8
            advance(7) = 2
            logSize() = 8
            advance(1) = 1
            log(0) = 5099
            setRelay(0, true) = false
            discover(0, 0, 99) = 99
            accept(0) = 99
            release(0) = 99
            log(0) = 6099
            discover(0, 0, 99) = 99
            accept(0) = 99
            decline(0) = 99
            log(0) = 7099
            discover(0, 0, 97) = 97
            advance(10) = 1
            log(0) = 9097
            logSize() = 17
            # the end of a quarantine is not written
            advance(200) = 2
            logSize() = 17
            log(16) = 8098
            log(17) ! IndexOutOfBoundsException
            """);
    }

    private static void latestThirty() {
        StringBuilder text = new StringBuilder("addPool(0, 0, 99, 8) = 0\n");
        for (int i = 0; i < 29; i++) {
            text.append("discover(0, 0, " + i + ") = " + i + "\n");
        }
        Script.check("promises 33 and 34: the latest 30 entries", text + """
            logSize() = 29
            log(28) = 1000
            log(29) ! IndexOutOfBoundsException
            discover(0, 0, 29) = 29
            logSize() = 30
            log(29) = 1000
            log(0) = 1029
            log(30) ! IndexOutOfBoundsException
            discover(0, 0, 30) = 30
            logSize() = 30
            log(0) = 1030
            log(29) = 1001
            log(30) ! IndexOutOfBoundsException
            accept(0) = 30
            log(0) = 2030
            log(1) = 1030
            log(29) = 1002
            """);
    }
}
