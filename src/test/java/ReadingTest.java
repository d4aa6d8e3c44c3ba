/** Promises 21 to 28. */
public final class ReadingTest {
    public static void main(String[] args) {
        clients();
        timer();
        addresses();
        Script.end();
    }

    private static void clients() {
        Script.check("promises 21 to 23", """
            clientState(-1) ! IndexOutOfBoundsException
            clientState(20) ! IndexOutOfBoundsException
            addressOf(-1) ! IndexOutOfBoundsException
            addressOf(20) ! IndexOutOfBoundsException
            remembered(-1) ! IndexOutOfBoundsException
            remembered(20) ! IndexOutOfBoundsException
            addPool(0, 0, 9, 16) = 0
            clientState(19) = 0
            addressOf(19) ! NoSuchElementException
            remembered(19) ! NoSuchElementException
            discover(19, 0, 5) = 5
            clientState(19) = 1
            addressOf(19) = 5
            remembered(19) ! NoSuchElementException
            accept(19) = 5
            clientState(19) = 2
            addressOf(19) = 5
            remembered(19) = 5
            setDirect(0, false) = true
            setRelay(0, false) = true
            advance(8) = 1
            clientState(19) = 3
            addressOf(19) = 5
            remembered(19) = 5
            advance(6) = 1
            clientState(19) = 4
            addressOf(19) = 5
            advance(2) = 1
            clientState(19) = 0
            addressOf(19) ! NoSuchElementException
            remembered(19) = 5
            # another offer leaves the memory, another lease changes it
            setRelay(0, true) = false
            exclude(5, true) = false
            discover(19, 0, 7) = 7
            remembered(19) = 5
            accept(19) = 7
            remembered(19) = 7
            """);
    }

    private static void timer() {
        Script.check("promise 24", """
            addPool(0, 0, 9, 15) = 0
            timer(-1, 0) ! IndexOutOfBoundsException
            timer(20, 3) ! IndexOutOfBoundsException
            timer(0, 0) ! NoSuchElementException
            timer(0, 3) ! NoSuchElementException
            discover(0, 0, -1) = 0
            timer(0, 2) ! NoSuchElementException
            advance(1) = 0
            accept(0) = 0
            timer(0, 0) = 8
            timer(0, 1) = 14
            timer(0, 2) = 16
            timer(0, 3) ! IllegalArgumentException
            timer(0, -1) ! IllegalArgumentException
            setDirect(0, false) = true
            setRelay(0, false) = true
            advance(13) = 2
            # the times that have passed are told still
            timer(0, 0) = 8
            timer(0, 1) = 14
            timer(0, 2) = 16
            """);
        Script.check("promise 24: half and seven eighths, both rounded down", """
            addPool(0, 0, 0, 8) = 0
            addPool(0, 1, 1, 9) = 1
            addPool(0, 2, 2, 799) = 2
            addPool(0, 3, 3, 800) = 3
            addPool(0, 4, 4, 25) = 4
            discover(0, 0, 0) = 0
            discover(1, 0, 1) = 1
            discover(2, 0, 2) = 2
            discover(3, 0, 3) = 3
            discover(4, 0, 4) = 4
            accept(0) = 0
            accept(1) = 1
            accept(2) = 2
            accept(3) = 3
            accept(4) = 4
            timer(0, 0) = 4
            timer(0, 1) = 7
            timer(1, 0) = 4
            timer(1, 1) = 7
            timer(2, 0) = 399
            timer(2, 1) = 699
            timer(2, 2) = 799
            timer(3, 0) = 400
            timer(3, 1) = 700
            timer(4, 0) = 12
            timer(4, 1) = 21
            """);
    }

    private static void addresses() {
        String outside = "";
        for (String name : new String[] {"addressState", "holder", "until", "freeSince"}) {
            outside += name + "(-1) ! IndexOutOfBoundsException\n" + name + "(100) ! IndexOutOfBoundsException\n"
                + name + "(0) ! NoSuchElementException\n" + name + "(99) ! NoSuchElementException\n"
                + name + "(2147483647) ! IndexOutOfBoundsException\n";
        }
        Script.check("promises 25 to 28: outside", "addPool(0, 1, 98, 8) = 0\n" + outside);
        Script.check("promises 25 to 28", """
            addPool(0, 1, 5, 16) = 0
            addressState(3) = 0
            holder(3) ! NoSuchElementException
            until(3) ! NoSuchElementException
            freeSince(3) = -1
            advance(2) = 0
            discover(4, 0, 3) = 3
            addressState(3) = 1
            holder(3) = 4
            until(3) = 12
            freeSince(3) ! NoSuchElementException
            accept(4) = 3
            addressState(3) = 2
            holder(3) = 4
            until(3) = 18
            freeSince(3) ! NoSuchElementException
            advance(8) = 1
            until(3) = 26
            decline(4) = 3
            addressState(3) = 3
            holder(3) ! NoSuchElementException
            until(3) = 110
            freeSince(3) ! NoSuchElementException
            advance(100) = 1
            addressState(3) = 0
            holder(3) ! NoSuchElementException
            until(3) ! NoSuchElementException
            freeSince(3) = 110
            freeSince(1) = -1
            # an offer that ends by time
            discover(4, 0, 1) = 1
            advance(30) = 1
            freeSince(1) = 120
            """);
    }
}
