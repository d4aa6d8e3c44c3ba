import java.util.ArrayList;
import java.util.List;

/**
 * Runs of calls with the answers that are due, a row each: "time() = 0" or "poolOf(5) ! NoSuchElementException".
 * A row such as "0..9: exclude($, true) = false" stands for one row for each of the numbers, in the place of the $.
 * The rows are carried out on a new LeaseServer and on a new Model, so that the Model is held to them too.
 */
final class Script {
    private static int wrong = 0;
    private static int rows = 0;

    private Script() {
    }

    static void check(String title, String text) {
        for (String fault : faults(new LeaseServer(), text)) {
            say(title + ": " + fault);
        }
        for (String fault : faults(new Model(), text)) {
            say(title + " (the model): " + fault);
        }
    }

    /** Carries out the rows on a target, and returns what is wrong. */
    static List<String> faults(Object target, String text) {
        List<String> faults = new ArrayList<>();
        for (String line : text.split("\n")) {
            String row = line.strip();
            if (!row.isEmpty() && !row.startsWith("#")) {
                for (String single : singles(row)) {
                    checkRow(target, single, faults);
                }
            }
        }
        return faults;
    }

    private static List<String> singles(String row) {
        if (!row.matches("\\d+\\.\\.\\d+: .*")) {
            return List.of(row);
        }
        List<String> singles = new ArrayList<>();
        int dots = row.indexOf("..");
        int colon = row.indexOf(": ");
        int last = Integer.parseInt(row.substring(dots + 2, colon));
        for (int number = Integer.parseInt(row.substring(0, dots)); number <= last; number++) {
            singles.add(row.substring(colon + 2).replace("$", "" + number));
        }
        return singles;
    }

    private static void checkRow(Object target, String row, List<String> faults) {
        int end = row.indexOf(')') + 1;
        String call = row.substring(0, end);
        String due = row.substring(end).strip();
        rows++;
        // Only a discovery that finds nothing may change the state and throw.
        boolean mayChange = call.startsWith("discover(") && due.equals("! NoSuchElementException");
        boolean unchanged = due.startsWith("!") && !mayChange;
        String before = unchanged ? Calls.snapshot(target) : "";
        String got = Calls.answer(target, call);
        if (!got.equals(due)) {
            faults.add(call + " answered " + got + ", due is " + due);
        }
        String after = unchanged ? Calls.snapshot(target) : "";
        if (!before.equals(after)) {
            faults.add(call + " changed " + Calls.difference(before, after));
        }
    }

    static void say(String what) {
        wrong++;
        System.out.println(what);
    }

    static void end() {
        System.out.println(rows + " rows, " + wrong + " wrong");
        System.exit(wrong == 0 && rows > 0 ? 0 : 1);
    }
}
