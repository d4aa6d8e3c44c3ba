/**
 * Runs of calls with the answers that are due, a row each: "time() = 0" or "poolOf(5) ! NoSuchElementException".
 * The rows are carried out on a new LeaseServer and on a new Model, so that the Model is held to them too.
 */
final class Script {
    private static int wrong = 0;
    private static int rows = 0;

    private Script() {
    }

    static void check(String title, String text) {
        checkOn(new LeaseServer(), title, text);
        checkOn(new Model(), title + " (the model)", text);
    }

    private static void checkOn(Object target, String title, String text) {
        for (String line : text.split("\n")) {
            String row = line.strip();
            if (!row.isEmpty() && !row.startsWith("#")) {
                checkRow(target, title, row);
            }
        }
    }

    private static void checkRow(Object target, String title, String row) {
        int end = row.indexOf(')') + 1;
        String call = row.substring(0, end);
        String due = row.substring(end).strip();
        rows++;
        // Only a discovery that finds nothing may change the state and throw.
        boolean mayChange = call.startsWith("discover(") && due.equals("! NoSuchElementException");
        boolean unchanged = due.startsWith("!") && !mayChange;
        String before = unchanged ? Calls.snapshot(target) : "";
        String got = Calls.answer(target, call);
        if (!got.equals(due)) {
            say(title + ": " + call + " answered " + got + ", due is " + due);
        }
        if (unchanged && !before.equals(Calls.snapshot(target))) {
            say(title + ": " + call + " changed " + Calls.difference(before, Calls.snapshot(target)));
        }
    }

    static void say(String what) {
        wrong++;
        System.out.println(what);
    }

    static void end() {
        System.out.println(rows + " rows, " + wrong + " wrong");
        System.exit(wrong == 0 && rows > 0 ? 0 : 1);
    }
}
