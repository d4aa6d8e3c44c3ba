/** Long runs of drawn calls, the same ones each time, in which the program is held against the Model. */
public final class RandomRunsTest {
    private static final int RUNS = 400;
    private static final int CALLS = 512;

    private static long seed;

    public static void main(String[] args) {
        int wrong = 0;
        for (int run = 0; run < RUNS && wrong < 5; run++) {
            seed = run;
            wrong += differs(run) ? 1 : 0;
        }
        System.out.println(RUNS + " runs of " + CALLS + " calls, " + wrong + " wrong");
        System.exit(wrong == 0 ? 0 : 1);
    }

    private static boolean differs(int run) {
        LeaseServer program = new LeaseServer();
        Model model = new Model();
        for (int i = 0; i < CALLS; i++) {
            String call = drawnCall(run);
            String before = i % 32 == 0 ? Calls.snapshot(program) : "";
            String got = Calls.answer(program, call);
            String due = Calls.answer(model, call);
            if (!got.equals(due)) {
                System.out.println("run " + run + ", call " + i + ": " + call + " " + got + ", due is " + due);
                return true;
            }
            if (i % 32 == 0 && got.startsWith("!") && !call.startsWith("discover")
                && !before.equals(Calls.snapshot(program))) {
                System.out.println("run " + run + ", call " + i + ": " + call + " threw and changed the state");
                return true;
            }
            if (i % 64 == 63 && snapshotsDiffer(program, model, "run " + run + ", call " + i + ": " + call)) {
                return true;
            }
        }
        return false;
    }

    private static boolean snapshotsDiffer(LeaseServer program, Model model, String where) {
        String got = Calls.snapshot(program);
        String due = Calls.snapshot(model);
        if (got.equals(due)) {
            return false;
        }
        System.out.println(where + ": afterwards " + Calls.difference(got, due));
        return true;
    }

    private static int draw(int end) {
        seed = seed * 6364136223846793005L + 1442695040888963407L;
        return (int) ((seed >>> 33) % end);
    }

    /** Mostly a number of the range, now and then one beside it or far from it. */
    private static int near(int end) {
        if (draw(24) > 0) {
            return draw(end);
        }
        switch (draw(6)) {
            case 0: return Integer.MIN_VALUE;
            case 1: return Integer.MAX_VALUE;
            case 2: return -2;
            case 3: return end + 1;
            case 4: return end;
            default: return -1;
        }
    }

    private static String drawnCall(int run) {
        // Runs differ in how close the addresses lie, how many clients there are, and how fast time passes.
        int addresses = run % 3 == 0 ? 100 : run % 3 == 1 ? 12 : 30;
        int clients = run % 2 == 0 ? 20 : 5;
        int ticks = run % 5 == 0 ? 2000 : run % 5 == 1 ? 5 : 60;
        switch (draw(34)) {
            case 0: case 1: return addPool(addresses, run);
            case 2: return draw(3) == 0 ? "removePool(" + near(5) + ")" : "poolCount()";
            case 3: return "exclude(" + near(addresses) + ", " + (draw(3) == 0) + ")";
            case 4: return "setStranger(" + near(addresses) + ", " + (draw(3) == 0) + ")";
            case 5: return draw(2) == 0 ? "setHold(" + near(52) + ")" : "setQuarantine(" + near(draw(2) == 0 ? 30 : 502) + ")";
            case 6: return "setDirect(" + near(3) + ", " + (draw(2) == 0) + ")";
            case 7: return "setRelay(" + near(3) + ", " + (draw(3) > 0) + ")";
            case 8: case 9: case 10: case 11: case 12: case 13:
                return "discover(" + near(clients) + ", " + near(3) + ", " + near(addresses) + ")";
            case 14: case 15: case 16: case 17: case 18: return "accept(" + near(clients) + ")";
            case 19: return "release(" + near(clients) + ")";
            case 20: return "decline(" + near(clients) + ")";
            case 21: return "renew(" + near(clients) + ")";
            case 22: case 23: case 24: return "advance(" + near(ticks + 1) + ")";
            case 25: case 26: case 27: return "advanceToEvent()";
            case 28: return draw(4) > 0 ? "time()" : draw(2) == 0 ? "save()" : "restore()";
            default: return reading(addresses, clients);
        }
    }

    private static String addPool(int addresses, int run) {
        int first = near(addresses);
        int last = first + draw(addresses / 4) - (draw(20) == 0 ? 3 : 0);
        int lease = draw(20) == 0 ? 7 + draw(2) * 794 : 8 + draw(run % 4 == 0 ? 793 : 20);
        return "addPool(" + near(3) + ", " + first + ", " + last + ", " + lease + ")";
    }

    private static String reading(int addresses, int clients) {
        switch (draw(17)) {
            case 0: return "pool(" + near(5) + ", " + near(5) + ")";
            case 1: return "poolOf(" + near(addresses) + ")";
            case 2: return "clientState(" + near(clients) + ")";
            case 3: return "addressOf(" + near(clients) + ")";
            case 4: return "remembered(" + near(clients) + ")";
            case 5: return "timer(" + near(clients) + ", " + near(3) + ")";
            case 6: return "addressState(" + near(addresses) + ")";
            case 7: return "holder(" + near(addresses) + ")";
            case 8: return "until(" + near(addresses) + ")";
            case 9: return "freeSince(" + near(addresses) + ")";
            case 10: return "nextCandidate(" + near(clients) + ", " + near(3) + ")";
            case 11: return "countState(" + near(3) + ", " + near(4) + ")";
            case 12: return draw(2) == 0 ? "bound()" : "conflicts()";
            case 13: return "logSize()";
            case 14: return "log(" + near(30) + ")";
            case 15: return "utilization(" + near(3) + ")";
            default: return "averageRest()";
        }
    }
}
