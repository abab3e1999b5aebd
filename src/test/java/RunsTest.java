import java.util.function.Supplier;

/**
 * Runs of up to 511 calls on the class and on Model beside it: each answer, each exception, and the digest
 * behind each call must be the same. The calls come from a fixed sequence, so a failure comes again.
 */
final class RunsTest {
    private static final int RUNS = 600;
    private static final int STEPS = 255; // each with a digest behind it, and one setRoom: 511 calls
    private static final Due DUE = new Due("RunsTest");

    private static final String[] CALLS = {"setRoom", "ask", "spoil", "sweep", "add", "drop", "cook",
        "told", "row", "count", "leaves", "foresee", "plain", "best", "mean"};

    /** How often each of CALLS comes, in kinds of runs that lead to different states. */
    private static final int[][] WEIGHTS = {
        {1, 60, 4, 1, 5, 2, 3, 6, 6, 4, 6, 2, 2, 1, 1},
        {0, 90, 0, 0, 1, 0, 1, 2, 2, 2, 4, 1, 1, 0, 1},
        {3, 10, 5, 2, 30, 5, 15, 5, 5, 5, 5, 8, 8, 3, 2},
        {1, 50, 20, 6, 3, 1, 2, 3, 3, 3, 10, 2, 2, 1, 1},
        {5, 5, 5, 5, 5, 5, 5, 5, 5, 5, 5, 5, 5, 5, 5},
    };

    private static final int[] ODD = {-1, 0, 1, 5, 6, 7, 9, 10, 11, 12, 13, 29, 30, 31,
        Integer.MIN_VALUE, Integer.MAX_VALUE};

    private long seed;
    private final int jars;
    private final int[] weights;
    private final GhostPantry pantry = new GhostPantry();
    private final Model model = new Model();

    private RunsTest(int run) {
        seed = 88172645463325252L + 1099511627791L * run;
        weights = WEIGHTS[run % WEIGHTS.length];
        jars = 3 + below(28);
    }

    public static void main(String[] args) {
        for (int run = 0; run < RUNS; run++) {
            new RunsTest(run).go(run);
        }
        DUE.close();
    }

    private int below(int many) {
        seed ^= seed << 13;
        seed ^= seed >>> 7;
        seed ^= seed << 17;
        return (int) Long.remainderUnsigned(seed, many);
    }

    private int value(int from, int many) {
        return below(25) == 0 ? ODD[below(ODD.length)] : from + below(many);
    }

    private void go(int run) {
        // Some runs keep the room that a new object has.
        if (run % 4 != 0) {
            int room = 1 + below(12);
            both("run " + run + ", setRoom", () -> pantry.setRoom(room), () -> model.setRoom(room));
        }
        for (int step = 0; step < STEPS; step++) {
            String call = CALLS[chosen()];
            step(call, "run " + run + ", step " + step + ", " + call);
        }
    }

    private int chosen() {
        int all = 0;
        for (int weight : weights) {
            all += weight;
        }
        int rest = below(all);
        int call = 0;
        while (rest >= weights[call]) {
            rest -= weights[call];
            call++;
        }
        return call;
    }

    private void step(String call, String told) {
        int jar = value(0, jars);
        int times = value(1, 9);
        int what = value(0, 12);
        int place = value(0, 12);
        int room = value(1, 12);
        int row = value(1, 6);
        int small = value(0, 5);
        int spot = value(0, 30);
        switch (call) {
            case "setRoom" -> both(told + room, () -> pantry.setRoom(room), () -> model.setRoom(room));
            case "ask" -> both(told + jar, () -> pantry.ask(jar), () -> model.ask(jar));
            case "spoil" -> both(told + jar, () -> pantry.spoil(jar), () -> model.spoil(jar));
            case "sweep" -> both(told, pantry::sweep, model::sweep);
            case "add" -> both(told + jar, () -> pantry.add(jar), () -> model.add(jar));
            case "drop" -> both(told + spot, () -> pantry.drop(spot), () -> model.drop(spot));
            case "cook" -> both(told, pantry::cook, model::cook);
            case "told" -> both(told + jar + " " + small,
                () -> pantry.told(jar, small), () -> model.told(jar, small));
            case "row" -> both(told + row + " " + place,
                () -> pantry.row(row, place), () -> model.row(row, place));
            case "count" -> both(told + what, () -> pantry.count(what), () -> model.count(what));
            case "leaves" -> both(told + jar, () -> pantry.leaves(jar), () -> model.leaves(jar));
            case "foresee" -> both(told + times, () -> pantry.foresee(times), () -> model.foresee(times));
            case "plain" -> both(told + times, () -> pantry.plain(times), () -> model.plain(times));
            case "best" -> both(told + times, () -> pantry.best(times), () -> model.best(times));
            default -> both(told, pantry::mean, model::mean);
        }
        DUE.same(told + ", digest", pantry.digest(), model.digest());
    }

    private static void both(String told, Supplier<Object> got, Supplier<Object> want) {
        DUE.sameText(told, answer(got), answer(want));
    }

    private static String answer(Supplier<Object> call) {
        try {
            return String.valueOf(call.get());
        } catch (RuntimeException thrown) {
            return "throws." + thrown.getClass().getSimpleName();
        }
    }
}
