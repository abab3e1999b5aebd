/** Pantries in a state that tests begin with, and the arguments that calls must refuse. */
final class Made {
    static final int[] NO_JARS = {-1, 30, 31, 100, Integer.MIN_VALUE, Integer.MAX_VALUE};
    static final int[] NO_TIMES = {0, 10, -1, 90, Integer.MIN_VALUE, Integer.MAX_VALUE};

    private Made() {
    }

    static GhostPantry asked(int room, int... jars) {
        GhostPantry pantry = new GhostPantry();
        pantry.setRoom(room);
        for (int jar : jars) {
            pantry.ask(jar);
        }
        return pantry;
    }

    /** Calls as text: "5" asks for jar 5, "!5" spoils it, "~" sweeps, "+5" adds it to the menu. */
    static GhostPantry run(int room, String calls) {
        GhostPantry pantry = asked(room);
        for (String call : calls.trim().split(" +")) {
            if (!call.isEmpty()) {
                make(pantry, call);
            }
        }
        return pantry;
    }

    private static void make(GhostPantry pantry, String call) {
        switch (call.charAt(0)) {
            case '!' -> pantry.spoil(Integer.parseInt(call.substring(1)));
            case '+' -> pantry.add(Integer.parseInt(call.substring(1)));
            case '~' -> pantry.sweep();
            default -> pantry.ask(Integer.parseInt(call));
        }
    }

    static void menu(GhostPantry pantry, int... jars) {
        for (int jar : jars) {
            pantry.add(jar);
        }
    }

    /** A menu of 30 jars, all of them this one. */
    static void fullMenuOf(GhostPantry pantry, int jar) {
        for (int place = 0; place < 30; place++) {
            pantry.add(jar);
        }
    }

    /** Something stands in every row, and the border is not 0. */
    static GhostPantry filled() {
        GhostPantry pantry = asked(3, 0, 0, 1, 1, 2, 2, 3, 3, 4, 5, 4, 6, 7, 0);
        menu(pantry, 1, 2, 3);
        return pantry;
    }
}
