/** One method for each promise: ordinary inputs, the edges that the document names, wrong inputs. */
final class PromiseTest {
    private static final Due DUE = new Due("PromiseTest");

    public static void main(String[] args) {
        aNewObject();
        setRoomEmptiesBoth();
        setRoomRefuses();
        askMovesJars();
        askAtTheBorder();
        askMakesNoRoomThatIsThere();
        askInARoomForOne();
        askRefuses();
        spoilTakesAJar();
        spoilRefuses();
        sweepForgetsGhosts();
        addAppends();
        dropTakesOff();
        cookAsksForTheMenu();
        toldTellsOfAJar();
        rowTellsJars();
        countTells();
        leavesTellsWhoGoes();
        foreseeCooksAhead();
        plainCooksAhead();
        bestFindsTheLeastRoom();
        meanDivides();
        digestFolds();
        DUE.close();
    }

    // ---- promise 1

    private static void aNewObject() {
        DUE.sameText("counts of a new object", Told.counts(new GhostPantry()), "6 0 0 0 0 0 0 0 0 0 0 0");
        GhostPantry pantry = new GhostPantry();
        for (int jar = 0; jar < 30; jar++) {
            String told = "";
            for (int what = 0; what <= 4; what++) {
                told += pantry.told(jar, what) + " ";
            }
            DUE.sameText("told of jar " + jar + " in a new object", told, "0 -1 0 0 0 ");
        }
        DUE.sameReal("mean of a new object", new GhostPantry().mean(), 0.0);
        GhostPantry used = new GhostPantry();
        used.ask(1);
        used.add(2);
        DUE.sameText("a new object beside a used one", Told.counts(new GhostPantry()),
            "6 0 0 0 0 0 0 0 0 0 0 0");
    }

    // ---- promise 2

    private static void setRoomEmptiesBoth() {
        GhostPantry pantry = Made.asked(3, 0, 0, 1, 1, 2, 2, 3, 3, 4, 5, 4);
        pantry.add(7);
        pantry.add(8);
        DUE.sameText("counts before", Told.counts(pantry), "3 1 2 0 3 3 2 2 11 4 5 2");
        DUE.same("setRoom(3) anew", pantry.setRoom(3), 3);
        DUE.sameText("counts after setRoom(3)", Told.counts(pantry), "3 0 0 0 0 0 2 0 11 4 5 2");
        DUE.sameText("the menu after setRoom", Told.row(pantry, 6), "7 8");
        DUE.same("told(4, 0) after setRoom", pantry.told(4, 0), 0);
        DUE.same("told(4, 2) after setRoom", pantry.told(4, 2), 2);
        DUE.same("told(3, 3) after setRoom", pantry.told(3, 3), 1);
        DUE.same("told(4, 4) after setRoom", pantry.told(4, 4), 0);
        DUE.same("ask(4) after setRoom", pantry.ask(4), 0);
        DUE.same("setRoom(12)", pantry.setRoom(12), 3);
        DUE.same("setRoom(1)", pantry.setRoom(1), 12);
        DUE.same("count(0)", pantry.count(0), 1);
        GhostPantry ghosts = Made.asked(3, 0, 0, 1, 1, 2, 2, 3, 3, 4, 5);
        DUE.sameText("something stands in every row", Told.rows(ghosts), "5|3 2|4|1 0|5 4 3|");
        ghosts.setRoom(3);
        DUE.sameText("all rows are empty after setRoom", Told.rows(ghosts), "|||||");
        GhostPantry large = Made.asked(12, 0, 1, 2, 3, 4, 5, 6, 7, 8, 9, 10, 11);
        DUE.sameText("twelve jars in room 12", Told.rows(large),
            "11 10 9 8 7 6 5 4 3 2 1 0||||11 10 9 8 7 6 5 4 3 2 1 0|");
        DUE.same("leaves(12) of room 12", large.leaves(12), 0);
        DUE.same("leaves(0) of room 12", large.leaves(0), -1);
    }

    private static void setRoomRefuses() {
        GhostPantry pantry = Made.filled();
        for (int room : new int[] {0, 13, -1, -6, Integer.MIN_VALUE, Integer.MAX_VALUE}) {
            DUE.refused(pantry, "setRoom(" + room + ")", Due.BAD_ARGUMENT, () -> pantry.setRoom(room));
        }
    }

    // ---- promise 3

    /** Worked by hand: the jar, where it was, the rows then, the border, how far it moved in all. */
    private static final Object[][] WORKED = {
        {0, 0, "0|||", 0, 0},
        {0, 1, "|0||", 0, 0},
        {1, 0, "1|0||", 0, 0},
        {1, 1, "|1 0||", 0, 0},
        {2, 0, "2|1 0||", 0, 0},
        {2, 1, "|2 1 0||", 0, 0},
        {1, 2, "|1 2 0||", 0, 0},
        {2, 2, "|2 1 0||", 0, 0},
        {3, 0, "3|2 1||0", 0, 0},
        {3, 1, "|3 2 1||0", 0, 0},
        {4, 0, "4|3 2||1 0", 0, 0},
        {5, 0, "5|3 2|4|1 0", 0, 0},
        {4, 3, "5|4 3||2 1 0", 2, 2},
        {0, 4, "|0 4 3|5|2 1", 1, 3},
        {5, 3, "|5 0 4||3 2 1", 3, 5},
        {6, 0, "6|5 0||4 3 2", 3, 5},
        {7, 0, "7 6|5||0 4 3", 3, 5},
        {8, 0, "8 7 6|||5 0 4", 3, 5},
        {9, 0, "9 8 7|||5 0 4", 3, 5},
        {4, 4, "9 8|4|7|5 0", 2, 6},
        {10, 0, "10 9 8|||4 5 0", 2, 6},
        {0, 4, "10 9|0|8|4 5", 1, 7},
        {5, 4, "10|5 0|9 8|4", 0, 8},
        {4, 4, "|4 5 0|10 9 8|", 0, 8},
        {8, 3, "|8 4 5|10 9|0", 1, 9},
        {9, 3, "|9 8 4|10|5 0", 2, 10},
        {10, 3, "|10 9 8||4 5 0", 3, 11},
        {11, 0, "11|10 9||8 4 5", 3, 11},
    };

    private static void askMovesJars() {
        GhostPantry steady = new GhostPantry();
        steady.setRoom(3);
        int[] jars = new int[WORKED.length];
        for (int step = 0; step < WORKED.length; step++) {
            Object[] due = WORKED[step];
            int jar = (Integer) due[0];
            String at = "step " + step + ", ask(" + jar + ")";
            jars[step] = jar;
            DUE.same(at, steady.ask(jar), (Integer) due[1]);
            // A fresh object for each look keeps every object far below its 512 calls.
            GhostPantry fresh = Made.asked(3, java.util.Arrays.copyOf(jars, step + 1));
            String rows = Told.rows(fresh);
            DUE.sameText(at + " rows", rows.substring(0, due[2].toString().length() + 1), due[2] + "|");
            DUE.sameText(at + " plain row", Told.row(fresh, 5), latest(jars, step, 3));
            DUE.same(at + " border", fresh.count(7), (Integer) due[3]);
            DUE.same(at + " moved", fresh.count(11), (Integer) due[4]);
            DUE.same(at + " asked", fresh.count(8), step + 1);
        }
    }

    private static String latest(int[] jars, int last, int room) {
        String text = "";
        java.util.LinkedHashSet<Integer> seen = new java.util.LinkedHashSet<>();
        for (int step = last; step >= 0 && seen.size() < room; step--) {
            if (seen.add(jars[step])) {
                text += (text.isEmpty() ? "" : " ") + jars[step];
            }
        }
        return text;
    }

    /** Each last step was worked by hand from the rows before it, which the first text tells. */
    private static void askAtTheBorder() {
        lastAsk("a step down by 2", 5, "10 7 6|1 0|2 3|8|", 2, "10 7|8 1 0|6 2 3||", 0,
            0, 1, 3, 2, 8, 8, 6, 0, 7, 1, 10, 8);
        lastAsk("a step up by 3 / 2", 5, "1 7 2|10 8|0 3|9 6 5|", 2, "1 7 2|3 10|0|8 9 6 5|", 3,
            8, 5, 6, 3, 5, 6, 10, 9, 9, 0, 8, 2, 7, 10, 1, 3);
        lastAsk("as many as the border, for a ghost of a recent one", 3, "6|2 1|3||", 0,
            "6|3 2||1|", 1, 1, 1, 2, 3, 2, 6, 3);
        lastAsk("as many as the border, for a ghost of a frequent one", 3, "1|0 2||4|", 2,
            "|4 0 2|1||", 1, 4, 2, 4, 0, 1, 2, 0, 4);
        lastAsk("less than the border, for a ghost of a frequent one", 5, "7|0 1 5 3||8|", 3,
            "7|8 0 1 5||3|", 2, 8, 3, 5, 0, 8, 1, 7, 3, 5, 1, 0, 8);
        lastAsk("none, and the border 0, for a ghost of a frequent one", 2, "|2 1||0|", 0,
            "|0 2||1|", 0, 0, 0, 1, 1, 2, 2, 0);
    }

    private static void lastAsk(String told, int room, String before, int borderBefore, String after,
            int borderAfter, int... jars) {
        GhostPantry pantry = Made.asked(room, java.util.Arrays.copyOf(jars, jars.length - 1));
        DUE.sameText(told + ", before", Told.rows(pantry).substring(0, before.length()), before);
        DUE.same(told + ", border before", pantry.count(7), borderBefore);
        pantry.ask(jars[jars.length - 1]);
        DUE.sameText(told + ", after", Told.rows(pantry).substring(0, after.length()), after);
        DUE.same(told + ", border after", pantry.count(7), borderAfter);
    }

    private static void askMakesNoRoomThatIsThere() {
        GhostPantry pantry = Made.asked(3, 0, 0, 1, 1, 2, 2, 3, 3, 4, 5);
        DUE.sameText("rows before spoil", Told.rows(pantry), "5|3 2|4|1 0|5 4 3|");
        pantry.spoil(2);
        DUE.same("ask(4) with a free place", pantry.ask(4), 3);
        DUE.sameText("no room is made", Told.rows(pantry), "5|4 3||1 0|4 5 3|");
        DUE.same("the border moves all the same", pantry.count(7), 2);
        pantry.spoil(3);
        DUE.same("ask(0) with a free place", pantry.ask(0), 4);
        DUE.sameText("no room is made for a ghost of a frequent one", Told.rows(pantry),
            "5|0 4||1|0 4 5|");
        pantry.spoil(5);
        DUE.same("ask(6) with a free place", pantry.ask(6), 0);
        DUE.sameText("no room is made for a new one", Told.rows(pantry), "6|0 4||1|6 0 4|");

        GhostPantry full = Made.asked(2, 0, 0, 1, 2, 3);
        DUE.sameText("ghosts fill up", Told.rows(full), "3|0|2||3 2|");
        full.spoil(0);
        full.ask(4);
        DUE.sameText("the last ghost is gone though there is a free place", Told.rows(full),
            "4 3||||4 3|");
    }

    private static void askInARoomForOne() {
        GhostPantry pantry = Made.asked(1, 0, 1);
        DUE.sameText("the only recent one leaves no ghost", Told.rows(pantry), "1||||1|");
        pantry.ask(1);
        pantry.ask(2);
        DUE.sameText("the only frequent one leaves a ghost", Told.rows(pantry), "2|||1|2|");
        DUE.same("ask(1)", pantry.ask(1), 4);
        DUE.sameText("the border 0 is as many as no jars but one", Told.rows(pantry), "|1|2||1|");
        DUE.same("a step down from 0 is none", pantry.count(11), 0);
        DUE.same("ask(2)", pantry.ask(2), 3);
        DUE.sameText("the frequent one goes", Told.rows(pantry), "|2||1|2|");
        DUE.same("the border is the room", pantry.count(7), 1);
        pantry.ask(3);
        DUE.sameText("twice the room", Told.rows(pantry), "3|||2|3|");
        DUE.same("jar 1 is nowhere", pantry.told(1, 0), 0);
    }

    private static void askRefuses() {
        GhostPantry pantry = Made.filled();
        for (int jar : Made.NO_JARS) {
            DUE.refused(pantry, "ask(" + jar + ")", Due.BAD_INDEX, () -> pantry.ask(jar));
        }
        DUE.same("ask(29)", new GhostPantry().ask(29), 0);
        DUE.same("ask(0)", new GhostPantry().ask(0), 0);
    }

    // ---- promise 4

    private static void spoilTakesAJar() {
        GhostPantry pantry = Made.asked(6, 0, 1, 2, 1, 3, 2);
        DUE.sameText("rows before", Told.rows(pantry), "3 0|2 1|||2 3 1 0|");
        DUE.same("spoil(1)", pantry.spoil(1), 2);
        DUE.sameText("rows after spoil(1)", Told.rows(pantry), "3 0|2|||2 3 1 0|");
        DUE.same("spoil(3)", pantry.spoil(3), 1);
        DUE.sameText("rows after spoil(3)", Told.rows(pantry), "0|2|||2 3 1 0|");
        DUE.sameText("counts after", Told.counts(pantry), "6 1 1 0 0 4 0 0 6 2 2 0");
        DUE.same("told(3, 0)", pantry.told(3, 0), 0);
        DUE.same("told(3, 1)", pantry.told(3, 1), -1);
        DUE.same("told(3, 2)", pantry.told(3, 2), 1);
        DUE.same("told(3, 4)", pantry.told(3, 4), 1);
        DUE.same("ask(3) again", pantry.ask(3), 0);
        DUE.same("it was in the plain pantry", pantry.count(10), 3);
        DUE.same("it was not in the other", pantry.count(9), 2);
    }

    private static void spoilRefuses() {
        GhostPantry pantry = Made.filled();
        for (int jar : Made.NO_JARS) {
            DUE.refused(pantry, "spoil(" + jar + ")", Due.BAD_INDEX, () -> pantry.spoil(jar));
        }
        GhostPantry ghosts = Made.asked(3, 0, 0, 1, 1, 2, 2, 3, 3, 4, 5);
        DUE.sameText("rows with ghosts", Told.rows(ghosts), "5|3 2|4|1 0|5 4 3|");
        DUE.refused(ghosts, "spoil of a recent one's ghost", Due.BAD_STATE, () -> ghosts.spoil(4));
        DUE.refused(ghosts, "spoil of a frequent one's ghost", Due.BAD_STATE, () -> ghosts.spoil(1));
        DUE.refused(ghosts, "spoil of a jar that is nowhere", Due.BAD_STATE, () -> ghosts.spoil(29));
        GhostPantry spoilt = Made.asked(3, 7);
        spoilt.spoil(7);
        DUE.refused(spoilt, "spoil of a jar in the plain one alone", Due.BAD_STATE, () -> spoilt.spoil(7));
    }

    // ---- promise 5

    private static void sweepForgetsGhosts() {
        GhostPantry pantry = Made.asked(3, 0, 0, 1, 1, 2, 2, 3, 3, 4, 5);
        DUE.same("sweep()", pantry.sweep(), 3);
        DUE.sameText("rows after", Told.rows(pantry), "5|3 2|||5 4 3|");
        DUE.sameText("counts after", Told.counts(pantry), "3 1 2 0 0 3 0 0 10 4 4 0");
        DUE.same("sweep() again", pantry.sweep(), 0);
        DUE.same("ask(4) of a forgotten ghost", pantry.ask(4), 0);
        DUE.same("the border", pantry.count(7), 0);
        DUE.same("sweep() of a new object", new GhostPantry().sweep(), 0);
        GhostPantry moved = Made.asked(3, 0, 0, 1, 1, 2, 2, 3, 3, 4, 5, 4);
        DUE.same("sweep() with a border", moved.sweep(), 3);
        DUE.same("the border stays", moved.count(7), 2);
        DUE.same("its steps stay", moved.count(11), 2);
    }

    // ---- promise 6

    private static void addAppends() {
        GhostPantry pantry = new GhostPantry();
        DUE.same("add(29)", pantry.add(29), 1);
        DUE.same("add(0)", pantry.add(0), 2);
        DUE.same("add(29) again", pantry.add(29), 3);
        DUE.sameText("the menu", Told.row(pantry, 6), "29 0 29");
        DUE.same("nothing is asked", pantry.count(8), 0);
        for (int jar : Made.NO_JARS) {
            DUE.refused(pantry, "add(" + jar + ")", Due.BAD_INDEX, () -> pantry.add(jar));
        }
        GhostPantry full = new GhostPantry();
        for (int jar = 0; jar < 30; jar++) {
            DUE.same("add(" + jar + ")", full.add(jar), jar + 1);
        }
        DUE.refused(full, "add(5) to 30", Due.BAD_STATE, () -> full.add(5));
        DUE.refused(full, "add(30) to 30", Due.BAD_INDEX, () -> full.add(30));
        full.drop(0);
        DUE.same("add(0) once one is off", full.add(0), 30);
    }

    // ---- promise 7

    private static void dropTakesOff() {
        GhostPantry pantry = new GhostPantry();
        DUE.refused(pantry, "drop(0) of no menu", Due.BAD_INDEX, () -> pantry.drop(0));
        for (int jar = 0; jar < 30; jar++) {
            pantry.add(29 - jar);
        }
        DUE.refused(pantry, "drop(30)", Due.BAD_INDEX, () -> pantry.drop(30));
        DUE.same("drop(29)", pantry.drop(29), 0);
        DUE.refused(pantry, "drop(29) of 29", Due.BAD_INDEX, () -> pantry.drop(29));
        DUE.refused(pantry, "drop(-1)", Due.BAD_INDEX, () -> pantry.drop(-1));
        DUE.refused(pantry, "drop(least)", Due.BAD_INDEX, () -> pantry.drop(Integer.MIN_VALUE));
        DUE.refused(pantry, "drop(most)", Due.BAD_INDEX, () -> pantry.drop(Integer.MAX_VALUE));
        DUE.same("drop(0)", pantry.drop(0), 29);
        DUE.same("drop(1)", pantry.drop(1), 27);
        DUE.same("count(6)", pantry.count(6), 27);
        DUE.same("row(6, 0)", pantry.row(6, 0), 28);
        DUE.same("row(6, 1)", pantry.row(6, 1), 26);
        DUE.same("row(6, 26)", pantry.row(6, 26), 1);
        DUE.refused(pantry, "row(6, 27)", Due.BAD_INDEX, () -> pantry.row(6, 27));
    }

    // ---- promise 8

    private static void cookAsksForTheMenu() {
        GhostPantry pantry = Made.asked(3, 0, 0, 1, 1, 2, 2, 3, 3, 4, 5);
        Made.menu(pantry, 4, 3, 0, 9, 9);
        DUE.same("cook()", pantry.cook(), 2);
        GhostPantry alone = Made.asked(3, 0, 0, 1, 1, 2, 2, 3, 3, 4, 5, 4, 3, 0, 9, 9);
        Made.menu(alone, 4, 3, 0, 9, 9);
        DUE.sameText("rows after cook()", Told.rows(pantry), Told.rows(alone));
        DUE.sameText("counts after cook()", Told.counts(pantry), Told.counts(alone));
        DUE.same("digest after cook()", pantry.digest(), alone.digest());
        DUE.sameText("the menu stays", Told.row(pantry, 6), "4 3 0 9 9");
        DUE.same("told(9, 2)", pantry.told(9, 2), 2);
        DUE.same("told(9, 3)", pantry.told(9, 3), 1);
        GhostPantry empty = Made.asked(3, 0, 1);
        long before = empty.digest();
        DUE.same("cook() of no menu", empty.cook(), 0);
        DUE.same("it changes nothing", empty.digest(), before);
    }

    // ---- promise 9

    private static void toldTellsOfAJar() {
        GhostPantry pantry = Made.asked(3, 0, 0, 1, 1, 2, 2, 3, 3, 4, 5, 2);
        DUE.sameText("rows", Told.rows(pantry), "5|2 3|4|1 0|2 5 4|");
        toldIs(pantry, 5, "1 0 1 0 1");
        toldIs(pantry, 2, "2 0 3 2 1");
        toldIs(pantry, 3, "2 1 2 1 0");
        toldIs(pantry, 4, "3 0 1 0 1");
        toldIs(pantry, 1, "4 0 2 1 0");
        toldIs(pantry, 0, "4 1 2 1 0");
        toldIs(pantry, 29, "0 -1 0 0 0");
        for (int jar : Made.NO_JARS) {
            DUE.refused(pantry, "told(" + jar + ", 0)", Due.BAD_INDEX, () -> pantry.told(jar, 0));
        }
        for (int what : new int[] {-1, 5, 6, Integer.MIN_VALUE, Integer.MAX_VALUE}) {
            DUE.refused(pantry, "told(2, " + what + ")", Due.BAD_INDEX, () -> pantry.told(2, what));
        }
    }

    private static void toldIs(GhostPantry pantry, int jar, String want) {
        String told = "";
        for (int what = 0; what <= 4; what++) {
            told += (what == 0 ? "" : " ") + pantry.told(jar, what);
        }
        DUE.sameText("told of jar " + jar, told, want);
    }

    // ---- promise 10

    private static void rowTellsJars() {
        GhostPantry pantry = Made.asked(3, 0, 0, 1, 1, 2, 2, 3, 3, 4, 5);
        Made.menu(pantry, 8, 8);
        int[][] due = {{}, {5}, {3, 2}, {4}, {1, 0}, {5, 4, 3}, {8, 8}};
        for (int row = 1; row <= 6; row++) {
            for (int place = 0; place < due[row].length; place++) {
                DUE.same("row(" + row + ", " + place + ")", pantry.row(row, place), due[row][place]);
            }
            for (int place : new int[] {-1, due[row].length, 30, Integer.MIN_VALUE, Integer.MAX_VALUE}) {
                int asked = row;
                DUE.refused(pantry, "row(" + row + ", " + place + ")", Due.BAD_INDEX,
                    () -> pantry.row(asked, place));
            }
        }
        for (int row : new int[] {0, 7, -1, Integer.MIN_VALUE, Integer.MAX_VALUE}) {
            DUE.refused(pantry, "row(" + row + ", 0)", Due.BAD_INDEX, () -> pantry.row(row, 0));
        }
    }

    // ---- promise 11

    private static void countTells() {
        GhostPantry pantry = Made.asked(3, 0, 0, 1, 1, 2, 2, 3, 3, 4, 5, 4, 0, 3, 4);
        Made.menu(pantry, 1, 2, 3, 4);
        DUE.sameText("rows", Told.rows(pantry), "|4 3 0|5|2 1|4 3 0|");
        DUE.sameText("counts", Told.counts(pantry), "3 0 3 1 2 3 4 1 14 6 6 3");
        for (int what : new int[] {-1, 12, 13, Integer.MIN_VALUE, Integer.MAX_VALUE}) {
            DUE.refused(pantry, "count(" + what + ")", Due.BAD_INDEX, () -> pantry.count(what));
        }
        GhostPantry spoilt = Made.asked(6, 1, 2);
        spoilt.spoil(1);
        spoilt.ask(1);
        DUE.same("a spoilt jar was not there", spoilt.count(9), 0);
        DUE.same("a spoilt jar was in the plain one", spoilt.count(10), 1);
    }

    // ---- promise 12

    private static void leavesTellsWhoGoes() {
        int[] jars = new int[WORKED.length];
        for (int step = 0; step < WORKED.length; step++) {
            jars[step] = (Integer) WORKED[step][0];
        }
        for (int step = 0; step < WORKED.length; step++) {
            GhostPantry pantry = Made.asked(3, java.util.Arrays.copyOf(jars, step));
            String before = Told.row(pantry, 1) + " " + Told.row(pantry, 2);
            long digest = pantry.digest();
            int leaver = pantry.leaves(jars[step]);
            DUE.same("digest after leaves", pantry.digest(), digest);
            pantry.ask(jars[step]);
            String after = " " + Told.row(pantry, 1) + " " + Told.row(pantry, 2) + " ";
            int want = -1;
            for (String jar : before.trim().split(" +")) {
                if (!jar.isEmpty() && !after.contains(" " + jar + " ")) {
                    want = Integer.parseInt(jar);
                }
            }
            DUE.same("leaves(" + jars[step] + ") at step " + step, leaver, want);
        }
        GhostPantry full = Made.asked(3, 0, 1, 2);
        DUE.same("leaves, without a ghost", full.leaves(3), 0);
        DUE.same("leaves of one that is there", full.leaves(0), -1);
        full.spoil(1);
        DUE.same("leaves with a free place", full.leaves(3), -1);
        DUE.same("leaves of a new object", new GhostPantry().leaves(0), -1);
        for (int jar : Made.NO_JARS) {
            DUE.refused(full, "leaves(" + jar + ")", Due.BAD_INDEX, () -> full.leaves(jar));
        }
    }

    // ---- promise 13

    private static void foreseeCooksAhead() {
        GhostPantry pantry = Made.asked(3, 0, 0, 1, 1, 2, 2, 3, 3, 4, 5);
        Made.menu(pantry, 4, 3, 0, 9, 9, 11, 2);
        long before = pantry.digest();
        int[] foreseen = new int[10];
        for (int times = 1; times <= 9; times++) {
            foreseen[times] = pantry.foresee(times);
        }
        DUE.same("digest after foresee", pantry.digest(), before);
        int cooked = 0;
        for (int times = 1; times <= 9; times++) {
            cooked += pantry.cook();
            DUE.same("foresee(" + times + ")", foreseen[times], cooked);
        }
        for (int times : Made.NO_TIMES) {
            DUE.refused(pantry, "foresee(" + times + ")", Due.BAD_ARGUMENT, () -> pantry.foresee(times));
        }
        GhostPantry empty = Made.asked(3, 0, 0);
        DUE.same("foresee(9) of no menu", empty.foresee(9), 0);
        DUE.refused(empty, "foresee(0) of no menu", Due.BAD_ARGUMENT, () -> empty.foresee(0));
        GhostPantry two = Made.asked(2, 0, 1);
        Made.menu(two, 0, 1, 2);
        DUE.same("foresee(1): 0 and 1 are there", two.foresee(1), 2);
    }

    // ---- promise 14

    private static void plainCooksAhead() {
        GhostPantry pantry = Made.asked(3, 0, 0, 1, 1, 2, 2, 3, 3, 4, 5);
        Made.menu(pantry, 4, 3, 0, 9, 9, 11, 3);
        pantry.spoil(3);
        long before = pantry.digest();
        int[] told = new int[10];
        for (int times = 1; times <= 9; times++) {
            told[times] = pantry.plain(times);
        }
        DUE.same("digest after plain", pantry.digest(), before);
        int start = pantry.count(10);
        for (int times = 1; times <= 9; times++) {
            pantry.cook();
            DUE.same("plain(" + times + ")", told[times], pantry.count(10) - start);
        }
        for (int times : Made.NO_TIMES) {
            DUE.refused(pantry, "plain(" + times + ")", Due.BAD_ARGUMENT, () -> pantry.plain(times));
        }
        GhostPantry empty = Made.asked(3, 0, 0);
        DUE.same("plain(9) of no menu", empty.plain(9), 0);
        DUE.refused(empty, "plain(10) of no menu", Due.BAD_ARGUMENT, () -> empty.plain(10));
        GhostPantry round = Made.asked(2, 0, 1);
        Made.menu(round, 0, 1, 2);
        DUE.same("plain(1): 0 and 1 are there", round.plain(1), 2);
        DUE.same("plain(9): never again", round.plain(9), 2);
        GhostPantry back = Made.asked(2, 0, 1);
        Made.menu(back, 0, 2, 0, 1);
        DUE.same("plain(1): what is asked for comes to the front", back.plain(1), 2);
    }

    // ---- promise 15

    private static void bestFindsTheLeastRoom() {
        GhostPantry pantry = Made.asked(3, 0, 0, 1, 1, 2, 2, 3, 3, 4, 5, 4);
        DUE.same("best(1) of no menu", pantry.best(1), -1);
        DUE.same("best(9) of no menu", pantry.best(9), -1);
        DUE.refused(pantry, "best(0) of no menu", Due.BAD_ARGUMENT, () -> pantry.best(0));
        Made.menu(pantry, 0, 1, 2, 3);
        long before = pantry.digest();
        DUE.same("best(1): none is there, so the least room", pantry.best(1), 1);
        DUE.same("best(2): all four are kept", pantry.best(2), 4);
        DUE.same("digest after best", pantry.digest(), before);
        for (int times : Made.NO_TIMES) {
            DUE.refused(pantry, "best(" + times + ")", Due.BAD_ARGUMENT, () -> pantry.best(times));
        }
        GhostPantry twelve = new GhostPantry();
        Made.menu(twelve, 0, 1, 2, 3, 4, 5, 6, 7, 8, 9, 10, 11);
        DUE.same("best(2) of twelve jars", twelve.best(2), 12);
        DUE.same("best(9) of twelve jars", twelve.best(9), 12);

        GhostPantry mixed = new GhostPantry();
        int[] jars = {0, 1, 2, 0, 3, 4, 0, 1, 5, 6, 0, 2, 7, 1, 8, 0, 9, 10};
        Made.menu(mixed, jars);
        for (int times = 1; times <= 9; times++) {
            DUE.same("best(" + times + ") of a mixed menu", mixed.best(times), bestByCooking(jars, times));
        }
    }

    private static int bestByCooking(int[] jars, int times) {
        int best = 0;
        int most = -1;
        for (int room = 1; room <= 12; room++) {
            GhostPantry fresh = new GhostPantry();
            fresh.setRoom(room);
            Made.menu(fresh, jars);
            int there = 0;
            for (int time = 0; time < times; time++) {
                there += fresh.cook();
            }
            if (there > most) {
                most = there;
                best = room;
            }
        }
        return best;
    }

    // ---- promise 16

    private static void meanDivides() {
        GhostPantry pantry = new GhostPantry();
        DUE.sameReal("mean() of nothing", pantry.mean(), 0.0);
        pantry.ask(0);
        DUE.sameReal("mean() 0 of 1", pantry.mean(), 0.0);
        pantry.ask(0);
        DUE.sameReal("mean() 1 of 2", pantry.mean(), 0.5);
        pantry.ask(0);
        DUE.sameReal("mean() 2 of 3", pantry.mean(), 2.0 / 3.0);
        pantry.setRoom(2);
        DUE.sameReal("mean() goes on over setRoom", pantry.mean(), 2.0 / 3.0);
        Made.menu(pantry, 1, 2, 0, 0);
        pantry.cook();
        DUE.sameReal("mean() 3 of 7", pantry.mean(), 3.0 / 7.0);
        pantry.spoil(0);
        pantry.ask(0);
        DUE.sameReal("mean() is not the plain one's", pantry.mean(), 3.0 / 8.0);
    }

    // ---- promise 17

    private static void digestFolds() {
        long d = 1427 * 31 + 6;
        for (int zero = 0; zero < 11 + 60; zero++) {
            d = d * 31;
        }
        DUE.same("digest() of a new object", new GhostPantry().digest(), d);
        GhostPantry pantry = Made.asked(3, 0, 0, 1, 1, 2, 2, 3, 3, 4, 5, 4, 0, 3, 4, 29);
        Made.menu(pantry, 29, 0, 7);
        DUE.same("digest()", pantry.digest(), Told.digest(pantry));
        pantry.cook();
        DUE.same("digest() after cook", pantry.digest(), Told.digest(pantry));
        pantry.setRoom(12);
        DUE.same("digest() after setRoom", pantry.digest(), Told.digest(pantry));
        DUE.same("digest() twice", pantry.digest(), pantry.digest());
        DUE.same("digest() of a filled one", Made.filled().digest(), Told.digest(Made.filled()));
    }
}
