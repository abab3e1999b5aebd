import java.math.BigInteger;
import java.util.ArrayList;
import java.util.List;

/**
 * The document's boundary cases but those of asking (AskEdgeTest has them): too small and too large,
 * empty, full, the wrap-around, refused calls. One method for each sentence that names one.
 */
final class EdgeTest {
    private static final Due DUE = new Due("EdgeTest");
    private static final String NEW_STATE = "||||| border 0 moved 0";
    private static final String WITH_GHOSTS = "0 0 1 1 2 2 3 3 4 5"; // in room 3: 5|3 2|4|1 0|5 4 3|

    public static void main(String[] args) {
        theLifeOfAnObject();
        aNewObject();
        setRoomAtItsEnds();
        setRoomAnew();
        setRoomKeepsWhatWasTold();
        jarsAtTheirEnds();
        spoilAtItsEdges();
        spoilRefuses();
        sweepAtItsEdges();
        addAtItsEdges();
        dropAtItsEdges();
        cookAtItsEdges();
        toldAtItsEdges();
        rowAtItsEdges();
        countAtItsEdges();
        leavesAtItsEdges();
        foreseeAtItsEdges();
        foreseeTakesTheRowsAsTheyAre();
        plainAtItsEdges();
        bestAtItsEdges();
        bestTakesAnEmptyPantry();
        meanAtItsEdges();
        digestOfNumbersByHand();
        digestWrapsAround();
        theFirstNamedExceptionIsThrown();
        refusedCallsChangeNothing();
        questionsChangeNothing();
        DUE.close();
    }

    // ---- "An object is used for at most 512 calls after it has been made"

    private static void theLifeOfAnObject() {
        GhostPantry asked = new GhostPantry();
        for (int call = 1; call <= 510; call++) {
            asked.ask(29);
        }
        DUE.same("call 511, count(9)", asked.count(9), 509);
        DUE.sameReal("call 512, mean()", asked.mean(), 509.0 / 510.0);

        GhostPantry cooked = new GhostPantry();
        Made.fullMenuOf(cooked, 7);
        for (int call = 31; call <= 510; call++) {
            cooked.cook();
        }
        DUE.same("call 511, count(8)", cooked.count(8), 480 * 30);
        DUE.same("call 512, told(7, 3)", cooked.told(7, 3), 480 * 30 - 1);
    }

    // ---- promise 1, and "(6, at first)", "0 (at first)", "all are empty at first"

    private static void aNewObject() {
        GhostPantry pantry = new GhostPantry();
        DUE.sameText("state of a new object", Told.state(pantry), NEW_STATE);
        for (int number = 1; number <= 6; number++) {
            int row = number;
            DUE.same("count(" + row + ") of a new object", pantry.count(row), 0);
            DUE.refused(pantry, "row(" + row + ", 0) of a new object", Due.BAD_INDEX,
                () -> pantry.row(row, 0));
        }
        DUE.refused(pantry, "spoil(0) in a new object", Due.BAD_STATE, () -> pantry.spoil(0));
        DUE.refused(pantry, "drop(0) in a new object", Due.BAD_INDEX, () -> pantry.drop(0));
        DUE.same("sweep() of a new object", pantry.sweep(), 0);
        DUE.same("cook() of a new object", pantry.cook(), 0);
        DUE.same("best(1) of a new object", pantry.best(1), -1);
        DUE.sameText("state of a new object still", Told.state(pantry), NEW_STATE);

        GhostPantry six = new GhostPantry();
        for (int jar = 0; jar < 6; jar++) {
            DUE.same("leaves(" + jar + ") of a new object", six.leaves(jar), -1);
            six.ask(jar);
        }
        DUE.sameText("six jars in a new object", Told.rows(six), "5 4 3 2 1 0||||5 4 3 2 1 0|");
        DUE.same("leaves(6) of a new object with six", six.leaves(6), 0);
        six.ask(6);
        DUE.sameText("the seventh jar", Told.rows(six), "6 5 4 3 2 1||||6 5 4 3 2 1|");
    }

    // ---- promise 2: "if room is not 1 to 12"

    private static void setRoomAtItsEnds() {
        GhostPantry small = new GhostPantry();
        DUE.refused(small, "setRoom(0)", Due.BAD_ARGUMENT, () -> small.setRoom(0));
        DUE.same("setRoom(1)", small.setRoom(1), 6);
        small.ask(3);
        small.ask(4);
        DUE.sameText("room 1 in both pantries", Told.rows(small), "4||||4|");
        DUE.same("setRoom(12)", small.setRoom(12), 1);
        DUE.refused(small, "setRoom(13)", Due.BAD_ARGUMENT, () -> small.setRoom(13));
        for (int jar = 0; jar < 12; jar++) {
            small.ask(jar);
        }
        DUE.sameText("room 12 in both pantries", Told.rows(small),
            "11 10 9 8 7 6 5 4 3 2 1 0||||11 10 9 8 7 6 5 4 3 2 1 0|");
        small.ask(12);
        DUE.sameText("and no more", Told.rows(small),
            "12 11 10 9 8 7 6 5 4 3 2 1||||12 11 10 9 8 7 6 5 4 3 2 1|");
        DUE.refused(small, "setRoom(least)", Due.BAD_ARGUMENT, () -> small.setRoom(Integer.MIN_VALUE));
        DUE.refused(small, "setRoom(most)", Due.BAD_ARGUMENT, () -> small.setRoom(Integer.MAX_VALUE));
        DUE.same("the room behind refused calls", small.setRoom(5), 12);
    }

    // ---- "or the same one anew: the rows 1 to 5 are empty then, the border is 0 (that is no step of it)"

    private static void setRoomAnew() {
        for (int room = 1; room <= 12; room++) {
            emptied("with the border at the room", "11 5 11 4 4 6 5 3 8 6 5 3",
                "8|3 5||6 4 11|3 5 6| border 3 moved 5", room, "||||| border 0 moved 5");
            emptied("with jars in all rows", "1 10 4 10 8 4 11 1 11 6",
                "6|11 1|8|4 10|6 11 1| border 1 moved 1", room, "||||| border 0 moved 1");
        }
        GhostPantry pantry = new GhostPantry();
        DUE.same("setRoom(6) of a new object", pantry.setRoom(6), 6);
        DUE.same("setRoom(6) again", pantry.setRoom(6), 6);
        DUE.same("digest after it", pantry.digest(), new GhostPantry().digest());
    }

    private static void emptied(String told, String calls, String before, int room, String after) {
        String call = "setRoom(" + room + ") " + told;
        GhostPantry pantry = Made.run(3, calls);
        DUE.sameText("before " + call, Told.state(pantry), before);
        DUE.same(call, pantry.setRoom(room), 3);
        DUE.sameText("all is empty after " + call, Told.state(pantry), after);
        DUE.same("count(0) after " + call, pantry.count(0), room);
        for (int jar = 0; jar < 12; jar++) {
            DUE.same("told(" + jar + ", 0) after " + call, pantry.told(jar, 0), 0);
            DUE.same("told(" + jar + ", 1) after " + call, pantry.told(jar, 1), -1);
            DUE.same("told(" + jar + ", 4) after " + call, pantry.told(jar, 4), 0);
        }
        DUE.same("sweep() after " + call, pantry.sweep(), 0);
        DUE.same("ask(11) after " + call, pantry.ask(11), 0);
    }

    // ---- "what was told in all (of jars, and by count() 8 to 11) goes on, the menu stays"

    private static void setRoomKeepsWhatWasTold() {
        GhostPantry pantry = Made.run(2, "4 4 2 1 2"); // 1|2||4|2 1|
        Made.fullMenuOf(pantry, 9);
        DUE.sameText("counts before", Told.counts(pantry), "2 1 1 0 1 2 30 1 5 1 2 1");
        pantry.setRoom(2);
        DUE.sameText("counts after setRoom", Told.counts(pantry), "2 0 0 0 0 0 30 0 5 1 2 1");
        DUE.same("told(4, 2) after setRoom", pantry.told(4, 2), 2);
        DUE.same("told(4, 3) after setRoom", pantry.told(4, 3), 1);
        DUE.same("row(6, 29) after setRoom", pantry.row(6, 29), 9);
        DUE.sameReal("mean() after setRoom", pantry.mean(), 1.0 / 5.0);
        for (int jar : new int[] {4, 4, 2, 1, 2}) {
            pantry.ask(jar);
        }
        DUE.sameText("all goes on", Told.counts(pantry), "2 1 1 0 1 2 30 1 10 2 4 2");
        DUE.same("told(4, 2) goes on", pantry.told(4, 2), 4);
        DUE.same("told(4, 3) goes on", pantry.told(4, 3), 2);
    }

    // ---- "Jars are numbered 0 to 29", in each call that takes one

    private static void jarsAtTheirEnds() {
        for (int jar : new int[] {0, 29}) {
            GhostPantry pantry = new GhostPantry();
            DUE.same("leaves(" + jar + ")", pantry.leaves(jar), -1);
            DUE.same("ask(" + jar + ")", pantry.ask(jar), 0);
            DUE.same("add(" + jar + ")", pantry.add(jar), 1);
            DUE.same("cook() of " + jar, pantry.cook(), 1);
            DUE.same("told(" + jar + ", 2)", pantry.told(jar, 2), 2);
            DUE.same("told(" + jar + ", 3)", pantry.told(jar, 3), 1);
            DUE.same("told(" + jar + ", 4)", pantry.told(jar, 4), 1);
            DUE.same("row(2, 0)", pantry.row(2, 0), jar);
            DUE.same("spoil(" + jar + ")", pantry.spoil(jar), 2);
            DUE.same("drop(0)", pantry.drop(0), jar);
        }
        GhostPantry pantry = Made.filled();
        for (int jar : Made.NO_JARS) {
            DUE.refused(pantry, "ask(" + jar + ")", Due.BAD_INDEX, () -> pantry.ask(jar));
            DUE.refused(pantry, "spoil(" + jar + ")", Due.BAD_INDEX, () -> pantry.spoil(jar));
            DUE.refused(pantry, "add(" + jar + ")", Due.BAD_INDEX, () -> pantry.add(jar));
            DUE.refused(pantry, "leaves(" + jar + ")", Due.BAD_INDEX, () -> pantry.leaves(jar));
            for (int what = 0; what <= 4; what++) {
                int asked = what;
                DUE.refused(pantry, "told(" + jar + ", " + what + ")", Due.BAD_INDEX,
                    () -> pantry.told(jar, asked));
            }
        }
    }

    // ---- promise 4: "it is in no row of it any more. In the plain one it stays, if it is there"

    private static void spoilAtItsEdges() {
        spoilt("the newest recent one", 6, "0 1 2 3", 3, 1, "2 1 0||||3 2 1 0|");
        spoilt("a recent one in the middle", 6, "0 1 2 3", 2, 1, "3 1 0||||3 2 1 0|");
        spoilt("the last recent one", 6, "0 1 2 3", 0, 1, "3 2 1||||3 2 1 0|");
        spoilt("the newest frequent one", 6, "0 0 1 1 2 2", 2, 2, "|1 0|||2 1 0|");
        spoilt("a frequent one in the middle", 6, "0 0 1 1 2 2", 1, 2, "|2 0|||2 1 0|");
        spoilt("the last frequent one", 6, "0 0 1 1 2 2", 0, 2, "|2 1|||2 1 0|");
        spoilt("the only jar of a full pantry", 1, "29", 29, 1, "||||29|");
        spoilt("the only frequent one", 1, "0 0", 0, 2, "||||0|");
        spoilt("one that is not in the plain pantry", 3, WITH_GHOSTS, 2, 2, "5|3|4|1 0|5 4 3|");
        spoilt("one beside ghosts", 3, WITH_GHOSTS, 5, 1, "|3 2|4|1 0|5 4 3|");
        GhostPantry pantry = Made.run(3, "11 5 11 4 4 6 5 3 8 6 5 3");
        DUE.sameText("counts before spoil", Told.counts(pantry), "3 1 2 0 3 3 0 3 12 2 2 5");
        pantry.spoil(8);
        DUE.sameText("all but row 1 stays", Told.counts(pantry), "3 0 2 0 3 3 0 3 12 2 2 5");
    }

    private static void spoilt(String told, int room, String calls, int jar, int where, String after) {
        GhostPantry pantry = Made.run(room, calls);
        int asked = pantry.told(jar, 2);
        int there = pantry.told(jar, 3);
        int inPlain = pantry.told(jar, 4);
        DUE.same("spoil of " + told, pantry.spoil(jar), where);
        DUE.sameText("rows after spoil of " + told, Told.rows(pantry), after);
        DUE.same("told(.., 0) after spoil of " + told, pantry.told(jar, 0), 0);
        DUE.same("told(.., 1) after spoil of " + told, pantry.told(jar, 1), -1);
        DUE.same("told(.., 2) after spoil of " + told, pantry.told(jar, 2), asked);
        DUE.same("told(.., 3) after spoil of " + told, pantry.told(jar, 3), there);
        DUE.same("told(.., 4) after spoil of " + told, pantry.told(jar, 4), inPlain);
    }

    // ---- "if it is neither recent nor frequent"

    private static void spoilRefuses() {
        GhostPantry pantry = Made.run(3, WITH_GHOSTS);
        DUE.refused(pantry, "spoil of a ghost of a recent one", Due.BAD_STATE, () -> pantry.spoil(4));
        DUE.refused(pantry, "spoil of the newest ghost of a frequent one", Due.BAD_STATE,
            () -> pantry.spoil(1));
        DUE.refused(pantry, "spoil of the last ghost of a frequent one", Due.BAD_STATE,
            () -> pantry.spoil(0));
        DUE.refused(pantry, "spoil of a jar that is nowhere", Due.BAD_STATE, () -> pantry.spoil(29));
        pantry.spoil(5);
        DUE.refused(pantry, "spoil of a spoilt jar", Due.BAD_STATE, () -> pantry.spoil(5));
        pantry.sweep();
        DUE.refused(pantry, "spoil of a swept ghost", Due.BAD_STATE, () -> pantry.spoil(4));
        pantry.setRoom(3);
        DUE.refused(pantry, "spoil after setRoom", Due.BAD_STATE, () -> pantry.spoil(3));
        pantry.add(3);
        DUE.refused(pantry, "spoil of a jar of the menu", Due.BAD_STATE, () -> pantry.spoil(3));
    }

    // ---- promise 5

    private static void sweepAtItsEdges() {
        swept("no ghosts", 3, "0 1 1", 0, "0|1|||1 0| border 0 moved 0");
        swept("ghosts of recent ones alone", 3, "0 1 0 2 3", 1, "3 2|0|||3 2 0| border 0 moved 0");
        swept("ghosts of frequent ones alone", 2, "0 0 1 1 2", 1, "2|1|||2 1| border 0 moved 0");
        swept("ghosts of both", 3, WITH_GHOSTS, 3, "5|3 2|||5 4 3| border 0 moved 0");
        swept("ghosts beside no jars", 3, WITH_GHOSTS + " !5 !3 !2", 3, "||||5 4 3| border 0 moved 0");
        swept("ghosts with a border", 3, "11 5 11 4 4 6 5 3 8 6 5 3", 3, "8|3 5|||3 5 6| border 3 moved 5");
        swept("twelve ghosts", 12,
            "0 1 2 3 4 5 6 7 8 9 10 11 0 12 2 13 4 14 6 15 8 16 10 17 12 18 14 19 16 20 18 21 20 21 22 22 23",
            12, "23|22 21 20 18 16 14 12 10 8 6 4|||23 22 21 20 18 16 19 14 12 17 10 8| border 0 moved 0");
        GhostPantry pantry = Made.run(3, WITH_GHOSTS + " ~");
        DUE.same("ask of a swept ghost of a recent one", pantry.ask(4), 0);
        DUE.same("ask of a swept ghost of a frequent one", pantry.ask(0), 0);
        DUE.sameText("they are new jars", Told.state(pantry), "0|3 2|4 5||0 4 5| border 0 moved 0");
    }

    private static void swept(String told, int room, String calls, int ghosts, String after) {
        GhostPantry pantry = Made.run(room, calls);
        int asked = pantry.count(8);
        DUE.same("sweep() of " + told, pantry.sweep(), ghosts);
        DUE.sameText("after sweep() of " + told, Told.state(pantry), after);
        DUE.same("sweep() again of " + told, pantry.sweep(), 0);
        DUE.sameText("after sweep() again of " + told, Told.state(pantry), after);
        DUE.same("count(8) after sweep() of " + told, pantry.count(8), asked);
    }

    // ---- promise 6, and "Menu: a row of at most 30 jars"

    private static void addAtItsEdges() {
        GhostPantry pantry = Made.run(3, WITH_GHOSTS);
        String state = Told.state(pantry);
        for (int many = 1; many <= 30; many++) {
            DUE.same("add(29), the " + many + ".", pantry.add(29), many);
        }
        DUE.same("count(6) of a full menu", pantry.count(6), 30);
        for (int jar : new int[] {0, 5, 29}) {
            DUE.refused(pantry, "add(" + jar + ") to a full menu", Due.BAD_STATE, () -> pantry.add(jar));
        }
        pantry.drop(29);
        DUE.same("add(0) to 29", pantry.add(0), 30);
        DUE.same("it is the last one", pantry.row(6, 29), 0);
        DUE.refused(pantry, "add(0) to a menu full again", Due.BAD_STATE, () -> pantry.add(0));
        DUE.sameText("the rows stay", Told.state(pantry), state);
        DUE.same("nothing is asked", pantry.count(8), 10);
    }

    // ---- promise 7: "if there is no such place"

    private static void dropAtItsEdges() {
        GhostPantry empty = new GhostPantry();
        for (int place : new int[] {0, 1, -1, 29, 30, Integer.MIN_VALUE, Integer.MAX_VALUE}) {
            DUE.refused(empty, "drop(" + place + ") of no menu", Due.BAD_INDEX, () -> empty.drop(place));
        }
        GhostPantry one = Made.run(6, "+7");
        DUE.refused(one, "drop(1) of one", Due.BAD_INDEX, () -> one.drop(1));
        DUE.refused(one, "drop(-1) of one", Due.BAD_INDEX, () -> one.drop(-1));
        DUE.same("drop(0) of one", one.drop(0), 7);
        DUE.same("count(6) then", one.count(6), 0);
        DUE.refused(one, "drop(0) once more", Due.BAD_INDEX, () -> one.drop(0));
        GhostPantry four = Made.run(6, "+1 +2 +1 +3");
        DUE.same("drop(1) of four", four.drop(1), 2);
        DUE.sameText("those behind it move up", Told.row(four, 6), "1 1 3");
        DUE.same("drop(2), the last", four.drop(2), 3);
        DUE.sameText("none moves", Told.row(four, 6), "1 1");
        DUE.same("drop(0), the first", four.drop(0), 1);
        DUE.sameText("one is left", Told.row(four, 6), "1");
        GhostPantry full = new GhostPantry();
        Made.fullMenuOf(full, 4);
        DUE.refused(full, "drop(30) of a full menu", Due.BAD_INDEX, () -> full.drop(30));
        DUE.same("drop(29) of a full menu", full.drop(29), 4);
        DUE.refused(full, "drop(29) of 29", Due.BAD_INDEX, () -> full.drop(29));
        DUE.same("drop(0) of 29", full.drop(0), 4);
        DUE.same("count(6) of 28", full.count(6), 28);
    }

    // ---- promise 8, and "Cooking it asks for its jars, one behind the other"

    private static void cookAtItsEdges() {
        GhostPantry none = Made.run(3, WITH_GHOSTS);
        long before = none.digest();
        DUE.same("cook() of no menu", none.cook(), 0);
        DUE.same("digest after cook() of no menu", none.digest(), before);

        GhostPantry ghosts = Made.run(3, WITH_GHOSTS + " +4 +1");
        DUE.same("ghosts are not there", ghosts.cook(), 0);
        DUE.sameText("cook() asks for ghosts", Told.state(ghosts),
            "|1 4 3|5|2 0|1 4 5| border 1 moved 3");

        GhostPantry twice = Made.run(6, "+8 +8");
        DUE.same("the second time it is there", twice.cook(), 1);
        DUE.same("then both times", twice.cook(), 2);

        GhostPantry order = Made.run(1, "0 +1 +0");
        DUE.same("the first jar drives the second one out", order.cook(), 0);
        GhostPantry back = Made.run(1, "0 +0 +1");
        DUE.same("the other way round", back.cook(), 1);

        GhostPantry full = new GhostPantry();
        Made.fullMenuOf(full, 29);
        DUE.same("cook() of a full menu of one jar", full.cook(), 29);
        DUE.same("cook() once more", full.cook(), 30);
        DUE.sameText("counts then", Told.counts(full), "6 0 1 0 0 1 30 0 60 59 59 0");

        GhostPantry all = new GhostPantry();
        for (int jar = 0; jar < 30; jar++) {
            all.add(jar);
        }
        DUE.same("cook() of all jars", all.cook(), 0);
        DUE.sameText("the last six are there", Told.rows(all), "29 28 27 26 25 24||||29 28 27 26 25 24|");
        DUE.same("count(8) of all jars", all.count(8), 30);
        DUE.same("told(0, 2) of all jars", all.told(0, 2), 1);
        DUE.same("told(29, 2) of all jars", all.told(29, 2), 1);
    }

    // ---- promise 9: "-1 if it is nowhere", "what is not 0 to 4"

    private static void toldAtItsEdges() {
        GhostPantry pantry = Made.run(3, WITH_GHOSTS);
        String[] due = {"4 1 2 1 0", "4 0 2 1 0", "2 1 2 1 0", "2 0 2 1 1", "3 0 1 0 1", "1 0 1 0 1",
            "0 -1 0 0 0"};
        for (int jar = 0; jar < due.length; jar++) {
            String told = "";
            for (int what = 0; what <= 4; what++) {
                told += (what == 0 ? "" : " ") + pantry.told(jar, what);
            }
            DUE.sameText("told of jar " + jar, told, due[jar]);
        }
        for (int what : new int[] {-1, 5, Integer.MIN_VALUE, Integer.MAX_VALUE}) {
            DUE.refused(pantry, "told(0, " + what + ")", Due.BAD_INDEX, () -> pantry.told(0, what));
            DUE.refused(pantry, "told(30, " + what + ")", Due.BAD_INDEX, () -> pantry.told(30, what));
        }
        GhostPantry spoilt = Made.run(3, "7 !7");
        DUE.same("told(7, 0) in the plain one alone", spoilt.told(7, 0), 0);
        DUE.same("told(7, 1) in the plain one alone", spoilt.told(7, 1), -1);
        DUE.same("told(7, 4) in the plain one alone", spoilt.told(7, 4), 1);
        GhostPantry large = Made.run(12, "0 1 2 3 4 5 6 7 8 9 10 11");
        DUE.same("told(11, 1), the first place", large.told(11, 1), 0);
        DUE.same("told(0, 1), the last place", large.told(0, 1), 11);
    }

    // ---- promise 10: "if row is not 1 to 6, or there is no such place"

    private static void rowAtItsEdges() {
        GhostPantry pantry = Made.run(12,
            "0 1 2 3 4 5 6 7 8 9 10 11 0 12 2 13 4 14 6 15 8 1 3 5 7 16 9 10 17 11 18 19 20 21 22 23");
        int[] many = {0, 12, 0, 0, 12, 12, 30};
        int[] first = {0, 23, -1, -1, 11, 23, 4};
        int[] last = {0, 12, -1, -1, 0, 7, 4};
        Made.fullMenuOf(pantry, 4);
        for (int number = 1; number <= 6; number++) {
            int row = number;
            DUE.same("count(" + row + ")", pantry.count(row), many[row]);
            if (many[row] > 0) {
                DUE.same("the first of row " + row, pantry.row(row, 0), first[row]);
                DUE.same("the last of row " + row, pantry.row(row, many[row] - 1), last[row]);
            }
            for (int place : new int[] {-1, many[row], Integer.MIN_VALUE, Integer.MAX_VALUE}) {
                DUE.refused(pantry, "row(" + row + ", " + place + ")", Due.BAD_INDEX,
                    () -> pantry.row(row, place));
            }
        }
        for (int row : new int[] {0, 7, -1, Integer.MIN_VALUE, Integer.MAX_VALUE}) {
            for (int place : new int[] {0, -1, 30}) {
                DUE.refused(pantry, "row(" + row + ", " + place + ")", Due.BAD_INDEX,
                    () -> pantry.row(row, place));
            }
        }
    }

    // ---- promise 11: "if what is not 0 to 11", "(as far as it did)"

    private static void countAtItsEdges() {
        GhostPantry pantry = Made.run(2, "4 4 2 1 2 +7"); // 1|2||4|2 1|
        DUE.sameText("each count", Told.counts(pantry), "2 1 1 0 1 2 1 1 5 1 2 1");
        for (int what : new int[] {-1, 12, Integer.MIN_VALUE, Integer.MAX_VALUE}) {
            DUE.refused(pantry, "count(" + what + ")", Due.BAD_INDEX, () -> pantry.count(what));
        }
        GhostPantry up = Made.run(3, "11 5 11 4 4 6 5 3 8 6 5");
        DUE.same("count(11) before a step of 2 with 1 left", up.count(11), 4);
        up.ask(3);
        DUE.same("count(11) has what it moved up", up.count(11), 5);
        GhostPantry down = Made.run(4, "4 4 5 2 3 0 0 5 6 7");
        DUE.same("count(11) before a step of 2 from 1", down.count(11), 1);
        down.ask(4);
        DUE.same("count(11) has what it moved down", down.count(11), 2);
    }

    // ---- promise 12: "-1 if none (nothing is changed)"

    private static void leavesAtItsEdges() {
        DUE.same("leaves of a jar that fits in", Made.run(2, "0").leaves(1), -1);
        DUE.same("leaves of the only one", Made.run(1, "0").leaves(0), -1);
        DUE.same("leaves, without a ghost", Made.run(1, "0").leaves(29), 0);
        DUE.same("leaves, as a ghost", Made.run(1, "29 29").leaves(0), 29);
        DUE.same("leaves with a free place", Made.run(1, "0 0 !0").leaves(1), -1);
        GhostPantry pantry = Made.run(3, WITH_GHOSTS + " +4 +0"); // 5|3 2|4|1 0|
        long before = pantry.digest();
        DUE.same("leaves(28), a new jar", pantry.leaves(28), 5);
        DUE.same("leaves(4), a ghost of a recent one", pantry.leaves(4), 2);
        DUE.same("leaves(0), a ghost of a frequent one", pantry.leaves(0), 5);
        DUE.same("leaves(5), recent", pantry.leaves(5), -1);
        DUE.same("leaves(2), frequent", pantry.leaves(2), -1);
        DUE.same("leaves(28) again", pantry.leaves(28), 5);
        DUE.same("digest after leaves", pantry.digest(), before);
        DUE.same("the jar, and not the ghost that is gone with it", Made.run(2, "4 4 2 1").leaves(3), 1);
        DUE.same("a ghost alone is gone", Made.run(1, "0 0 1 0 !0").leaves(2), -1);
    }

    // ---- promise 13: "if times is not 1 to 9"

    private static void foreseeAtItsEdges() {
        GhostPantry empty = Made.run(3, WITH_GHOSTS);
        GhostPantry one = Made.run(6, "+29");
        GhostPantry full = new GhostPantry();
        Made.fullMenuOf(full, 0);
        for (int times : Made.NO_TIMES) {
            DUE.refused(empty, "foresee(" + times + ") of no menu", Due.BAD_ARGUMENT,
                () -> empty.foresee(times));
            DUE.refused(full, "foresee(" + times + ") of a full menu", Due.BAD_ARGUMENT,
                () -> full.foresee(times));
        }
        long before = full.digest();
        for (int times = 1; times <= 9; times++) {
            DUE.same("foresee(" + times + ") of no menu", empty.foresee(times), 0);
            DUE.same("foresee(" + times + ") of one jar", one.foresee(times), times - 1);
            DUE.same("foresee(" + times + ") of a full menu", full.foresee(times), 30 * times - 1);
        }
        DUE.same("digest after foresee", full.digest(), before);
        full.ask(0);
        DUE.same("foresee(9) of a full menu that is there", full.foresee(9), 270);
    }

    // ---- "with the rows as they are (nothing is changed)"

    private static void foreseeTakesTheRowsAsTheyAre() {
        GhostPantry frequent = Made.run(2, "4 4 2 1 2 +5 +2"); // 1|2||4| with border 1: 2 makes room for 5
        DUE.same("with the border 1 the frequent one goes", frequent.foresee(1), 0);
        GhostPantry recent = Made.run(2, "4 4 2 1 2 +5 +1");
        DUE.same("with the border 1 the recent one stays", recent.foresee(1), 1);
        GhostPantry ghost = Made.run(2, "4 4 2 1 +2 +1"); // 1|4|2|| with border 0
        DUE.same("the ghost moves the border, so the recent one stays", ghost.foresee(1), 1);
        ghost.sweep();
        DUE.same("without the ghost the recent one goes", ghost.foresee(1), 0);
        GhostPantry fresh = Made.run(2, "+4 +4");
        DUE.same("foresee(2) in an empty pantry", fresh.foresee(2), 3);
        DUE.same("foresee(2) again", fresh.foresee(2), 3);
        DUE.same("nothing was asked", fresh.count(8), 0);
    }

    // ---- promise 14

    private static void plainAtItsEdges() {
        GhostPantry empty = Made.run(3, WITH_GHOSTS);
        GhostPantry one = Made.run(6, "+29");
        GhostPantry full = new GhostPantry();
        Made.fullMenuOf(full, 0);
        for (int times : Made.NO_TIMES) {
            DUE.refused(empty, "plain(" + times + ") of no menu", Due.BAD_ARGUMENT,
                () -> empty.plain(times));
            DUE.refused(full, "plain(" + times + ") of a full menu", Due.BAD_ARGUMENT,
                () -> full.plain(times));
        }
        long before = full.digest();
        for (int times = 1; times <= 9; times++) {
            DUE.same("plain(" + times + ") of no menu", empty.plain(times), 0);
            DUE.same("plain(" + times + ") of one jar", one.plain(times), times - 1);
            DUE.same("plain(" + times + ") of a full menu", full.plain(times), 30 * times - 1);
        }
        DUE.same("digest after plain", full.digest(), before);
        full.ask(0);
        DUE.same("plain(9) of a full menu that is there", full.plain(9), 270);
        GhostPantry fits = Made.run(3, "+0 +1 +2");
        DUE.same("plain(9), as many jars as the room", fits.plain(9), 24);
        GhostPantry tight = Made.run(2, "+0 +1 +2");
        DUE.same("plain(9), one more than the room", tight.plain(9), 0);
        DUE.same("plain(1) of a spoilt jar", Made.run(3, "7 !7 +7").plain(1), 1);
        DUE.same("plain(1) of a frequent one that is not in it", Made.run(2, "4 4 2 1 +4").plain(1), 0);
        GhostPantry anew = Made.run(3, "7 +7");
        anew.setRoom(3);
        DUE.same("plain(1) after setRoom", anew.plain(1), 0);
    }

    // ---- promise 15: "of several the least; -1 if the menu is empty"

    private static void bestAtItsEdges() {
        GhostPantry empty = Made.run(3, WITH_GHOSTS);
        for (int times = 1; times <= 9; times++) {
            DUE.same("best(" + times + ") of no menu", empty.best(times), -1);
        }
        for (int times : Made.NO_TIMES) {
            DUE.refused(empty, "best(" + times + ") of no menu", Due.BAD_ARGUMENT, () -> empty.best(times));
        }
        GhostPantry pantry = new GhostPantry();
        for (int jar = 0; jar < 12; jar++) {
            pantry.add(jar);
            DUE.same("best(1) of new jars", pantry.best(1), 1);
            DUE.same("best(2) of " + (jar + 1) + " jars", pantry.best(2), jar + 1);
            DUE.same("best(9) of " + (jar + 1) + " jars", pantry.best(9), jar + 1);
        }
        pantry.add(12);
        DUE.same("best(2) of 13 jars, too many for each room", pantry.best(2), 1);
        for (int times : Made.NO_TIMES) {
            DUE.refused(pantry, "best(" + times + ")", Due.BAD_ARGUMENT, () -> pantry.best(times));
        }
        GhostPantry full = new GhostPantry();
        Made.fullMenuOf(full, 29);
        DUE.same("best(9) of a full menu of one jar", full.best(9), 1);
        full.drop(29);
        full.drop(28);
        full.add(0);
        full.add(29);
        DUE.same("best(1) of a jar that comes back", full.best(1), 2);
    }

    // ---- "an empty pantry with ghosts"

    private static void bestTakesAnEmptyPantry() {
        String menu = "+0 +1 +2 +3 +0 +4";
        for (int room = 1; room <= 12; room++) {
            GhostPantry fresh = Made.run(room, menu);
            GhostPantry used = Made.run(room, "0 0 1 2 3 4 1 2 5 5 6 0 7 3 " + menu);
            String state = Told.state(used);
            long before = used.digest();
            for (int times = 1; times <= 9; times++) {
                DUE.same("best(" + times + ") in room " + room, used.best(times), fresh.best(times));
            }
            DUE.same("best(1): four are asked for before 0 comes back", used.best(1), 4);
            DUE.sameText("state after best", Told.state(used), state);
            DUE.same("digest after best", used.digest(), before);
            DUE.same("count(0) after best", used.count(0), room);
        }
    }

    // ---- promise 16: "0 if nothing was"

    private static void meanAtItsEdges() {
        GhostPantry pantry = Made.run(6, "+0 +0 +1");
        DUE.sameReal("mean() of nothing", pantry.mean(), 0.0);
        pantry.foresee(9);
        pantry.leaves(0);
        DUE.sameReal("mean() of nothing still", pantry.mean(), 0.0);
        pantry.ask(0);
        DUE.sameReal("mean() 0 of 1", pantry.mean(), 0.0);
        pantry.cook();
        DUE.sameReal("mean() 2 of 4", pantry.mean(), 0.5);
        pantry.setRoom(1);
        DUE.sameReal("mean() goes on", pantry.mean(), 0.5);
        pantry.ask(29);
        pantry.ask(28);
        DUE.sameReal("mean() 2 of 6", pantry.mean(), 2.0 / 6.0);
        DUE.sameReal("mean() of ghosts, 1 of 4", Made.run(1, "0 0 1 0").mean(), 0.25);
    }

    // ---- promise 17

    private static void digestOfNumbersByHand() {
        GhostPantry pantry = Made.run(2, "4 4 2 1 +7 +29"); // 1|4|2||1 2|
        List<Integer> numbers = new ArrayList<>(List.of(
            2, 1, 1, 1, 0, 2, 2, 0, 4, 1, 1, 0, // what count() tells
            1, 4, 2, 1, 2, 7, 29, // the jars of rows 1, 2, 3, 5, 5, 6, 6
            0, 0, 1, 0, 1, 0, 0, 0, 2, 1)); // of jars 0 to 4
        for (int jar = 5; jar < 30; jar++) {
            numbers.add(0);
            numbers.add(0);
        }
        DUE.same("digest() of numbers by hand", pantry.digest(), folded(numbers));
    }

    /** The fold without any wrap-around, cut to 64 bits at its end. */
    private static long folded(List<Integer> numbers) {
        BigInteger d = BigInteger.valueOf(1427);
        for (int number : numbers) {
            d = d.multiply(BigInteger.valueOf(31)).add(BigInteger.valueOf(number));
        }
        return d.longValue();
    }

    // ---- "which wraps around as a 64-bit integer"

    private static void digestWrapsAround() {
        int below = 0;
        int above = 0;
        for (int jar = 0; jar < 30; jar++) {
            GhostPantry pantry = Made.asked(3, jar, 29 - jar, jar, 5, 6, 7, jar, 8);
            long digest = pantry.digest();
            DUE.same("digest() with jar " + jar, digest, folded(numbersOf(pantry)));
            below += digest < 0 ? 1 : 0;
            above += digest > Integer.MAX_VALUE ? 1 : 0;
        }
        DUE.is("digests below 0: " + below + ", above 32 bits: " + above, below > 0 && above > 0);
    }

    private static List<Integer> numbersOf(GhostPantry pantry) {
        List<Integer> numbers = new ArrayList<>();
        for (int what = 0; what <= 11; what++) {
            numbers.add(pantry.count(what));
        }
        for (int row = 1; row <= 6; row++) {
            for (int place = 0; place < numbers.get(row); place++) {
                numbers.add(pantry.row(row, place));
            }
        }
        for (int jar = 0; jar < 30; jar++) {
            numbers.add(pantry.told(jar, 2));
            numbers.add(pantry.told(jar, 3));
        }
        return numbers;
    }

    // ---- "If several exceptions apply, the one that is named first is thrown"

    private static void theFirstNamedExceptionIsThrown() {
        GhostPantry full = new GhostPantry();
        Made.fullMenuOf(full, 3);
        for (int jar : Made.NO_JARS) {
            DUE.refused(full, "spoil(" + jar + "), no jar and not there", Due.BAD_INDEX,
                () -> full.spoil(jar));
            DUE.refused(full, "add(" + jar + "), no jar and a full menu", Due.BAD_INDEX,
                () -> full.add(jar));
        }
    }

    // ---- "A method that throws an exception changes nothing"

    private static final int[] RUN = {0, 1, 2, 0, 3, 2, 4, 1, 5, 3, 0, 4, 6, 5, 7, 1, 2, 8, 3, 3, 9, 0, 6, 4,
        10, 2, 2, 11, 7, 1, 5, 0, 8, 6, 12, 3, 9, 4, 10, 1};

    private static void refusedCallsChangeNothing() {
        GhostPantry refusing = new GhostPantry();
        List<Due.Call> refused = List.of(
            () -> refusing.setRoom(0), () -> refusing.setRoom(13),
            () -> refusing.ask(-1), () -> refusing.ask(30),
            () -> refusing.spoil(-1), () -> refusing.spoil(30), () -> refusing.spoil(28),
            () -> refusing.add(-1), () -> refusing.add(30), () -> refusing.add(5),
            () -> refusing.drop(-1), () -> refusing.drop(30),
            () -> refusing.told(-1, 0), () -> refusing.told(30, 2), () -> refusing.told(0, -1),
            () -> refusing.told(0, 5), () -> refusing.row(0, 0), () -> refusing.row(7, 0),
            () -> refusing.row(1, -1), () -> refusing.row(5, 12), () -> refusing.row(6, 30),
            () -> refusing.count(-1), () -> refusing.count(12),
            () -> refusing.leaves(-1), () -> refusing.leaves(30),
            () -> refusing.foresee(0), () -> refusing.foresee(10), () -> refusing.plain(0),
            () -> refusing.plain(10), () -> refusing.best(0), () -> refusing.best(10));
        besideATwin("refused calls", refusing, refused, true);
    }

    private static void questionsChangeNothing() {
        GhostPantry asking = new GhostPantry();
        List<Due.Call> questions = List.of(
            () -> asking.told(4, 0), () -> asking.told(4, 1), () -> asking.told(4, 2),
            () -> asking.row(6, 29), () -> asking.count(11), () -> asking.leaves(0),
            () -> asking.leaves(29), () -> asking.leaves(12), () -> asking.foresee(1),
            () -> asking.foresee(9), () -> asking.plain(1), () -> asking.plain(9),
            () -> asking.best(1), () -> asking.best(9), asking::mean, asking::digest);
        besideATwin("questions", asking, questions, false);
    }

    /** One of these calls stands behind each call of a run; the twin has the run without them. */
    private static void besideATwin(String told, GhostPantry pantry, List<Due.Call> between,
            boolean throwing) {
        GhostPantry twin = new GhostPantry();
        pantry.setRoom(4);
        twin.setRoom(4);
        for (int jar = 0; jar < 30; jar++) {
            pantry.add(jar % 7);
            twin.add(jar % 7);
        }
        int next = 0;
        for (int step = 0; step < RUN.length; step++) {
            DUE.same(told + ", step " + step, pantry.ask(RUN[step]), twin.ask(RUN[step]));
            for (int call = 0; call < 2; call++) {
                boolean threw = threw(between.get(next % between.size()));
                DUE.is(told + ", call " + next % between.size() + " threw: " + threw, threw == throwing);
                next++;
            }
        }
        DUE.same(told + ", cook()", pantry.cook(), twin.cook());
        DUE.sameText(told + ", state", Told.state(pantry), Told.state(twin));
        DUE.sameText(told + ", counts", Told.counts(pantry), Told.counts(twin));
        DUE.sameText(told + ", menu", Told.row(pantry, 6), Told.row(twin, 6));
        DUE.same(told + ", digest", pantry.digest(), twin.digest());
    }

    private static boolean threw(Due.Call call) {
        try {
            call.run();
            return false;
        } catch (RuntimeException thrown) {
            return true;
        }
    }
}
