/**
 * Asking at its edges: for each sentence of the document on asking, the cases that lie on both sides
 * of its limit. Each last step was worked by hand from the state before it, which the text tells; that
 * state is looked at too, so that a wrong way there is told apart from a wrong last step.
 */
final class AskEdgeTest {
    private static final Due DUE = new Due("AskEdgeTest");

    public static void main(String[] args) {
        aJarThatIsThere();
        theBorderGoesUp();
        theBorderEndsAtTheRoom();
        roomForAGhostOfARecentOne();
        theBorderGoesDown();
        theBorderEndsAtNone();
        roomForAGhostOfAFrequentOne();
        recentOnesAndGhostsFillTheRoom();
        recentOnesAloneFillTheRoom();
        allRowsAgainstTheRoom();
        allRowsAgainstTwiceTheRoom();
        roomForANewJar();
        roomForOne();
        roomForTwelve();
        thePlainPantry();
        eachJarInOneRow();
        leavesAtEachEdge();
        DUE.close();
    }

    /** The calls lead to the state before; then the jar is asked for, which is where it must be. */
    private record Edge(String told, int room, String calls, String before, int jar, int where,
            String after) {
    }

    private static final java.util.List<Edge> LOOKED_AT = new java.util.ArrayList<>();

    private static void edge(String told, int room, String calls, String before, int jar, int where,
            String after) {
        LOOKED_AT.add(new Edge(told, room, calls, before, jar, where, after));
        GhostPantry pantry = Made.run(room, calls);
        DUE.sameText(told + ", before", Told.state(pantry), before);
        DUE.same(told + ", told(" + jar + ", 0)", pantry.told(jar, 0), where);
        int askedInAll = pantry.count(8);
        int thereInAll = pantry.count(9);
        int askedOf = pantry.told(jar, 2);
        int thereOf = pantry.told(jar, 3);
        int there = where == 1 || where == 2 ? 1 : 0;
        DUE.same(told + ", ask(" + jar + ")", pantry.ask(jar), where);
        DUE.sameText(told + ", after", Told.state(pantry), after);
        DUE.same(told + ", count(8)", pantry.count(8), askedInAll + 1);
        DUE.same(told + ", count(9)", pantry.count(9), thereInAll + there);
        DUE.same(told + ", told(" + jar + ", 2)", pantry.told(jar, 2), askedOf + 1);
        DUE.same(told + ", told(" + jar + ", 3)", pantry.told(jar, 3), thereOf + there);
    }

    // ---- "If it is among the recent or the frequent ones, it is there"

    private static void aJarThatIsThere() {
        edge("the newest frequent one stays in front", 4, "2 2 4 10 4 3 0 0 8 3",
            "8|3 0 4|10|2|3 8 0 4| border 1 moved 1", 3, 2,
            "8|3 0 4|10|2|3 8 0 4| border 1 moved 1");
        edge("the last frequent one of a full pantry", 4, "1 0 2 0 9 2 9 1 4 6",
            "6|1 9 2|4|0|6 4 1 9| border 0 moved 0", 2, 2,
            "6|2 1 9|4|0|2 6 4 1| border 0 moved 0");
        edge("the last recent one of a full pantry", 3, "4 5 4 8 3 5 2",
            "2 3|5|8|4|2 5 3| border 1 moved 1", 3, 1,
            "2|3 5|8|4|3 2 5| border 1 moved 1");
        edge("the only jar", 6, "29", "29||||29| border 0 moved 0", 29, 1,
            "|29|||29| border 0 moved 0");
    }

    // ---- "the border is greater by .. (cut, this one counted; at least by 1)"

    private static void theBorderGoesUp() {
        edge("up by 1, for 0 / 1", 2, "4 4 2 1",
            "1|4|2||1 2| border 0 moved 0", 2, 3,
            "1|2||4|2 1| border 1 moved 1");
        edge("up by 1, for 1 / 2", 3, "1 0 1 0 3 3 7 6 5",
            "5|3 0|6 7|1|5 6 7| border 0 moved 0", 6, 3,
            "5|6 3|7|0 1|6 5 7| border 1 moved 1");
        edge("up by 1, for 3 / 2", 5, "6 3 4 9 2 11 6 4 3 6 7 7 2 8 0 3 10",
            "10 0 8|3 2|11 9|7 6 4|10 3 0 8 2| border 2 moved 2", 11, 3,
            "10 0 8|11 3|9|2 7 6 4|11 10 3 0 8| border 3 moved 3");
        edge("up by 2, for 5 / 2", 7, "0 1 2 3 4 5 6 0 7 2 8 4 9 1 10 3 11 5 12 6 13",
            "13 12 11 10 9|6 5|8 7|3 1 4 2 0|13 6 12 5 11 3 10| border 4 moved 4", 7, 3,
            "13 12 11 10 9|7 6|8|5 3 1 4 2 0|7 13 6 12 5 11 3| border 6 moved 6");
    }

    // ---- ".. at most the room"

    private static void theBorderEndsAtTheRoom() {
        edge("up by 2, just to the room", 3, "2 2 5 5 6 0 8 6 7",
            "7 8|6|0|5 2|7 6 8| border 1 moved 1", 0, 3,
            "7 8|0||6 5 2|0 7 6| border 3 moved 3");
        edge("up by 2, but for 1 to the room", 3, "11 5 11 4 4 6 5 3 8 6 5",
            "8|5 6|3|4 11|5 6 8| border 2 moved 4", 3, 3,
            "8|3 5||6 4 11|3 5 6| border 3 moved 5");
        edge("the room already", 6, "0 1 2 3 4 5 0 6 2 7 4 8 1 9 3 10 5 11 6 0 7",
            "11 10 9|7 0 6|8|5 3 1 4 2|7 0 6 11 5 10| border 6 moved 8", 8, 3,
            "11 10 9|8 7 0||6 5 3 1 4 2|8 7 0 6 11 5| border 6 moved 8");
    }

    // ---- "Then room is made, by the new border" (a ghost of a recent one)

    private static void roomForAGhostOfARecentOne() {
        edge("more recent ones than the new border", 3, "1 11 1 4 6",
            "6 4|1|11||6 4 1| border 0 moved 0", 11, 3,
            "6|11 1|4||11 6 4| border 1 moved 1");
        edge("more than the old border, as many as the new one", 3, "0 1 2 0 3 1 4",
            "4 3|1|2|0|4 1 3| border 1 moved 1", 2, 3,
            "4 3|2||1 0|2 4 1| border 2 moved 2");
        edge("a free place for a ghost of a recent one", 3, "4 5 4 0 6 !0",
            "6|4|5||6 0 4| border 0 moved 0", 5, 3,
            "6|5 4|||5 6 0| border 1 moved 1");
        edge("an empty pantry for a ghost of a recent one", 2, "4 4 2 1 !1 !4",
            "||2||1 2| border 0 moved 0", 2, 3,
            "|2|||2 1| border 1 moved 1");
    }

    // ---- "the border is less by .. (cut, this one counted; at least by 1)"

    private static void theBorderGoesDown() {
        edge("down by 1, for 0 / 1", 3, "1 11 1 4 6 11 4",
            "6|4 11||1|4 11 6| border 2 moved 2", 1, 4,
            "|1 4 11|6||1 4 11| border 1 moved 3");
        edge("down by 1, for 1 / 2", 4, "4 2 4 7 6 1 2 7 0 3",
            "3 0 1|7|6|2 4|3 0 7 2| border 2 moved 2", 4, 4,
            "3 0|4 7|1 6|2|4 3 0 7| border 1 moved 3");
        edge("down by 1, for 3 / 2", 6, "0 1 2 3 4 5 0 6 2 7 4 8 1 9 3 10",
            "10 9 8|3 1 4|7 6 5|2 0|10 3 9 1 8 4| border 2 moved 2", 0, 4,
            "10 9|0 3 1 4|8 7 6 5|2|0 10 3 9 1 8| border 1 moved 3");
        edge("down by 2, for 5 / 2", 8, "0 1 2 3 4 5 6 7 0 8 2 9 4 10 6 11 8 12 1 13 3 14",
            "14 13 12|3 1 8 6 4|11 10 9 7 5|2 0|14 3 13 1 12 8 11 6| border 2 moved 2", 0, 4,
            "14 13|0 3 1 8 6 4|12 11 10 9 7 5|2|0 14 3 13 1 12 8 11| border 0 moved 4");
    }

    // ---- ".. at least 0"

    private static void theBorderEndsAtNone() {
        edge("down by 2, just to 0", 5, "0 10 0 5 4 1 8 4 3 5 7 1",
            "7 3|1 5 4|8 10|0|1 7 5 3 4| border 2 moved 2", 0, 4,
            "7|0 1 5 4|3 8 10||0 1 7 5 3| border 0 moved 4");
        edge("down by 2, but for 1 to 0", 4, "4 4 5 2 3 0 0 5 6 7",
            "7 6|5 0|3 2|4|7 6 5 0| border 1 moved 1", 4, 4,
            "7|4 5 0|6 3 2||4 7 6 5| border 0 moved 2");
        edge("0 already", 2, "6 6 4 4 5",
            "5|4||6|5 4| border 0 moved 0", 6, 4,
            "|6 4|5||6 5| border 0 moved 0");
    }

    // ---- "as for a ghost of a frequent one"

    private static void roomForAGhostOfAFrequentOne() {
        edge("more recent ones than the new border, for a ghost of a frequent one", 2, "0 0 2 1 2",
            "1|2||0|2 1| border 1 moved 1", 0, 4,
            "|0 2|1||0 2| border 0 moved 2");
        edge("less than the old border, as many as the new one", 3, "0 1 2 0 3 2 4 1 5 3",
            "5 4|3||1 2 0|3 5 1| border 3 moved 3", 0, 4,
            "5|0 3|4|1 2|0 3 5| border 2 moved 4");
        edge("as many recent ones as the old border, more than the new one", 3, "0 1 2 0 3 1 4 2",
            "4 3|2||1 0|2 4 1| border 2 moved 2", 0, 4,
            "4|0 2|3|1|0 2 4| border 1 moved 3");
        edge("less recent ones than the new border", 4, "2 1 6 6 5 9 2 7 7 1 5",
            "9|5 1 7||2 6|5 1 7 2| border 3 moved 3", 2, 4,
            "9|2 5 1||7 6|2 5 1 7| border 2 moved 4");
        edge("no recent ones, as many as the border 0", 2, "4 4 2 1 2 1",
            "|1 2||4|1 2| border 1 moved 1", 4, 4,
            "|4 1||2|4 1| border 0 moved 2");
        edge("a free place for a ghost of a frequent one", 3, "3 2 3 6 5 6 2 !2",
            "5|6||3|2 6 5| border 1 moved 1", 3, 4,
            "5|3 6|||3 2 6| border 0 moved 2");
        edge("an empty pantry for a ghost of a frequent one", 2, "6 6 4 4 5 !5 !4",
            "|||6|5 4| border 0 moved 0", 6, 4,
            "|6|||6 5| border 0 moved 0");
    }

    // ---- "if recent jars and their ghosts are as many as the room: if there are ghosts of recent ones"

    private static void recentOnesAndGhostsFillTheRoom() {
        edge("their last ghost is gone, and the last recent one is a ghost", 3, "11 2 5 5 2 10 0",
            "0|2 5|10 11||0 10 2| border 0 moved 0", 1, 0,
            "1|2 5|0 10||1 0 10| border 0 moved 0");
        edge("their last ghost is gone, and the last frequent one is a ghost", 3,
            "7 1 7 1 5 5 6 4 0 7 0 11",
            "11|0 7|4 6|5|11 0 7| border 1 moved 1", 9, 0,
            "9 11|0|4|7 5|9 11 0| border 1 moved 1");
        edge("their only ghost is gone, with the border at the room", 6,
            "0 1 2 3 4 5 0 6 2 7 1 3 8 4 9 5 10 11 0 2 6 12",
            "12 11 10 9 8|6|7|2 0 5 4 3|12 6 2 0 11 10| border 6 moved 10", 13, 0,
            "13 12 11 10 9 8|||6 2 0 5 4 3|13 12 6 2 0 11| border 6 moved 10");
        edge("their last ghost is gone, though there is a free place", 3, "8 7 1 8 11 11 10 !8",
            "10|11|1 7||10 11 8| border 0 moved 0", 2, 0,
            "2 10|11|1||2 10 11| border 0 moved 0");
        edge("their ghosts alone fill the room", 2, "1 5 5 7 7 3 5",
            "|5 7|3 1||5 3| border 0 moved 0", 8, 0,
            "8|5|3|7|8 5| border 0 moved 0");
        edge("their ghosts alone fill the room, and there is a free place", 2, "1 5 5 7 7 3 5 !5",
            "|7|3 1||5 3| border 0 moved 0", 8, 0,
            "8|7|3||8 5| border 0 moved 0");
        edge("one less than the room: no ghost is gone", 2, "0 0 1 2 3 0 !3",
            "|0|2||0 3| border 0 moved 0", 1, 0,
            "1|0|2||1 0| border 0 moved 0");
    }

    // ---- "otherwise the last one of the recent jars is gone, without a ghost, and no other room is made"

    private static void recentOnesAloneFillTheRoom() {
        edge("no ghosts at all", 3, "0 1 2",
            "2 1 0||||2 1 0| border 0 moved 0", 3, 0,
            "3 2 1||||3 2 1| border 0 moved 0");
        edge("ghosts of frequent ones, less than the room", 3, "2 2 0 0 1 1 3 !0 !1 4 5",
            "5 4 3|||2|5 4 3| border 0 moved 0", 6, 0,
            "6 5 4|||2|6 5 4| border 0 moved 0");
        edge("as many ghosts of frequent ones as the room: they stay", 2, "6 6 3 8 3 0",
            "0 8|||3 6|0 3| border 1 moved 1", 4, 0,
            "4 0|||3 6|4 0| border 1 moved 1");
        edge("as many recent ones as the room and the border", 3, "2 2 5 5 6 0 8 6 7 0 3",
            "3 7 8|||0 6 5|3 0 7| border 3 moved 3", 1, 0,
            "1 3 7|||0 6 5|1 3 0| border 3 moved 3");
    }

    // ---- "If they are fewer, and all four rows together have as many as the room or more"

    private static void allRowsAgainstTheRoom() {
        edge("one less than the room", 3, "6 6 2",
            "2|6|||2 6| border 0 moved 0", 1, 0,
            "1 2|6|||1 2 6| border 0 moved 0");
        edge("just the room", 2, "6 6 10",
            "10|6|||10 6| border 0 moved 0", 0, 0,
            "0|6|10||0 10| border 0 moved 0");
        edge("just the room, ghosts among them: a place is free", 4, "1 8 1 8 0 3 7 2 7 1 0 !0 !1",
            "2|7|3|8|0 1 7 2| border 1 moved 1", 4, 0,
            "4 2|7|3|8|4 0 1 7| border 1 moved 1");
    }

    // ---- "if they have twice the room, the last ghost of the frequent ones is gone"

    private static void allRowsAgainstTwiceTheRoom() {
        edge("one less than twice the room: no ghost is gone", 2, "4 4 8 0 8",
            "0|8||4|8 0| border 1 moved 1", 5, 0,
            "5 0|||8 4|5 8| border 1 moved 1");
        edge("twice the room: the last ghost of the frequent ones is gone", 3,
            "1 10 4 10 8 4 11 1 11 6",
            "6|11 1|8|4 10|6 11 1| border 1 moved 1", 3, 0,
            "3 6|11|8|1 4|3 6 11| border 1 moved 1");
        edge("twice the room, but recent ones and ghosts fill it: none of the frequent is gone", 2,
            "1 5 5 7 7 3",
            "3|7|1|5|3 7| border 0 moved 0", 8, 0,
            "8|7|3|5|8 3| border 0 moved 0");
    }

    // ---- "If there are recent ones, and they are either more than the border .."

    private static void roomForANewJar() {
        edge("one more recent one than the border", 4, "4 4 2 3 6 5 2",
            "5 6|2 4|3||2 5 6 3| border 1 moved 1", 8, 0,
            "8 5|2 4|6 3||8 2 5 6| border 1 moved 1");
        edge("as many recent ones as the border", 3, "0 1 2 0 3 1 4 2",
            "4 3|2||1 0|2 4 1| border 2 moved 2", 5, 0,
            "5 4 3|||2 1 0|5 2 4| border 2 moved 2");
        edge("no recent ones", 2, "6 6 4 4",
            "|4 6|||4 6| border 0 moved 0", 5, 0,
            "5|4||6|5 4| border 0 moved 0");
    }

    // ---- rooms at both ends

    private static void roomForOne() {
        edge("room 1, the only recent one is gone", 1, "0",
            "0||||0| border 0 moved 0", 1, 0, "1||||1| border 0 moved 0");
        edge("room 1, the only frequent one is a ghost", 1, "0 0",
            "|0|||0| border 0 moved 0", 1, 0, "1|||0|1| border 0 moved 0");
        edge("room 1, a recent one beside the ghost of a frequent one", 1, "0 0 1",
            "1|||0|1| border 0 moved 0", 2, 0, "2|||0|2| border 0 moved 0");
        edge("room 1, the ghost of a frequent one", 1, "0 0 1",
            "1|||0|1| border 0 moved 0", 0, 4, "|0|1||0| border 0 moved 0");
        edge("room 1, the ghost of a recent one", 1, "0 0 1 0",
            "|0|1||0| border 0 moved 0", 1, 3, "|1||0|1| border 1 moved 1");
        edge("room 1, a new jar beside the ghost of a recent one", 1, "0 0 1 0",
            "|0|1||0| border 0 moved 0", 2, 0, "2|||0|2| border 0 moved 0");
        edge("room 1, twice the room", 1, "0 0 1 0 1",
            "|1||0|1| border 1 moved 1", 2, 0, "2|||1|2| border 1 moved 1");
        edge("room 1, back from the border 1", 1, "0 0 1 0 1",
            "|1||0|1| border 1 moved 1", 0, 4, "|0||1|0| border 0 moved 2");
    }

    private static void roomForTwelve() {
        edge("room 12, eleven recent ones", 12, "0 1 2 3 4 5 6 7 8 9 10",
            "10 9 8 7 6 5 4 3 2 1 0||||10 9 8 7 6 5 4 3 2 1 0| border 0 moved 0", 11, 0,
            "11 10 9 8 7 6 5 4 3 2 1 0||||11 10 9 8 7 6 5 4 3 2 1 0| border 0 moved 0");
        edge("room 12, twelve recent ones", 12, "0 1 2 3 4 5 6 7 8 9 10 11",
            "11 10 9 8 7 6 5 4 3 2 1 0||||11 10 9 8 7 6 5 4 3 2 1 0| border 0 moved 0", 29, 0,
            "29 11 10 9 8 7 6 5 4 3 2 1||||29 11 10 9 8 7 6 5 4 3 2 1| border 0 moved 0");
        edge("room 12, 24 jars in all four rows", 12,
            "0 1 2 3 4 5 6 7 8 9 10 11 0 12 2 13 4 14 6 15 8 16 10 17 12 18 14 19 16 20 18 21 20 21 22 22 23",
            "23|22 21 20 18 16 14 12 10 8 6 4|19 17 15 13 11 9 7 5 3 1|2 0|"
                + "23 22 21 20 18 16 19 14 12 17 10 8| border 0 moved 0", 29, 0,
            "29|22 21 20 18 16 14 12 10 8 6 4|23 19 17 15 13 11 9 7 5 3 1|2|"
                + "29 23 22 21 20 18 16 19 14 12 17 10| border 0 moved 0");
        edge("room 12, twelve ghosts of frequent ones beside twelve recent ones", 12,
            "0 1 2 3 4 5 6 7 8 9 10 11 0 12 2 13 4 14 6 15 8 1 3 5 7 16 9 10 17 11 18 19 20 21 22 23",
            "23 22 21 20 19 18 17 16 15 14 13 12|||11 10 9 7 5 3 1 8 6 4 2 0|"
                + "23 22 21 20 19 18 11 17 10 9 16 7| border 11 moved 11", 24, 0,
            "24 23 22 21 20 19 18 17 16 15 14 13|||11 10 9 7 5 3 1 8 6 4 2 0|"
                + "24 23 22 21 20 19 18 11 17 10 9 16| border 11 moved 11");
    }

    // ---- "The plain pantry has the same room, and one row, from the newest one on"

    private static void thePlainPantry() {
        plainEdge("empty", 3, "", "", 5, "5", 0);
        plainEdge("one less than the room", 3, "0 1", "1 0", 2, "2 1 0", 0);
        plainEdge("as many as the room, and it is not there", 3, "0 1 2", "2 1 0", 3, "3 2 1", 0);
        plainEdge("as many as the room, and it is the last one", 3, "0 1 2", "2 1 0", 0, "0 2 1", 1);
        plainEdge("as many as the room, and it is in the middle", 3, "0 1 2", "2 1 0", 1, "1 2 0", 1);
        plainEdge("as many as the room, and it is the newest one", 3, "0 1 2", "2 1 0", 2, "2 1 0", 1);
        plainEdge("not full, and it is there", 3, "0 1", "1 0", 0, "0 1", 1);
        plainEdge("room 1, another jar", 1, "0", "0", 1, "1", 0);
        plainEdge("room 1, the same jar", 1, "0", "0", 0, "0", 1);
        plainEdge("a spoilt jar", 3, "0 1 !0", "1 0", 0, "0 1", 1);
        plainEdge("a ghost that is not there", 2, "4 4 2 1", "1 2", 4, "4 1", 0);
    }

    private static void plainEdge(String told, int room, String calls, String before, int jar,
            String after, int there) {
        GhostPantry pantry = Made.run(room, calls);
        int thereInAll = pantry.count(10);
        DUE.sameText("plain, " + told + ", before", Told.row(pantry, 5), before);
        DUE.same("plain, " + told + ", told(" + jar + ", 4)", pantry.told(jar, 4), there);
        pantry.ask(jar);
        DUE.sameText("plain, " + told + ", after", Told.row(pantry, 5), after);
        DUE.same("plain, " + told + ", count(10)", pantry.count(10), thereInAll + there);
        DUE.same("plain, " + told + ", told(" + jar + ", 4) after", pantry.told(jar, 4), 1);
    }

    // ---- "each jar is in one of them at most", and no row has more than its room

    private static void eachJarInOneRow() {
        for (int room = 1; room <= 12; room++) {
            for (int many = 2 * room - 1; many <= 2 * room + 6; many++) {
                GhostPantry pantry = Made.asked(room);
                int next = room;
                for (int step = 0; step < 120; step++) {
                    next = (next * 7 + step * step + 3) % many;
                    pantry.ask(next);
                }
                oneRowAtMost("room " + room + " with " + many + " jars", pantry, room);
            }
        }
    }

    private static void oneRowAtMost(String told, GhostPantry pantry, int room) {
        int[] timesSeen = new int[30];
        for (int row = 1; row <= 4; row++) {
            int many = pantry.count(row);
            for (int place = 0; place < many; place++) {
                int jar = pantry.row(row, place);
                timesSeen[jar]++;
                DUE.same(told + ", told(" + jar + ", 0)", pantry.told(jar, 0), row);
                DUE.same(told + ", told(" + jar + ", 1)", pantry.told(jar, 1), place);
            }
        }
        for (int jar = 0; jar < 30; jar++) {
            DUE.is(told + ", jar " + jar + " is in " + timesSeen[jar] + " rows", timesSeen[jar] <= 1);
        }
        int live = pantry.count(1) + pantry.count(2);
        int ghosts = pantry.count(3) + pantry.count(4);
        DUE.is(told + ", " + live + " jars are there", live <= room);
        DUE.is(told + ", " + ghosts + " ghosts beside them", live + ghosts <= 2 * room);
        DUE.is(told + ", the plain one has " + pantry.count(5), pantry.count(5) <= room);
        DUE.is(told + ", the border is " + pantry.count(7), pantry.count(7) >= 0 && pantry.count(7) <= room);
    }

    // ---- promise 12: at each edge that was looked at, the one that is in rows 1 and 2 no more

    private static void leavesAtEachEdge() {
        for (Edge edge : LOOKED_AT) {
            GhostPantry pantry = Made.run(edge.room(), edge.calls());
            String there = liveJars(edge.after());
            int want = -1;
            for (String jar : liveJars(edge.before()).trim().split(" +")) {
                if (!jar.isEmpty() && !there.contains(" " + jar + " ")) {
                    want = Integer.parseInt(jar);
                }
            }
            DUE.same(edge.told() + ", leaves(" + edge.jar() + ")", pantry.leaves(edge.jar()), want);
            DUE.same(edge.told() + ", leaves again", pantry.leaves(edge.jar()), want);
            DUE.sameText(edge.told() + ", after leaves", Told.state(pantry), edge.before());
        }
        DUE.is("edges looked at for leaves: " + LOOKED_AT.size(), LOOKED_AT.size() > 40);
    }

    private static String liveJars(String state) {
        String[] rows = state.split("\\|", -1);
        return " " + rows[0] + " " + rows[1] + " ";
    }
}
