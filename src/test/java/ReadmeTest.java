/** The calls of README.md's example, in its order, answer what it says there. */
final class ReadmeTest {
    public static void main(String[] args) {
        Due due = new Due("ReadmeTest");
        GhostPantry pantry = new GhostPantry();
        due.same("setRoom(2)", pantry.setRoom(2), 6);
        due.same("ask(7)", pantry.ask(7), 0);
        due.same("ask(7) again", pantry.ask(7), 1);
        due.same("ask(8)", pantry.ask(8), 0);
        due.same("leaves(9)", pantry.leaves(9), 8);
        due.same("ask(9)", pantry.ask(9), 0);
        due.same("told(8, 0)", pantry.told(8, 0), 3);
        due.same("ask(8) again", pantry.ask(8), 3);
        due.same("count(7)", pantry.count(7), 1);
        due.same("row(4, 0)", pantry.row(4, 0), 7);
        due.same("sweep()", pantry.sweep(), 1);
        due.same("spoil(9)", pantry.spoil(9), 1);
        due.same("add(8)", pantry.add(8), 1);
        due.same("add(7)", pantry.add(7), 2);
        due.same("foresee(2)", pantry.foresee(2), 3);
        due.same("plain(2)", pantry.plain(2), 3);
        due.same("best(2)", pantry.best(2), 2);
        due.same("cook()", pantry.cook(), 1);
        due.sameReal("mean()", pantry.mean(), 2.0 / 7.0);
        due.same("drop(0)", pantry.drop(0), 8);
        due.same("digest()", pantry.digest(), Told.digest(pantry));
        due.close();
    }
}
