/** Tells the state of a pantry by the calls of its face, so that tests can compare it as text. */
final class Told {
    private Told() {
    }

    /** Rows 1 to 5, a bar behind each: "8|0 4||3|8 0|". */
    static String rows(GhostPantry pantry) {
        StringBuilder text = new StringBuilder();
        for (int row = 1; row <= 5; row++) {
            text.append(row(pantry, row)).append('|');
        }
        return text.toString();
    }

    /** Rows 1 to 5, the border, and how far it moved in all. */
    static String state(GhostPantry pantry) {
        return rows(pantry) + " border " + pantry.count(7) + " moved " + pantry.count(11);
    }

    static String row(GhostPantry pantry, int row) {
        StringBuilder text = new StringBuilder();
        int many = pantry.count(row);
        for (int place = 0; place < many; place++) {
            text.append(place == 0 ? "" : " ").append(pantry.row(row, place));
        }
        return text.toString();
    }

    static String counts(GhostPantry pantry) {
        StringBuilder text = new StringBuilder();
        for (int what = 0; what <= 11; what++) {
            text.append(what == 0 ? "" : " ").append(pantry.count(what));
        }
        return text.toString();
    }

    /** The checksum as promise 17 says it, from what the other calls tell. */
    static long digest(GhostPantry pantry) {
        long d = 1427;
        for (int what = 0; what <= 11; what++) {
            d = d * 31 + pantry.count(what);
        }
        for (int row = 1; row <= 6; row++) {
            int many = pantry.count(row);
            for (int place = 0; place < many; place++) {
                d = d * 31 + pantry.row(row, place);
            }
        }
        for (int jar = 0; jar < 30; jar++) {
            d = d * 31 + pantry.told(jar, 2);
            d = d * 31 + pantry.told(jar, 3);
        }
        return d;
    }
}
