/**
 * A pantry with ghosts of eaten jars: it adapts between jars asked for lately and jars asked for
 * often, and knows beside it a plain pantry that keeps what was asked for latest.
 */
public final class GhostPantry {
    private static final int JARS = 30;
    private static final int MENU_LIMIT = 30;
    private static final int FIRST_ROOM = 6;
    private static final int LEAST_ROOM = 1;
    private static final int MOST_ROOM = 12;
    private static final int MOST_TIMES = 9;

    private static final int NONE = -1;

    private static final int NOWHERE = 0;
    private static final int RECENT = 1;
    private static final int FREQUENT = 2;
    private static final int RECENT_GHOSTS = 3;
    private static final int FREQUENT_GHOSTS = 4;
    private static final int PLAIN = 5;
    private static final int MENU = 6;

    private static final int COUNTS = 12;

    /** Jars one behind the other; all rows but the menu hold a jar at most once, so JARS is enough. */
    private static final class Row {
        private final int[] jars;
        private int size;

        Row(int most) {
            jars = new int[most < 0 ? 0 : most];
            size = 0;
        }

        int length() {
            return size;
        }

        int jarAt(int place) {
            if (place < 0 || place >= size || place >= jars.length) {
                return NONE;
            }
            return jars[place];
        }

        int placeOf(int jar) {
            for (int place = 0; place < size && place < jars.length; place++) {
                if (jars[place] == jar) {
                    return place;
                }
            }
            return NONE;
        }

        void putFirst(int jar) {
            if (size < 0 || size >= jars.length) {
                return;
            }
            if (size > 0) {
                System.arraycopy(jars, 0, jars, 1, size);
            }
            jars[0] = jar;
            size++;
        }

        void putLast(int jar) {
            if (size < 0 || size >= jars.length) {
                return;
            }
            jars[size] = jar;
            size++;
        }

        int takeLast() {
            if (size <= 0 || size > jars.length) {
                return NONE;
            }
            size--;
            return jars[size];
        }

        int takeAt(int place) {
            if (place < 0 || place >= size || size > jars.length) {
                return NONE;
            }
            int jar = jars[place];
            int behind = size - place - 1;
            if (behind > 0) {
                System.arraycopy(jars, place + 1, jars, place, behind);
            }
            size--;
            return jar;
        }

        void clear() {
            size = 0;
        }

        void copyFrom(Row other) {
            int many = other.size;
            if (many < 0 || many > jars.length || many > other.jars.length) {
                return;
            }
            System.arraycopy(other.jars, 0, jars, 0, many);
            size = many;
        }
    }

    /** The four rows with their room and border, without any tally: so a trial can copy it. */
    private static final class Shelves {
        private final Row recent;
        private final Row frequent;
        private final Row recentGhosts;
        private final Row frequentGhosts;
        private int room;
        private int border;
        private int leaver;

        Shelves() {
            recent = new Row(JARS);
            frequent = new Row(JARS);
            recentGhosts = new Row(JARS);
            frequentGhosts = new Row(JARS);
            room = FIRST_ROOM;
            border = 0;
            leaver = NONE;
        }

        void startAnew(int newRoom) {
            recent.clear();
            frequent.clear();
            recentGhosts.clear();
            frequentGhosts.clear();
            room = newRoom;
            border = 0;
            leaver = NONE;
        }

        void copyFrom(Shelves other) {
            recent.copyFrom(other.recent);
            frequent.copyFrom(other.frequent);
            recentGhosts.copyFrom(other.recentGhosts);
            frequentGhosts.copyFrom(other.frequentGhosts);
            room = other.room;
            border = other.border;
            leaver = other.leaver;
        }

        Row rowAt(int where) {
            switch (where) {
                case RECENT:
                    return recent;
                case FREQUENT:
                    return frequent;
                case RECENT_GHOSTS:
                    return recentGhosts;
                case FREQUENT_GHOSTS:
                    return frequentGhosts;
                default:
                    return null;
            }
        }

        int whereIs(int jar) {
            for (int where = RECENT; where <= FREQUENT_GHOSTS; where++) {
                Row candidate = rowAt(where);
                if (candidate != null && candidate.placeOf(jar) != NONE) {
                    return where;
                }
            }
            return NOWHERE;
        }

        /** Serves a jar that is asked for, and answers where it was. */
        int serve(int jar) {
            int where = whereIs(jar);
            Row from = rowAt(where);
            leaver = NONE;
            if (from == null) {
                makeWayForNewJar();
                recent.putFirst(jar);
                return where;
            }
            // The ghost is still in its row here: it counts for the step, and room comes before it goes.
            if (where == RECENT_GHOSTS) {
                border = Math.min(room, border + step(frequentGhosts, recentGhosts));
                makeRoom(false);
            } else if (where == FREQUENT_GHOSTS) {
                border = Math.max(0, border - step(recentGhosts, frequentGhosts));
                makeRoom(true);
            }
            from.takeAt(from.placeOf(jar));
            frequent.putFirst(jar);
            return where;
        }

        private int step(Row otherGhosts, Row ownGhosts) {
            int own = ownGhosts.length();
            if (own <= 0) {
                return 1;
            }
            return Math.max(1, otherGhosts.length() / own);
        }

        private void makeWayForNewJar() {
            int recentAndGhosts = recent.length() + recentGhosts.length();
            int all = recentAndGhosts + frequent.length() + frequentGhosts.length();
            if (recentAndGhosts == room) {
                if (recentGhosts.length() > 0) {
                    recentGhosts.takeLast();
                    makeRoom(false);
                } else {
                    leaver = recent.takeLast();
                }
            } else if (all >= room) {
                if (all == 2 * room) {
                    frequentGhosts.takeLast();
                }
                makeRoom(false);
            }
        }

        private void makeRoom(boolean forFrequentGhost) {
            int many = recent.length();
            if (many + frequent.length() != room) {
                return;
            }
            boolean overBorder = many > border || (forFrequentGhost && many == border);
            boolean recentGoes = (many > 0 && overBorder) || frequent.length() == 0;
            Row from = recentGoes ? recent : frequent;
            Row to = recentGoes ? recentGhosts : frequentGhosts;
            leaver = from.takeLast();
            if (leaver != NONE) {
                to.putFirst(leaver);
            }
        }
    }

    private final Shelves shelves;
    private final Row plainRow;
    private final Row menu;
    private final int[] askedOf;
    private final int[] thereOf;
    private int askedInAll;
    private int thereInAll;
    private int plainInAll;
    private int borderMoved;

    // Made once and used by every look ahead, as what a run makes is counted.
    private final Shelves trialShelves;
    private final Row trialPlainRow;

    public GhostPantry() {
        shelves = new Shelves();
        plainRow = new Row(JARS);
        menu = new Row(MENU_LIMIT);
        askedOf = new int[JARS];
        thereOf = new int[JARS];
        askedInAll = 0;
        thereInAll = 0;
        plainInAll = 0;
        borderMoved = 0;
        trialShelves = new Shelves();
        trialPlainRow = new Row(JARS);
    }

    // ---- rooms and jars

    public int setRoom(int room) throws IllegalArgumentException {
        if (room < LEAST_ROOM || room > MOST_ROOM) {
            throw new IllegalArgumentException("room is not 1 to 12");
        }
        int before = shelves.room;
        shelves.startAnew(room);
        plainRow.clear();
        return before;
    }

    public int ask(int jar) throws IndexOutOfBoundsException {
        checkJar(jar);
        return request(jar);
    }

    public int spoil(int jar) throws IndexOutOfBoundsException, IllegalStateException {
        checkJar(jar);
        int where = shelves.whereIs(jar);
        Row from = shelves.rowAt(where);
        if (from == null || !isThere(where)) {
            throw new IllegalStateException("the jar is not in the pantry");
        }
        from.takeAt(from.placeOf(jar));
        return where;
    }

    public int sweep() {
        int ghosts = shelves.recentGhosts.length() + shelves.frequentGhosts.length();
        shelves.recentGhosts.clear();
        shelves.frequentGhosts.clear();
        return ghosts;
    }

    // ---- the menu

    public int add(int jar) throws IndexOutOfBoundsException, IllegalStateException {
        checkJar(jar);
        if (menu.length() >= MENU_LIMIT) {
            throw new IllegalStateException("the menu has 30 jars");
        }
        menu.putLast(jar);
        return menu.length();
    }

    public int drop(int place) throws IndexOutOfBoundsException {
        if (place < 0 || place >= menu.length()) {
            throw new IndexOutOfBoundsException("the menu has no such place");
        }
        return menu.takeAt(place);
    }

    public int cook() {
        int there = 0;
        for (int place = 0; place < menu.length(); place++) {
            if (isThere(request(menu.jarAt(place)))) {
                there++;
            }
        }
        return there;
    }

    // ---- what is there

    public int told(int jar, int what) throws IndexOutOfBoundsException {
        checkJar(jar);
        switch (what) {
            case 0:
                return shelves.whereIs(jar);
            case 1:
                Row its = shelves.rowAt(shelves.whereIs(jar));
                return its == null ? NONE : its.placeOf(jar);
            case 2:
                return tallyOf(askedOf, jar);
            case 3:
                return tallyOf(thereOf, jar);
            case 4:
                return plainRow.placeOf(jar) == NONE ? 0 : 1;
            default:
                throw new IndexOutOfBoundsException("what is not 0 to 4");
        }
    }

    public int row(int row, int place) throws IndexOutOfBoundsException {
        Row its = rowNumbered(row);
        if (its == null) {
            throw new IndexOutOfBoundsException("row is not 1 to 6");
        }
        if (place < 0 || place >= its.length()) {
            throw new IndexOutOfBoundsException("the row has no such place");
        }
        return its.jarAt(place);
    }

    public int count(int what) throws IndexOutOfBoundsException {
        Row its = rowNumbered(what);
        if (its != null) {
            return its.length();
        }
        switch (what) {
            case 0:
                return shelves.room;
            case 7:
                return shelves.border;
            case 8:
                return askedInAll;
            case 9:
                return thereInAll;
            case 10:
                return plainInAll;
            case 11:
                return borderMoved;
            default:
                throw new IndexOutOfBoundsException("what is not 0 to 11");
        }
    }

    // ---- what would be

    public int leaves(int jar) throws IndexOutOfBoundsException {
        checkJar(jar);
        trialShelves.copyFrom(shelves);
        trialShelves.serve(jar);
        return trialShelves.leaver;
    }

    public int foresee(int times) throws IllegalArgumentException {
        checkTimes(times);
        trialShelves.copyFrom(shelves);
        return thereOnTrial(times);
    }

    public int plain(int times) throws IllegalArgumentException {
        checkTimes(times);
        trialPlainRow.copyFrom(plainRow);
        int there = 0;
        for (int time = 0; time < times; time++) {
            for (int place = 0; place < menu.length(); place++) {
                if (servePlain(trialPlainRow, shelves.room, menu.jarAt(place))) {
                    there++;
                }
            }
        }
        return there;
    }

    public int best(int times) throws IllegalArgumentException {
        checkTimes(times);
        if (menu.length() == 0) {
            return NONE;
        }
        int bestRoom = NONE;
        int mostThere = NONE;
        for (int room = LEAST_ROOM; room <= MOST_ROOM; room++) {
            trialShelves.startAnew(room);
            int there = thereOnTrial(times);
            if (there > mostThere) {
                mostThere = there;
                bestRoom = room;
            }
        }
        return bestRoom;
    }

    public double mean() {
        if (askedInAll == 0) {
            return 0.0;
        }
        return (double) thereInAll / (double) askedInAll;
    }

    public long digest() {
        long d = 1427L;
        for (int what = 0; what < COUNTS; what++) {
            d = d * 31L + count(what);
        }
        for (int number = RECENT; number <= MENU; number++) {
            Row its = rowNumbered(number);
            for (int place = 0; its != null && place < its.length(); place++) {
                d = d * 31L + its.jarAt(place);
            }
        }
        for (int jar = 0; jar < JARS; jar++) {
            d = d * 31L + tallyOf(askedOf, jar);
            d = d * 31L + tallyOf(thereOf, jar);
        }
        return d;
    }

    // ---- what the calls share

    /** Asks for a jar in both pantries and tallies it; answers where it was in the one with ghosts. */
    private int request(int jar) {
        int borderBefore = shelves.border;
        int where = shelves.serve(jar);
        borderMoved += Math.abs(shelves.border - borderBefore);
        askedInAll++;
        addOne(askedOf, jar);
        if (isThere(where)) {
            thereInAll++;
            addOne(thereOf, jar);
        }
        if (servePlain(plainRow, shelves.room, jar)) {
            plainInAll++;
        }
        return where;
    }

    /** Cooks the menu so often with the trial's shelves; answers how many jars were there. */
    private int thereOnTrial(int times) {
        int there = 0;
        for (int time = 0; time < times; time++) {
            for (int place = 0; place < menu.length(); place++) {
                if (isThere(trialShelves.serve(menu.jarAt(place)))) {
                    there++;
                }
            }
        }
        return there;
    }

    /** Serves a jar from a plain pantry's row, and answers whether it was there. */
    private static boolean servePlain(Row kept, int room, int jar) {
        int place = kept.placeOf(jar);
        boolean there = place != NONE;
        if (there) {
            kept.takeAt(place);
        } else if (kept.length() >= room) {
            kept.takeLast();
        }
        kept.putFirst(jar);
        return there;
    }

    private Row rowNumbered(int number) {
        if (number == PLAIN) {
            return plainRow;
        }
        if (number == MENU) {
            return menu;
        }
        return shelves.rowAt(number);
    }

    private static boolean isThere(int where) {
        return where == RECENT || where == FREQUENT;
    }

    private static int tallyOf(int[] tallies, int jar) {
        return jar < 0 || jar >= tallies.length ? 0 : tallies[jar];
    }

    private static void addOne(int[] tallies, int jar) {
        if (jar >= 0 && jar < tallies.length) {
            tallies[jar]++;
        }
    }

    private static void checkJar(int jar) {
        if (jar < 0 || jar >= JARS) {
            throw new IndexOutOfBoundsException("jar is not 0 to 29");
        }
    }

    private static void checkTimes(int times) {
        if (times < 1 || times > MOST_TIMES) {
            throw new IllegalArgumentException("times is not 1 to 9");
        }
    }
}
