import java.util.ArrayList;
import java.util.List;

/**
 * The document's words once more, for RunsTest: written apart from the class and in another way
 * (jars carry their row, lists are sorted by when a jar came there), so that both are hardly wrong alike.
 */
final class Model {
    private static final class World {
        int room = 6;
        int border = 0;
        int clock = 0;
        /** Of each jar: its row (0 to 4), and when it came to the front of it. */
        final int[] in = new int[30];
        final int[] since = new int[30];
        /** Of each jar: when the plain pantry was asked for it, 0 if it is not there. */
        final int[] latest = new int[30];

        World copy() {
            World other = new World();
            other.room = room;
            other.border = border;
            other.clock = clock;
            System.arraycopy(in, 0, other.in, 0, 30);
            System.arraycopy(since, 0, other.since, 0, 30);
            System.arraycopy(latest, 0, other.latest, 0, 30);
            return other;
        }

        List<Integer> row(int number) {
            List<Integer> jars = new ArrayList<>();
            for (int jar = 0; jar < 30; jar++) {
                if (number == 5 ? latest[jar] > 0 : in[jar] == number) {
                    jars.add(jar);
                }
            }
            int[] stamps = number == 5 ? latest : since;
            jars.sort((one, other) -> Integer.compare(stamps[other], stamps[one]));
            return jars;
        }

        int many(int number) {
            return row(number).size();
        }

        int last(int number) {
            List<Integer> jars = row(number);
            return jars.get(jars.size() - 1);
        }

        void front(int jar, int number) {
            in[jar] = number;
            since[jar] = ++clock;
        }

        void makeRoom(boolean forFrequentGhost) {
            int recent = many(1);
            int frequent = many(2);
            if (recent + frequent != room) {
                return;
            }
            if (recent > 0 && recent > border) {
                front(last(1), 3);
            } else if (recent > 0 && recent == border && forFrequentGhost) {
                front(last(1), 3);
            } else if (frequent > 0) {
                front(last(2), 4);
            } else {
                front(last(1), 3);
            }
        }

        int ask(int jar) {
            int where = in[jar];
            if (where == 3) {
                border += Math.max(1, many(4) / many(3));
                border = border > room ? room : border;
                makeRoom(false);
            }
            if (where == 4) {
                border -= Math.max(1, many(3) / many(4));
                border = border < 0 ? 0 : border;
                makeRoom(true);
            }
            if (where == 0) {
                newJar();
            }
            front(jar, where == 0 ? 1 : 2);
            return where;
        }

        private void newJar() {
            int all = many(1) + many(2) + many(3) + many(4);
            if (many(1) + many(3) == room && many(3) > 0) {
                in[last(3)] = 0;
                makeRoom(false);
            } else if (many(1) + many(3) == room) {
                in[last(1)] = 0;
            } else if (all >= room) {
                if (all == 2 * room) {
                    in[last(4)] = 0;
                }
                makeRoom(false);
            }
        }

        boolean askPlain(int jar) {
            boolean there = latest[jar] > 0;
            if (!there && many(5) == room) {
                latest[last(5)] = 0;
            }
            latest[jar] = ++clock;
            return there;
        }
    }

    private World world = new World();
    private final List<Integer> menu = new ArrayList<>();
    private final int[] asked = new int[30];
    private final int[] there = new int[30];
    private int plainThere = 0;
    private int moved = 0;

    private static void index(boolean holds) {
        if (!holds) {
            throw new IndexOutOfBoundsException();
        }
    }

    private static void argument(boolean holds) {
        if (!holds) {
            throw new IllegalArgumentException();
        }
    }

    private static void state(boolean holds) {
        if (!holds) {
            throw new IllegalStateException();
        }
    }

    private static boolean isJar(int jar) {
        return 0 <= jar && jar <= 29;
    }

    private static int sum(int[] numbers) {
        int sum = 0;
        for (int number : numbers) {
            sum += number;
        }
        return sum;
    }

    int setRoom(int room) {
        argument(1 <= room && room <= 12);
        int before = world.room;
        world = new World();
        world.room = room;
        return before;
    }

    int ask(int jar) {
        index(isJar(jar));
        int border = world.border;
        int where = world.ask(jar);
        moved += Math.abs(world.border - border);
        asked[jar]++;
        there[jar] += where == 1 || where == 2 ? 1 : 0;
        plainThere += world.askPlain(jar) ? 1 : 0;
        return where;
    }

    int spoil(int jar) {
        index(isJar(jar));
        int where = world.in[jar];
        state(where == 1 || where == 2);
        world.in[jar] = 0;
        return where;
    }

    int sweep() {
        int ghosts = world.many(3) + world.many(4);
        for (int jar = 0; jar < 30; jar++) {
            world.in[jar] = world.in[jar] > 2 ? 0 : world.in[jar];
        }
        return ghosts;
    }

    int add(int jar) {
        index(isJar(jar));
        state(menu.size() < 30);
        menu.add(jar);
        return menu.size();
    }

    int drop(int place) {
        index(0 <= place && place < menu.size());
        return menu.remove(place);
    }

    int cook() {
        int before = sum(there);
        for (int jar : menu) {
            ask(jar);
        }
        return sum(there) - before;
    }

    int told(int jar, int what) {
        index(isJar(jar) && 0 <= what && what <= 4);
        int where = world.in[jar];
        int[] all = {where, where == 0 ? -1 : world.row(where).indexOf(jar), asked[jar], there[jar],
            world.latest[jar] > 0 ? 1 : 0};
        return all[what];
    }

    private List<Integer> rowOrMenu(int row) {
        return row == 6 ? menu : world.row(row);
    }

    int row(int row, int place) {
        index(1 <= row && row <= 6);
        index(0 <= place && place < rowOrMenu(row).size());
        return rowOrMenu(row).get(place);
    }

    int count(int what) {
        index(0 <= what && what <= 11);
        int[] all = {world.room, world.many(1), world.many(2), world.many(3), world.many(4),
            world.many(5), menu.size(), world.border, sum(asked), sum(there), plainThere, moved};
        return all[what];
    }

    int leaves(int jar) {
        index(isJar(jar));
        World then = world.copy();
        then.ask(jar);
        for (int other = 0; other < 30; other++) {
            boolean was = world.in[other] == 1 || world.in[other] == 2;
            boolean is = then.in[other] == 1 || then.in[other] == 2;
            if (was && !is) {
                return other;
            }
        }
        return -1;
    }

    private int thereIn(World then, int times) {
        int many = 0;
        for (int time = 0; time < times; time++) {
            for (int jar : menu) {
                int where = then.ask(jar);
                many += where == 1 || where == 2 ? 1 : 0;
            }
        }
        return many;
    }

    int foresee(int times) {
        argument(1 <= times && times <= 9);
        return thereIn(world.copy(), times);
    }

    int plain(int times) {
        argument(1 <= times && times <= 9);
        World then = world.copy();
        int many = 0;
        for (int time = 0; time < times; time++) {
            for (int jar : menu) {
                many += then.askPlain(jar) ? 1 : 0;
            }
        }
        return many;
    }

    int best(int times) {
        argument(1 <= times && times <= 9);
        int best = -1;
        int most = 0;
        for (int room = 12; room >= 1 && !menu.isEmpty(); room--) {
            World then = new World();
            then.room = room;
            int many = thereIn(then, times);
            if (many >= most) {
                most = many;
                best = room;
            }
        }
        return best;
    }

    double mean() {
        return sum(asked) == 0 ? 0 : (double) sum(there) / sum(asked);
    }

    long digest() {
        long d = 1427;
        for (int what = 0; what <= 11; what++) {
            d = d * 31 + count(what);
        }
        for (int row = 1; row <= 6; row++) {
            for (int jar : rowOrMenu(row)) {
                d = d * 31 + jar;
            }
        }
        for (int jar = 0; jar < 30; jar++) {
            d = (d * 31 + asked[jar]) * 31 + there[jar];
        }
        return d;
    }
}
