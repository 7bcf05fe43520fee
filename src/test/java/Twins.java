/** Objects in known states, and a comparison of two of them that tells whether a call changed one. */
final class Twins {
    // Beside the nearest and the utmost ones: those that a narrower type (256, 65536) or a
    // product with 10 or 180 that wraps around (1 << 30, 429496730) would take for a right one.
    static final int[] NO_REPLICAS =
        {-1, 3, 256, 65536, 1 << 30, 429496730, Integer.MIN_VALUE, Integer.MAX_VALUE};
    static final int[] NO_NODES =
        {-1, 10, 261, 65541, Integer.MIN_VALUE, Integer.MIN_VALUE + 5, Integer.MAX_VALUE};

    private Twins() {
    }

    /**
     * Nine changes, and no two replicas know the same ones; at each the greatest stamp number
     * is 5, so that a stamp that is off by one shows in the next race.
     */
    static MoveTree inUse() {
        MoveTree x = new MoveTree();
        x.move(0, 1, 0);
        x.move(0, 2, 1);
        x.name(0, 3, 33);
        x.sync(0, 1);
        x.sync(0, 2);
        x.move(0, 3, 2);
        x.move(1, 2, 3);
        x.name(2, 0, 7);
        x.move(0, 4, 4);
        x.move(1, 3, 2);
        x.move(2, 9, 3);
        x.deliver(0, 2);
        return x;
    }

    /** Sixty changes: those of inUse and 51 namings in turn. */
    static MoveTree full() {
        MoveTree x = inUse();
        for (int i = 0; i < 51; i++) {
            x.name(i % 3, i % 10, i);
        }
        return x;
    }

    /** Holds both to the same answers; afterwards both have been changed. At most 350 calls. */
    static void dueSame(String when, MoveTree x, MoveTree twin) {
        dueSameShown(when, x, twin);
        race(when, x, twin);
        dueSameKnown(when, x, twin);
        dueSameShown(when + ", all told to all", x, twin);
        for (int i = 0; i < 52; i++) {
            due("name(1, 8, " + i + ")", when, x.name(1, 8, i), twin.name(1, 8, i));
        }
    }

    private static void dueSameShown(String when, MoveTree x, MoveTree twin) {
        for (int r = 0; r < 3; r++) {
            for (int n = 0; n < 10; n++) {
                String at = "(" + r + ", " + n + ")";
                due("parent" + at, when, x.parent(r, n), twin.parent(r, n));
                due("label" + at, when, x.label(r, n), twin.label(r, n));
                due("children" + at, when, x.children(r, n), twin.children(r, n));
                due("depth" + at, when, x.depth(r, n), twin.depth(r, n));
            }
            due("skipped(" + r + ")", when, x.skipped(r), twin.skipped(r));
            for (int s = 0; s < 3; s++) {
                due("alike(" + r + ", " + s + ")", when, x.alike(r, s), twin.alike(r, s));
            }
        }
    }

    /** Who wins node 5 tells if 0 or 1 has too great a stamp, who wins node 6 if 2 has. */
    private static void race(String when, MoveTree x, MoveTree twin) {
        int[][] namings = {{0, 5}, {1, 5}, {2, 5}, {0, 6}, {0, 6}, {2, 6}};
        for (int i = 0; i < namings.length; i++) {
            int r = namings[i][0];
            int n = namings[i][1];
            due("name(" + r + ", " + n + ", " + i + ")", when, x.name(r, n, i), twin.name(r, n, i));
        }
    }

    private static void dueSameKnown(String when, MoveTree x, MoveTree twin) {
        for (int from = 0; from < 3; from++) {
            for (int to = 0; to < 3; to++) {
                String at = "(" + from + ", " + to + ")";
                due("deliver" + at, when, x.deliver(from, to), twin.deliver(from, to));
            }
        }
        for (int from = 0; from < 3; from++) {
            for (int to = 0; to < 3; to++) {
                String at = "(" + from + ", " + to + ")";
                due("sync" + at, when, x.sync(from, to), twin.sync(from, to));
            }
        }
    }

    private static void due(String call, String when, int got, int want) {
        Answers.due(call + " " + when, got, want);
    }
}
