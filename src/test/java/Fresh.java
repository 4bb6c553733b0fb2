import java.util.List;

/** Objects of one net: a new one before the last has been asked too often, for behind 512 calls all is free. */
final class Fresh {
    private static final int CALLS = 512;

    private final int n;
    private final List<int[]> roads;
    private RunnerNet last;
    private int left;

    /** A road is from, to, and 1 if it goes both ways. */
    Fresh(int n, List<int[]> roads) {
        this.n = n;
        this.roads = roads;
    }

    /** For one call. */
    RunnerNet x() {
        return forCalls(1);
    }

    /** For so many calls, all of the same object. */
    RunnerNet forCalls(int calls) {
        if (left < calls) {
            last = Nets.bare(n);
            for (int[] road : roads) {
                last.road(road[0], road[1], road[2] == 1, true);
            }
            left = CALLS - roads.size() - 2;
        }
        left -= calls;
        return last;
    }
}
