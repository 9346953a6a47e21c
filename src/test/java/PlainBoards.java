import java.util.ArrayList;
import java.util.Arrays;
import java.util.HashMap;
import java.util.HashSet;
import java.util.LinkedHashMap;
import java.util.List;
import java.util.Map;
import java.util.Set;
import java.util.TreeSet;

/**
 * The document's words once more, told as directly as the Java library lets us and without a thought
 * for speed; ModelTest compares the program with it.
 */
final class PlainBoards {
    private static final List<List<Integer>> SQUARE = List.of(
            List.of(0, 1), List.of(1, 0), List.of(0, -1), List.of(-1, 0));
    private static final List<List<Integer>> TRIANGULAR = List.of(
            List.of(0, 1), List.of(1, 0), List.of(1, -1),
            List.of(0, -1), List.of(-1, 0), List.of(-1, 1));

    private boolean triangular;
    private boolean frozen;
    private final TreeSet<Integer> drawn = new TreeSet<>();
    private List<List<Integer>> holes = new ArrayList<>();
    private List<List<Integer>> jumps = new ArrayList<>();
    private List<List<Integer>> symmetries = new ArrayList<>();
    private int[] weights = new int[0];
    private int start;
    private int goal;

    /** Of each position found, in the order of the numbers: from where, and by which jump. */
    private final Map<Integer, List<Integer>> found = new LinkedHashMap<>();
    private boolean met;

    void clear(boolean onTriangles) {
        triangular = onTriangles;
        frozen = false;
        drawn.clear();
        holes = new ArrayList<>();
        jumps = new ArrayList<>();
        symmetries = new ArrayList<>();
        weights = new int[0];
        start = 0;
        goal = 0;
    }

    int hole(int r, int c) {
        argument(r >= 0 && r <= 7 && c >= 0 && c <= 7);
        state(!frozen && !drawn.contains(10 * r + c) && drawn.size() < 20);
        drawn.add(10 * r + c);
        return drawn.size();
    }

    int freeze() {
        state(!frozen && !drawn.isEmpty());
        frozen = true;
        for (int place : drawn) {
            holes.add(List.of(place / 10, place % 10));
        }
        weights = new int[holes.size()];
        for (List<Integer> hole : holes) {
            for (List<Integer> d : triangular ? TRIANGULAR : SQUARE) {
                List<Integer> over = List.of(hole.get(0) + d.get(0), hole.get(1) + d.get(1));
                List<Integer> to = List.of(over.get(0) + d.get(0), over.get(1) + d.get(1));
                if (holes.contains(over) && holes.contains(to)) {
                    jumps.add(List.of(
                            holes.indexOf(hole), holes.indexOf(over), holes.indexOf(to)));
                }
            }
        }
        for (int k = 0; k < (triangular ? 12 : 8); k++) {
            addSymmetry(k);
        }
        return jumps.size();
    }

    private void addSymmetry(int k) {
        int n = triangular ? 6 : 4;
        List<int[]> places = new ArrayList<>();
        for (List<Integer> hole : holes) {
            int[] p = {hole.get(0), hole.get(1)};
            for (int i = 0; i < k % n; i++) {
                p = triangular ? new int[] {p[0] + p[1], -p[0]} : new int[] {p[1], -p[0]};
            }
            places.add(k >= n ? new int[] {p[1], p[0]} : p);
        }
        int down = least(0, holes) - places.stream().mapToInt(p -> p[0]).min().getAsInt();
        int right = least(1, holes) - places.stream().mapToInt(p -> p[1]).min().getAsInt();
        List<List<Integer>> image = new ArrayList<>();
        for (int[] p : places) {
            image.add(List.of(p[0] + down, p[1] + right));
        }
        if (new HashSet<>(image).equals(new HashSet<>(holes))) {
            List<Integer> numbers = new ArrayList<>();
            for (List<Integer> place : image) {
                numbers.add(holes.indexOf(place));
            }
            symmetries.add(numbers);
        }
    }

    private static int least(int part, List<List<Integer>> places) {
        return places.stream().mapToInt(p -> p.get(part)).min().getAsInt();
    }

    int at(int r, int c) {
        return holes.indexOf(List.of(r, c));
    }

    int jump(int k, int what) {
        index(k >= 0 && k < jumps.size() && what >= 0 && what <= 2);
        return jumps.get(k).get(what);
    }

    void place(boolean asGoal, int position) {
        position(position);
        if (asGoal) {
            goal = position;
        } else {
            start = position;
        }
    }

    int after(int position, int k) {
        index(k >= 0 && k < jumps.size());
        position(position);
        Set<Integer> pegs = pegs(position);
        List<Integer> jump = jumps.get(k);
        if (!pegs.contains(jump.get(0)) || !pegs.contains(jump.get(1))
                || pegs.contains(jump.get(2))) {
            return -1;
        }
        pegs.remove(jump.get(0));
        pegs.remove(jump.get(1));
        pegs.add(jump.get(2));
        return number(pegs);
    }

    int count(int limit) {
        reach(limit);
        return met ? -2 : found.size();
    }

    int solve(int limit) {
        reach(limit);
        return found.containsKey(goal) ? 1 : met ? -2 : 0;
    }

    int way(int limit, int i) {
        reach(limit);
        List<Integer> way = new ArrayList<>();
        if (found.containsKey(goal)) {
            for (int p = goal; p != start; p = found.get(p).get(0)) {
                way.add(0, found.get(p).get(1));
            }
        }
        return i >= 0 && i < way.size() ? way.get(i) : -1;
    }

    int moves(int limit) {
        reach(limit);
        if (met) {
            return -2;
        }
        int result = movesFrom(start, -1, new HashMap<>());
        return result == Integer.MAX_VALUE ? -1 : result;
    }

    /** The fewest moves still to be begun when the last jump went to a hole. */
    private int movesFrom(int position, int last, Map<List<Integer>, Integer> known) {
        if (position == goal) {
            return 0;
        }
        List<Integer> key = List.of(position, last);
        if (known.containsKey(key)) {
            return known.get(key);
        }
        int best = Integer.MAX_VALUE;
        for (int k = 0; k < jumps.size(); k++) {
            int next = after(position, k);
            if (next != -1) {
                int rest = movesFrom(next, jumps.get(k).get(2), known);
                if (rest != Integer.MAX_VALUE) {
                    best = Math.min(best, rest + (jumps.get(k).get(0) == last ? 0 : 1));
                }
            }
        }
        known.put(key, best);
        return best;
    }

    int classes(int limit) {
        reach(limit);
        Set<Integer> leasts = new HashSet<>();
        for (int p : found.keySet()) {
            leasts.add(least(p));
        }
        return met ? -2 : leasts.size();
    }

    int symmetries() {
        return symmetries.size();
    }

    int image(int k, int hole) {
        index(k >= 0 && k < symmetries.size() && hole >= 0 && hole < holes.size());
        return symmetries.get(k).get(hole);
    }

    int least(int position) {
        position(position);
        state(frozen);
        int result = Integer.MAX_VALUE;
        for (List<Integer> symmetry : symmetries) {
            Set<Integer> image = new HashSet<>();
            for (int hole : pegs(position)) {
                image.add(symmetry.get(hole));
            }
            result = Math.min(result, number(image));
        }
        return result;
    }

    int parity(int position) {
        position(position);
        int a = 0;
        int b = 0;
        int c = 0;
        int d = 0;
        for (int hole : pegs(position)) {
            int up = (holes.get(hole).get(0) + holes.get(hole).get(1)) % 3;
            int down = (holes.get(hole).get(0) - holes.get(hole).get(1) + 9) % 3;
            a += up == 0 || up == 1 ? 1 : 0;
            b += up == 1 || up == 2 ? 1 : 0;
            c += down == 0 || down == 1 ? 1 : 0;
            d += down == 1 || down == 2 ? 1 : 0;
        }
        return triangular ? -1 : 8 * (a % 2) + 4 * (b % 2) + 2 * (c % 2) + d % 2;
    }

    void weight(int hole, int w) {
        index(hole >= 0 && hole < holes.size());
        argument(w >= 0 && w <= 60);
        weights[hole] = w;
    }

    int weights(int what) {
        index(what >= 0 && what < 3 + holes.size());
        return what == 0 ? (hold(weights) ? 1 : 0)
                : what == 1 ? sum(start, weights)
                : what == 2 ? sum(goal, weights)
                : weights[what - 3];
    }

    boolean find() {
        state(frozen && holes.size() <= 8);
        int all = (int) Math.pow(3, holes.size());
        for (int i = 0; i < all; i++) {
            int[] tried = new int[holes.size()];
            int rest = i;
            for (int hole = holes.size() - 1; hole >= 0; hole--) {
                tried[hole] = rest % 3;
                rest /= 3;
            }
            if (hold(tried) && sum(goal, tried) > sum(start, tried)) {
                weights = tried;
                return true;
            }
        }
        return false;
    }

    private boolean hold(int[] w) {
        return jumps.stream().allMatch(j -> w[j.get(2)] <= w[j.get(0)] + w[j.get(1)]);
    }

    private int sum(int position, int[] w) {
        return pegs(position).stream().mapToInt(hole -> w[hole]).sum();
    }

    private void reach(int limit) {
        state(frozen);
        argument(limit >= 1 && limit <= 500);
        found.clear();
        met = false;
        List<Integer> order = new ArrayList<>(Arrays.asList(start));
        found.put(start, List.of(-1, -1));
        for (int i = 0; i < order.size(); i++) {
            for (int k = 0; k < jumps.size(); k++) {
                int next = after(order.get(i), k);
                if (next != -1 && !found.containsKey(next)) {
                    if (order.size() == limit) {
                        met = true;
                        return;
                    }
                    order.add(next);
                    found.put(next, List.of(order.get(i), k));
                }
            }
        }
    }

    private Set<Integer> pegs(int position) {
        Set<Integer> result = new TreeSet<>();
        for (int hole = 0; hole < 32; hole++) {
            if ((position >>> hole) % 2 != 0) {
                result.add(hole);
            }
        }
        return result;
    }

    private static int number(Set<Integer> pegs) {
        int result = 0;
        for (int hole : pegs) {
            result += 1 << hole;
        }
        return result;
    }

    private void position(int position) {
        argument(pegs(position).stream().allMatch(hole -> hole < holes.size()));
    }

    private static void argument(boolean right) {
        if (!right) {
            throw new IllegalArgumentException();
        }
    }

    private static void state(boolean right) {
        if (!right) {
            throw new IllegalStateException();
        }
    }

    private static void index(boolean right) {
        if (!right) {
            throw new IndexOutOfBoundsException();
        }
    }
}
