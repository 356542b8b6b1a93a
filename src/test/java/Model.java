import java.util.ArrayList;
import java.util.Arrays;
import java.util.HashMap;
import java.util.List;
import java.util.Map;
import java.util.NoSuchElementException;
import java.util.TreeMap;
import java.util.regex.Matcher;
import java.util.regex.Pattern;

/**
 * The document once more, in the plainest way: it lists every reachable arrangement, and answers
 * by looking through the list. Nothing here is taken from the program.
 */
final class Model {
    private static final Pattern CYCLES =
        Pattern.compile(" *(\\( *(0|[1-9][0-9]?)( +(0|[1-9][0-9]?))* *\\) *)*");
    private static final Pattern CYCLE = Pattern.compile("\\(([^)]*)\\)");

    final List<List<Integer>> turns = new ArrayList<>();
    int n = 1;
    String text = "";
    List<Integer> arrangement = List.of(0);
    private List<Integer> solution = List.of();
    /** Every reachable arrangement with its distance, in the order of ranks; null when not listed. */
    private TreeMap<List<Integer>, Integer> reached;
    private List<List<Integer>> ranked;

    boolean stickers(int count) {
        if (count < 1 || count > 12) {
            return false;
        }
        n = count;
        turns.clear();
        reset();
        reached = null;
        return true;
    }

    boolean type(long w, int count) {
        if (count < 1 || count > 8) {
            return false;
        }
        StringBuilder more = new StringBuilder(text);
        for (int i = 0; i < count; i++) {
            more.append((char) (w >> 8 * i & 0xFF));
        }
        boolean good = more.length() <= 48 && more.chars().allMatch(c -> 32 <= c && c <= 126);
        text = good ? more.toString() : text;
        return good;
    }

    boolean cut(int count) {
        if (count < 0 || count > text.length()) {
            return false;
        }
        text = text.substring(0, count);
        return true;
    }

    int turn() {
        if (!CYCLES.matcher(text).matches()) {
            throw new IllegalArgumentException();
        }
        List<List<Integer>> cycles = new ArrayList<>();
        List<Integer> all = new ArrayList<>();
        Matcher cycle = CYCLE.matcher(text);
        while (cycle.find()) {
            List<Integer> places = new ArrayList<>();
            for (String number : cycle.group(1).trim().split(" +")) {
                places.add(Integer.parseInt(number));
            }
            cycles.add(places);
            all.addAll(places);
        }
        if (all.stream().anyMatch(p -> p >= n)) {
            throw new IndexOutOfBoundsException();
        }
        if (all.stream().distinct().count() != all.size()) {
            throw new IllegalStateException();
        }
        if (turns.size() == 5) {
            throw new UnsupportedOperationException();
        }
        turns.add(turnOf(cycles));
        reached = null;
        return turns.size() - 1;
    }

    private List<Integer> turnOf(List<List<Integer>> cycles) {
        List<Integer> turn = solved();
        for (List<Integer> cycle : cycles) {
            for (int i = 0; i < cycle.size(); i++) {
                turn.set(cycle.get(i), cycle.get((i + 1) % cycle.size()));
            }
        }
        return turn;
    }

    int turns() {
        return turns.size();
    }

    int image(int turn, int place) {
        return turns.get(turn).get(sticker(place));
    }

    void move(int move) {
        arrangement = moved(arrangement, turns.size() * 2 > move && move >= 0 ? move : refuse());
    }

    void swap(int a, int b) {
        int one = arrangement.indexOf(sticker(a));
        int other = arrangement.indexOf(sticker(b));
        arrangement = new ArrayList<>(arrangement);
        arrangement.set(one, b);
        arrangement.set(other, a);
    }

    void reset() {
        arrangement = solved();
    }

    int place(int sticker) {
        return arrangement.get(sticker(sticker));
    }

    long order() {
        return list().size();
    }

    int orbit(int k) {
        sticker(k);
        int places = 0;
        for (int p = 0; p < n; p++) {
            places += inOrbit(k, p) ? 1 : 0;
        }
        return places;
    }

    boolean inOrbit(int k, int p) {
        sticker(k);
        sticker(p);
        List<Integer> fixed = solved().subList(0, k);
        return list().keySet().stream().anyMatch(g -> g.get(k) == p && g.subList(0, k).equals(fixed));
    }

    boolean reachable() {
        return list().containsKey(arrangement);
    }

    long rank() {
        if (!reachable()) {
            throw new IllegalStateException();
        }
        return list().headMap(arrangement).size();
    }

    void unrank(long rank) {
        if (rank < 0 || rank >= list().size()) {
            throw new NoSuchElementException();
        }
        arrangement = ranked.get((int) rank);
    }

    /** Two places are in one class where a chain of pairs (g(j), g(l)) joins them. */
    int block(int j, int s) {
        sticker(j);
        sticker(s);
        int least = n;
        for (List<Integer> g : list().keySet()) {
            least = Math.min(least, g.get(j));
        }
        boolean[][] joined = new boolean[n][n];
        for (List<Integer> g : list().keySet()) {
            joined[g.get(j)][g.get(j)] = true;
            joined[g.get(j)][g.get(least)] = true;
            joined[g.get(least)][g.get(j)] = true;
        }
        for (int via = 0; via < n; via++) {
            for (int a = 0; a < n; a++) {
                for (int b = 0; b < n; b++) {
                    joined[a][b] |= joined[a][via] && joined[via][b];
                }
            }
        }
        for (int a = 0; a < n; a++) {
            if (joined[s][a]) {
                return a;
            }
        }
        return -1;
    }

    int diameter() {
        return few().values().stream().mapToInt(d -> d).max().getAsInt();
    }

    int atDistance(int d) {
        return (int) few().values().stream().filter(e -> e == d).count();
    }

    int solve() {
        few();
        if (!reachable()) {
            throw new IllegalStateException();
        }
        int distance = list().get(arrangement);
        solution = firstRow(arrangement, distance, new HashMap<>());
        return distance;
    }

    /** The first of all rows of just so many moves that solve; null if there is none. */
    private List<Integer> firstRow(List<Integer> from, int moves, Map<String, List<Integer>> known) {
        if (moves == 0) {
            return from.equals(solved()) ? List.of() : null;
        }
        String key = from + " " + moves;
        if (known.containsKey(key)) {
            return known.get(key);
        }
        List<Integer> row = null;
        for (int m = 0; m < 2 * turns.size() && row == null; m++) {
            List<Integer> behind = firstRow(moved(from, m), moves - 1, known);
            if (behind != null) {
                row = new ArrayList<>(List.of(m));
                row.addAll(behind);
            }
        }
        known.put(key, row);
        return row;
    }

    int solution(int i) {
        return i >= 0 && i < solution.size() ? solution.get(i) : -1;
    }

    int within(int limit) {
        if (limit < 0 || limit > 4) {
            throw new IllegalArgumentException();
        }
        Map<List<Integer>, Integer> near = new HashMap<>();
        near.put(arrangement, 0);
        List<List<Integer>> shell = List.of(arrangement);
        for (int d = 1; d <= limit; d++) {
            shell = nextShell(shell, d, near);
        }
        return near.getOrDefault(solved(), -1);
    }

    int write(int t) {
        List<Integer> turn = t == -1 ? arrangement : turns.get(t);
        StringBuilder cycles = new StringBuilder();
        List<Integer> written = new ArrayList<>();
        for (int p = 0; p < n; p++) {
            if (turn.get(p) != p && !written.contains(p)) {
                int q = p;
                do {
                    cycles.append(q == p ? "(" : " ").append(q);
                    written.add(q);
                    q = turn.get(q);
                } while (q != p);
                cycles.append(")");
            }
        }
        text = cycles.toString();
        return text.length();
    }

    int character(int i) {
        return i >= 0 && i < text.length() ? text.charAt(i) : 0;
    }

    /** Whether so many arrangements or fewer are reachable. */
    boolean fewerThan(int most) {
        Map<List<Integer>, Integer> near = new HashMap<>();
        near.put(solved(), 0);
        List<List<Integer>> shell = List.of(solved());
        for (int d = 1; !shell.isEmpty() && near.size() < most; d++) {
            shell = nextShell(shell, d, near);
        }
        return shell.isEmpty();
    }

    private TreeMap<List<Integer>, Integer> list() {
        if (reached == null) {
            reached = new TreeMap<>((a, b) -> Arrays.compare(a.toArray(new Integer[0]), b.toArray(new Integer[0])));
            Map<List<Integer>, Integer> near = new HashMap<>();
            near.put(solved(), 0);
            List<List<Integer>> shell = List.of(solved());
            for (int d = 1; !shell.isEmpty(); d++) {
                shell = nextShell(shell, d, near);
            }
            reached.putAll(near);
            ranked = new ArrayList<>(reached.keySet());
        }
        return reached;
    }

    private List<List<Integer>> nextShell(List<List<Integer>> shell, int d, Map<List<Integer>, Integer> near) {
        List<List<Integer>> next = new ArrayList<>();
        for (List<Integer> from : shell) {
            for (int m = 0; m < 2 * turns.size(); m++) {
                List<Integer> to = moved(from, m);
                if (near.putIfAbsent(to, d) == null) {
                    next.add(to);
                }
            }
        }
        return next;
    }

    private TreeMap<List<Integer>, Integer> few() {
        if (list().size() > 1500) {
            throw new UnsupportedOperationException();
        }
        return list();
    }

    private List<Integer> moved(List<Integer> from, int move) {
        List<Integer> turn = turns.get(move / 2);
        List<Integer> to = new ArrayList<>();
        for (int place : from) {
            to.add(move % 2 == 0 ? turn.get(place) : turn.indexOf(place));
        }
        return to;
    }

    private List<Integer> solved() {
        List<Integer> row = new ArrayList<>();
        for (int s = 0; s < n; s++) {
            row.add(s);
        }
        return row;
    }

    private int sticker(int s) {
        return s >= 0 && s < n ? s : refuse();
    }

    private static int refuse() {
        throw new IndexOutOfBoundsException();
    }
}
