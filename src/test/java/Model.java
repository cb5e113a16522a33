import java.util.ArrayList;
import java.util.Arrays;
import java.util.HashMap;
import java.util.List;
import java.util.Map;
import java.util.Set;
import java.util.TreeSet;

/**
 * The document told a second time, in the slowest and plainest way: every reading is made one by
 * one, every order of asking is gone through, and all that can be taken back is copied whole.
 */
final class Model {
    private static final int NONE = -1, BAD = -2, STATE = -3, FULL = -4;

    private record Place(int kind, int n, int a, int b) { }

    private record Rule(boolean bar, int a, int v, int b, int w) { }

    private record Row(int f, int cost, int act, List<int[]> items) { }

    /** A piece of a reading: a row, or null for a word passed over, from a position on. */
    private record Piece(Row row, int at) { }

    private record Cell(Set<Integer> values, boolean sure) { }

    private static final Cell EMPTY = new Cell(Set.of(), false);

    private final List<List<Place>> places = new ArrayList<>();
    private final List<List<Rule>> rules = new ArrayList<>();
    private final List<Map<Integer, int[]>> words = new ArrayList<>();
    private List<Map<Integer, Cell>> cells = new ArrayList<>();
    private final List<Row> rows = new ArrayList<>();
    private final List<int[]> items = new ArrayList<>();
    private final List<Integer> pile = new ArrayList<>();
    private List<Integer> line = new ArrayList<>();
    private final List<List<Map<Integer, Cell>>> kept = new ArrayList<>();
    private final int[] latest = {0, 0, 0, 0, NONE};
    private int misses = 0;
    private int[] asked = null;

    int form() {
        if (places.size() == 3) return FULL;
        places.add(new ArrayList<>());
        rules.add(new ArrayList<>());
        words.add(new HashMap<>());
        cells.add(new HashMap<>());
        return places.size() - 1;
    }

    private boolean noForm(int f) {
        return f < 0 || f >= places.size();
    }

    private boolean noPlace(int f, int p) {
        return noForm(f) || p < 0 || p >= places.get(f).size();
    }

    private boolean noValue(int f, int p, int v) {
        return noPlace(f, p) || v < 0 || v >= places.get(f).get(p).n;
    }

    private boolean worked(int f, int p) {
        return places.get(f).get(p).kind == 1;
    }

    private int addPlace(int f, Place place) {
        if (pile.contains(f)) return STATE;
        if (places.get(f).size() == 5) return FULL;
        places.get(f).add(place);
        return places.get(f).size() - 1;
    }

    int place(int f, int kind, int n) {
        if (noForm(f)) return NONE;
        if (kind != 0 && kind != 2 || n < 2 || n > 4) return BAD;
        return addPlace(f, new Place(kind, n, NONE, NONE));
    }

    int worked(int f, int n, int a, int b) {
        if (noPlace(f, a) || noPlace(f, b)) return NONE;
        if (n < 2 || n > 4 || worked(f, a) || worked(f, b)) return BAD;
        return addPlace(f, new Place(1, n, a, b));
    }

    private int addRule(int f, Rule rule) {
        if (pile.contains(f)) return STATE;
        if (rules.get(f).size() == 6) return FULL;
        rules.get(f).add(rule);
        return rules.get(f).size() - 1;
    }

    int bar(int f, int a, int v, int b, int w) {
        if (noValue(f, a, v) || noValue(f, b, w)) return NONE;
        return a == b ? BAD : addRule(f, new Rule(true, a, v, b, w));
    }

    int need(int f, int a, int v, int b) {
        if (noValue(f, a, v) || noPlace(f, b)) return NONE;
        return a == b || worked(f, b) ? BAD : addRule(f, new Rule(false, a, v, b, NONE));
    }

    int word(int f, int place, int v, int word) {
        if (noValue(f, place, v) || word < 0 || word > 63) return NONE;
        if (worked(f, place)) return BAD;
        if (words.get(f).containsKey(word)) return STATE;
        words.get(f).put(word, new int[] {place, v});
        return 0;
    }

    int item(int what, int k) {
        int[] limits = {63, 4, 0};
        if (what < 0 || what > 2 || k < 0 || k > limits[what]) return BAD;
        if (items.size() == 4) return FULL;
        items.add(new int[] {what, k});
        return items.size();
    }

    int row(int f, int cost, int act) {
        if (noForm(f)) return NONE;
        boolean bad = cost < 1 || cost > 9 || act < 0 || act > 2;
        for (int[] item : items) {
            if (item[0] == 1) {
                if (noPlace(f, item[1])) return NONE;
                bad |= worked(f, item[1]) || act != 0;
            }
        }
        if (bad) return BAD;
        if (items.isEmpty()) return STATE;
        if (rows.size() == 20) return FULL;
        rows.add(new Row(f, cost, act, new ArrayList<>(items)));
        items.clear();
        return rows.size() - 1;
    }

    int open(int f) {
        if (noForm(f)) return NONE;
        if (pile.contains(f)) return STATE;
        pile.add(f);
        cells.get(f).clear();
        kept.clear();
        asked = null;
        return pile.size();
    }

    int close() {
        if (pile.isEmpty()) return STATE;
        kept.clear();
        asked = null;
        return pile.remove(pile.size() - 1);
    }

    int say(int word) {
        if (word < 0 || word > 63) return NONE;
        if (line.size() == 8) return FULL;
        line.add(word);
        return line.size();
    }

    private Cell cell(int f, int p) {
        Place place = places.get(f).get(p);
        if (place.kind != 1) return cells.get(f).getOrDefault(p, EMPTY);
        Cell a = cell(f, place.a);
        Cell b = cell(f, place.b);
        if (!a.sure || !b.sure) return EMPTY;
        return new Cell(Set.of((least(a) + least(b)) % place.n), true);
    }

    private static int least(Cell cell) {
        return new TreeSet<>(cell.values).first();
    }

    private boolean sureOf(int f, int p, int v) {
        Cell cell = cell(f, p);
        return cell.sure && least(cell) == v;
    }

    private int firstBroken(int f) {
        for (int r = 0; r < rules.get(f).size(); r++) {
            Rule rule = rules.get(f).get(r);
            if (rule.bar && sureOf(f, rule.a, rule.v) && sureOf(f, rule.b, rule.w)) return r;
        }
        return NONE;
    }

    private boolean fits(Row row, int at) {
        if (at + row.items.size() > line.size()) return false;
        for (int i = 0; i < row.items.size(); i++) {
            int[] item = row.items.get(i);
            int word = line.get(at + i);
            int[] meaning = words.get(row.f).get(word);
            if (item[0] == 0 && item[1] != word) return false;
            if (item[0] == 1 && (meaning == null || meaning[0] != item[1])) return false;
        }
        return true;
    }

    private void readings(int f, int at, List<Piece> begun, List<List<Piece>> all) {
        if (at == line.size()) {
            all.add(new ArrayList<>(begun));
            return;
        }
        begun.add(new Piece(null, at));
        readings(f, at + 1, begun, all);
        begun.remove(begun.size() - 1);
        for (Row row : rows) {
            if (row.f == f && fits(row, at)) {
                begun.add(new Piece(row, at));
                readings(f, at + row.items.size(), begun, all);
                begun.remove(begun.size() - 1);
            }
        }
    }

    private static int cost(List<Piece> reading) {
        return reading.stream().mapToInt(piece -> piece.row == null ? 6 : piece.row.cost).sum();
    }

    private static int passed(List<Piece> reading) {
        return (int) reading.stream().filter(piece -> piece.row == null).count();
    }

    private Integer filling(List<Piece> reading, int f, int p) {
        Integer value = null;
        for (Piece piece : reading) {
            for (int i = 0; piece.row != null && i < piece.row.items.size(); i++) {
                int[] item = piece.row.items.get(i);
                if (item[0] == 1 && item[1] == p) value = words.get(f).get(line.get(piece.at + i))[1];
            }
        }
        return value;
    }

    int hear() {
        if (line.isEmpty() || pile.isEmpty()) return STATE;
        int f = pile.get(pile.size() - 1);
        List<List<Piece>> all = new ArrayList<>();
        readings(f, 0, new ArrayList<>(), all);
        int cost = all.stream().mapToInt(Model::cost).min().getAsInt();
        List<List<Piece>> best = all.stream().filter(reading -> cost(reading) == cost).toList();
        boolean heard = best.stream().anyMatch(reading -> passed(reading) < line.size());
        latest[0] = cost;
        latest[1] = heard ? 1 : 0;
        latest[2] = best.stream().mapToInt(Model::passed).max().getAsInt();
        latest[3] = Math.min(1000000, best.size());
        latest[4] = NONE;
        if (heard) {
            misses = 0;
            kept.add(copy(cells));
            if (kept.size() > 10) kept.remove(0);
            change(f, best);
            asked = null;
        } else {
            misses++;
        }
        line = new ArrayList<>();
        return heard ? cost : 100 + cost;
    }

    private static List<Map<Integer, Cell>> copy(List<Map<Integer, Cell>> from) {
        List<Map<Integer, Cell>> to = new ArrayList<>();
        for (Map<Integer, Cell> form : from) to.add(new HashMap<>(form));
        return to;
    }

    private void change(int f, List<List<Piece>> best) {
        for (int act = 1; act <= 2; act++) {
            int wanted = act;
            if (asked != null && best.stream().allMatch(
                    reading -> reading.size() == 1 && reading.get(0).row != null && reading.get(0).row.act == wanted)) {
                answer(f, act);
                return;
            }
        }
        for (int p = 0; p < places.get(f).size(); p++) {
            if (!worked(f, p)) fill(f, p, best);
        }
    }

    private void answer(int f, int act) {
        Cell old = cell(f, asked[0]);
        if (act == 1) {
            attempt(f, asked[0], new Cell(Set.of(asked[1]), true));
        } else {
            Set<Integer> rest = new TreeSet<>(old.values);
            rest.remove(asked[1]);
            cells.get(f).put(asked[0], new Cell(rest, false));
        }
    }

    private void fill(int f, int p, List<List<Piece>> best) {
        Set<Integer> values = new TreeSet<>();
        boolean left = false;
        for (List<Piece> reading : best) {
            Integer value = filling(reading, f, p);
            if (value == null) left = true;
            else values.add(value);
        }
        if (values.isEmpty()) return;
        boolean sure = !left && values.size() == 1;
        if (left) values.addAll(cell(f, p).values);
        attempt(f, p, new Cell(values, sure));
    }

    private void attempt(int f, int p, Cell cell) {
        Cell old = cell(f, p);
        cells.get(f).put(p, cell);
        int broken = firstBroken(f);
        if (broken != NONE) {
            cells.get(f).put(p, old);
            if (latest[4] == NONE) latest[4] = broken;
        }
    }

    int back() {
        if (kept.isEmpty()) return STATE;
        List<Map<Integer, Cell>> old = kept.remove(kept.size() - 1);
        while (old.size() < places.size()) old.add(new HashMap<>());
        cells = old;
        asked = null;
        return kept.size();
    }

    private boolean wanted(int f, int p) {
        if (worked(f, p)) return false;
        List<Rule> needs = rules.get(f).stream().filter(rule -> !rule.bar && rule.b == p).toList();
        return needs.isEmpty() || needs.stream().anyMatch(rule -> sureOf(f, rule.a, rule.v));
    }

    private List<Integer> open(int f, boolean ignored) {
        List<Integer> found = new ArrayList<>();
        for (int p = 0; p < places.get(f).size(); p++) {
            if (wanted(f, p) && !cell(f, p).sure) found.add(p);
        }
        return found;
    }

    private int worstBy(int f, int p) {
        Cell old = cell(f, p);
        List<Integer> behind = new ArrayList<>();
        for (int v = 0; v < places.get(f).get(p).n; v++) {
            cells.get(f).put(p, new Cell(Set.of(v), true));
            if (firstBroken(f) == NONE) behind.add(worst(f));
        }
        cells.get(f).put(p, old);
        return behind.isEmpty() ? 100 : Math.min(100, 1 + behind.stream().max(Integer::compare).get());
    }

    private int worst(int f) {
        return open(f, true).stream().mapToInt(p -> worstBy(f, p)).min().orElse(0);
    }

    int act() {
        if (pile.isEmpty()) return STATE;
        int f = pile.get(pile.size() - 1);
        asked = null;
        List<Integer> open = open(f, true);
        if (open.isEmpty()) return 0;
        for (int p : open) {
            if (!cell(f, p).values.isEmpty() && places.get(f).get(p).kind != 2) {
                asked = new int[] {p, least(cell(f, p))};
                return 100 + 10 * p + asked[1];
            }
        }
        int[] numbers = open.stream().mapToInt(p -> worstBy(f, p)).toArray();
        int least = Arrays.stream(numbers).min().getAsInt();
        int i = 0;
        while (numbers[i] != least) i++;
        return 200 + 10 * open.get(i);
    }

    int worst() {
        return pile.isEmpty() ? STATE : worst(pile.get(pile.size() - 1));
    }

    int about(int f, int place, int what) {
        if (noPlace(f, place) || what < 0 || what > 4) return NONE;
        int bits = cell(f, place).values.stream().mapToInt(v -> 1 << v).sum();
        int sure = cell(f, place).sure ? 1 : 0;
        int wanted = wanted(f, place) ? 1 : 0;
        return new int[] {bits, sure, wanted, places.get(f).get(place).kind, places.get(f).get(place).n}[what];
    }

    int said(int f, int place, int v) {
        if (noValue(f, place, v)) return NONE;
        for (int word : new TreeSet<>(words.get(f).keySet())) {
            if (Arrays.equals(words.get(f).get(word), new int[] {place, v})) return word;
        }
        return NONE;
    }

    int heard(int what) {
        return what < 0 || what > 4 ? NONE : latest[what];
    }

    int count(int what) {
        if (what < 0 || what > 7) return NONE;
        int top = pile.isEmpty() ? NONE : pile.get(pile.size() - 1);
        return new int[] {pile.size(), top, misses >= 3 ? 1 : 0, kept.size(), line.size(), items.size(),
            places.size(), rows.size()}[what];
    }
}
