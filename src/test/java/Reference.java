import java.util.ArrayDeque;
import java.util.ArrayList;
import java.util.Collections;
import java.util.Comparator;
import java.util.HashMap;
import java.util.HashSet;
import java.util.List;
import java.util.Map;
import java.util.Set;
import java.util.TreeSet;

/**
 * The document in the plainest words, with the Java library and without a thought for speed:
 * the tests compare CellFigures with it, call by call. It shares no code and no method with it.
 */
final class Reference {
    record Cell(int q, int r, int t) implements Comparable<Cell> {
        public int compareTo(Cell o) {
            return Comparator.comparingInt(Cell::r).thenComparingInt(Cell::q).thenComparingInt(Cell::t)
                    .compare(this, o);
        }

        int key() {
            return 20 * r + 2 * q + t;
        }

        boolean hasKey() {
            return q >= 0 && q <= 9 && r >= 0 && r <= 9;
        }
    }

    record Saved(int lattice, Set<Cell> draft) {
    }

    /** A text that is not a draft. */
    static final class Refused extends RuntimeException {
        final int position;

        Refused(int position) {
            this.position = position;
        }
    }

    private static final Map<String, List<List<Cell>>> LISTS = new HashMap<>();
    private static final Map<String, long[]> BLOCKS = new HashMap<>();
    private static final Map<String, Integer> COUNTS = new HashMap<>();

    int lattice = 0;
    TreeSet<Cell> draft = new TreeSet<>();
    ArrayDeque<Saved> history = new ArrayDeque<>();
    StringBuilder text = new StringBuilder();

    // ---- the lattices

    static List<Cell> neighbours(int lattice, Cell c) {
        List<Cell> all = new ArrayList<>();
        int q = c.q;
        int r = c.r;
        if (lattice == 0) {
            all.add(new Cell(q + 1, r, 0));
            all.add(new Cell(q, r + 1, 0));
            all.add(new Cell(q - 1, r, 0));
            all.add(new Cell(q, r - 1, 0));
        } else if (lattice == 1 && c.t == 0) {
            all.add(new Cell(q, r, 1));
            all.add(new Cell(q - 1, r, 1));
            all.add(new Cell(q, r - 1, 1));
        } else if (lattice == 1) {
            all.add(new Cell(q, r, 0));
            all.add(new Cell(q + 1, r, 0));
            all.add(new Cell(q, r + 1, 0));
        } else {
            all.add(new Cell(q + 1, r, 0));
            all.add(new Cell(q, r + 1, 0));
            all.add(new Cell(q - 1, r + 1, 0));
            all.add(new Cell(q - 1, r, 0));
            all.add(new Cell(q, r - 1, 0));
            all.add(new Cell(q + 1, r - 1, 0));
        }
        return all;
    }

    static Cell turn(int lattice, Cell c) {
        if (lattice == 0) {
            return new Cell(-c.r, c.q, 0);
        }
        if (lattice == 2) {
            return new Cell(-c.r, c.q + c.r, 0);
        }
        return c.t == 0 ? new Cell(-c.r - 1, c.q + c.r, 1) : new Cell(-c.r - 1, c.q + c.r + 1, 0);
    }

    static List<Cell> image(int lattice, Iterable<Cell> figure, int mirror, int turns) {
        List<Cell> all = new ArrayList<>();
        for (Cell c : figure) {
            Cell d = mirror == 1 ? new Cell(c.r, c.q, c.t) : c;
            for (int i = 0; i < turns; i++) {
                d = turn(lattice, d);
            }
            all.add(d);
        }
        return all;
    }

    static List<Cell> normal(Iterable<Cell> figure) {
        int q = Integer.MAX_VALUE;
        int r = Integer.MAX_VALUE;
        for (Cell c : figure) {
            q = Math.min(q, c.q);
            r = Math.min(r, c.r);
        }
        List<Cell> all = new ArrayList<>();
        for (Cell c : figure) {
            all.add(new Cell(c.q - q, c.r - r, c.t));
        }
        Collections.sort(all);
        return all;
    }

    static List<List<Cell>> allForms(int lattice, Iterable<Cell> figure) {
        List<List<Cell>> all = new ArrayList<>();
        for (int m = 0; m < 2; m++) {
            for (int i = 0; i < (lattice == 0 ? 4 : 6); i++) {
                all.add(normal(image(lattice, figure, m, i)));
            }
        }
        return all;
    }

    static int compare(List<Cell> a, List<Cell> b) {
        for (int i = 0; i < Math.min(a.size(), b.size()); i++) {
            int c = a.get(i).compareTo(b.get(i));
            if (c != 0) {
                return c;
            }
        }
        return Integer.compare(a.size(), b.size());
    }

    static List<Cell> canonical(int lattice, Iterable<Cell> figure) {
        return Collections.min(allForms(lattice, figure), Reference::compare);
    }

    static int symmetries(int lattice, Iterable<Cell> figure) {
        return Collections.frequency(allForms(lattice, figure), normal(figure));
    }

    static boolean connected(int lattice, Set<Cell> cells) {
        return !cells.isEmpty() && part(lattice, cells, cells.iterator().next()).size() == cells.size();
    }

    /** The greatest connected part of a set in which a cell lies. */
    static Set<Cell> part(int lattice, Set<Cell> cells, Cell first) {
        Set<Cell> seen = new HashSet<>();
        ArrayDeque<Cell> open = new ArrayDeque<>();
        seen.add(first);
        open.add(first);
        while (!open.isEmpty()) {
            for (Cell n : neighbours(lattice, open.remove())) {
                if (cells.contains(n) && seen.add(n)) {
                    open.add(n);
                }
            }
        }
        return seen;
    }

    static Set<Cell> border(int lattice, Set<Cell> figure) {
        Set<Cell> all = new HashSet<>();
        for (Cell c : figure) {
            all.addAll(neighbours(lattice, c));
        }
        all.removeAll(figure);
        return all;
    }

    static int sides(int lattice, Set<Cell> figure) {
        int sides = 0;
        for (Cell c : figure) {
            for (Cell n : neighbours(lattice, c)) {
                sides += figure.contains(n) ? 0 : 1;
            }
        }
        return sides;
    }

    /** The holes: the parts of a wide field without the figure that don't hold its corner. */
    static List<Set<Cell>> holes(int lattice, Set<Cell> figure) {
        Set<Cell> field = new HashSet<>();
        for (int q = -3; q <= 13; q++) {
            for (int r = -3; r <= 13; r++) {
                for (int t = 0; t < (lattice == 1 ? 2 : 1); t++) {
                    field.add(new Cell(q, r, t));
                }
            }
        }
        field.removeAll(figure);
        field.removeAll(part(lattice, field, new Cell(-3, -3, 0)));
        List<Set<Cell>> holes = new ArrayList<>();
        while (!field.isEmpty()) {
            Set<Cell> hole = part(lattice, field, field.iterator().next());
            holes.add(hole);
            field.removeAll(hole);
        }
        return holes;
    }

    static int greatest(int lattice) {
        return lattice == 0 ? 7 : lattice == 1 ? 8 : 6;
    }

    static List<List<Cell>> list(int lattice, int list, int size) {
        String name = lattice + " " + list + " " + size;
        if (!LISTS.containsKey(name)) {
            Set<List<Cell>> all = new HashSet<>();
            if (list == 1) {
                for (List<Cell> f : list(lattice, 0, size)) {
                    all.add(canonical(lattice, f));
                }
            } else if (size == 1) {
                all.add(List.of(new Cell(0, 0, 0)));
                if (lattice == 1) {
                    all.add(List.of(new Cell(0, 0, 1)));
                }
            } else {
                for (List<Cell> f : list(lattice, 0, size - 1)) {
                    for (Cell c : border(lattice, new HashSet<>(f))) {
                        List<Cell> g = new ArrayList<>(f);
                        g.add(c);
                        all.add(normal(g));
                    }
                }
            }
            List<List<Cell>> sorted = new ArrayList<>(all);
            sorted.sort(Reference::compare);
            LISTS.put(name, sorted);
        }
        return LISTS.get(name);
    }

    /** The connected sets of a block by size (at 0: all), found by looking at every set. */
    static long[] blockCounts(int lattice, int width, int height) {
        String name = lattice + " " + width + " " + height;
        if (!BLOCKS.containsKey(name)) {
            List<Cell> cells = new ArrayList<>();
            for (int q = 0; q < width; q++) {
                for (int r = 0; r < height; r++) {
                    for (int t = 0; t < (lattice == 1 ? 2 : 1); t++) {
                        cells.add(new Cell(q, r, t));
                    }
                }
            }
            int n = cells.size();
            int[] near = new int[n];
            for (int i = 0; i < n; i++) {
                for (Cell c : neighbours(lattice, cells.get(i))) {
                    if (cells.contains(c)) {
                        near[i] |= 1 << cells.indexOf(c);
                    }
                }
            }
            long[] counts = new long[n + 1];
            for (int set = 1; set < 1 << n; set++) {
                int reached = set & -set;
                int before = 0;
                while (reached != before) {
                    int fresh = reached & ~before;
                    before = reached;
                    for (; fresh != 0; fresh &= fresh - 1) {
                        reached |= near[Integer.numberOfTrailingZeros(fresh)] & set;
                    }
                }
                if (reached == set) {
                    counts[Integer.bitCount(set)]++;
                    counts[0]++;
                }
            }
            BLOCKS.put(name, counts);
        }
        return BLOCKS.get(name);
    }

    // ---- the methods

    private void record() {
        history.addLast(new Saved(lattice, new TreeSet<>(draft)));
        if (history.size() > 6) {
            history.removeFirst();
        }
    }

    private boolean bad(int q, int r, int t) {
        return q < 0 || q > 9 || r < 0 || r > 9 || t < 0 || t > (lattice == 1 ? 1 : 0);
    }

    private boolean badSize(int size) {
        return size < 1 || size > greatest(lattice);
    }

    int setLattice(int l) {
        if (l < 0 || l > 2) {
            return -1;
        }
        record();
        int before = lattice;
        lattice = l;
        draft = new TreeSet<>();
        return before;
    }

    int addCell(int q, int r, int t) {
        if (bad(q, r, t)) {
            return -1;
        }
        if (draft.contains(new Cell(q, r, t))) {
            return -2;
        }
        if (draft.size() == 12) {
            return -3;
        }
        record();
        draft.add(new Cell(q, r, t));
        return draft.size();
    }

    int removeCell(int q, int r, int t) {
        if (bad(q, r, t)) {
            return -1;
        }
        if (!draft.contains(new Cell(q, r, t))) {
            return -2;
        }
        record();
        draft.remove(new Cell(q, r, t));
        return draft.size();
    }

    int move(int mirror, int turns) {
        if (mirror < 0 || mirror > 1 || turns < 0 || turns > 5) {
            return -1;
        }
        if (!connected(lattice, draft)) {
            return -2;
        }
        List<Cell> form = normal(image(lattice, draft, mirror, turns));
        if (!form.stream().allMatch(Cell::hasKey)) {
            return -2;
        }
        record();
        draft = new TreeSet<>(form);
        return form.get(0).key();
    }

    int take(int size, int index) {
        if (badSize(size) || index < 0) {
            return -1;
        }
        if (index >= list(lattice, 1, size).size()) {
            return -9;
        }
        record();
        draft = new TreeSet<>(list(lattice, 1, size).get(index));
        return symmetries(lattice, draft);
    }

    int append(int character) {
        if (character < 1 || character > 255) {
            return -1;
        }
        if (text.length() == 80) {
            return -3;
        }
        text.append((char) character);
        return text.length();
    }

    int clearText() {
        int before = text.length();
        text.setLength(0);
        return before;
    }

    int load() {
        try {
            TreeSet<Cell> read = parse();
            record();
            draft = read;
            text.setLength(0);
            return draft.size();
        } catch (Refused e) {
            return -10 - e.position;
        }
    }

    /** Cuts the text into tokens first, each with its offset, then goes through the items. */
    private TreeSet<Cell> parse() {
        List<String> tokens = new ArrayList<>();
        List<Integer> offsets = new ArrayList<>();
        java.util.regex.Matcher m = java.util.regex.Pattern.compile("[a-z]+|[^ ]", java.util.regex.Pattern.DOTALL)
                .matcher(text);
        while (m.find()) {
            tokens.add(m.group());
            offsets.add(m.start());
        }
        tokens.add("");
        offsets.add(text.length());
        TreeSet<Cell> cells = new TreeSet<>();
        Cell last = null;
        int i = 0;
        while (!tokens.get(i).isEmpty()) {
            boolean at = tokens.get(i).equals("at");
            if (!at && (!tokens.get(i).equals("go") || last == null)) {
                throw new Refused(offsets.get(i));
            }
            i++;
            if (at) {
                int[] d = new int[3];
                for (int k = 0; k < 3; k++, i++) {
                    d[k] = digit(tokens.get(i), k < 2 ? 10 : lattice == 1 ? 2 : 1, offsets.get(i));
                    if (k == 2) {
                        last = new Cell(d[0], d[1], d[2]);
                        if (cells.contains(last) || cells.size() == 12) {
                            throw new Refused(offsets.get(i));
                        }
                        cells.add(last);
                    }
                }
            } else {
                int steps = 0;
                while (steps == 0 || !tokens.get(i).equals(";")) {
                    int d = digit(tokens.get(i), lattice == 0 ? 4 : lattice == 1 ? 3 : 6, offsets.get(i));
                    last = neighbours(lattice, last).get(d);
                    cells.add(last);
                    if (!last.hasKey() || cells.size() > 12) {
                        throw new Refused(offsets.get(i));
                    }
                    steps++;
                    i++;
                }
            }
            if (!tokens.get(i).equals(";")) {
                throw new Refused(offsets.get(i));
            }
            i++;
        }
        return cells;
    }

    private static int digit(String token, int bound, int offset) {
        if (token.length() != 1 || token.charAt(0) < '0' || token.charAt(0) >= '0' + bound) {
            throw new Refused(offset);
        }
        return token.charAt(0) - '0';
    }

    int undo() {
        if (history.isEmpty()) {
            return -2;
        }
        Saved saved = history.removeLast();
        lattice = saved.lattice;
        draft = new TreeSet<>(saved.draft);
        return history.size();
    }

    int count(int what) {
        switch (what) {
            case 0: return lattice;
            case 1: return draft.size();
            case 2: return connected(lattice, draft) ? 1 : 0;
            case 3: return greatest(lattice);
            case 4: return history.size();
            case 5: return text.length();
            default: return -1;
        }
    }

    int hasCell(int q, int r, int t) {
        return bad(q, r, t) ? -1 : draft.contains(new Cell(q, r, t)) ? 1 : 0;
    }

    int property(int what) {
        if (what < 0 || what > 6) {
            return -1;
        }
        if (!connected(lattice, draft)) {
            return -2;
        }
        List<Set<Cell>> holes = holes(lattice, draft);
        Set<Cell> inHoles = new HashSet<>();
        holes.forEach(inHoles::addAll);
        Set<Cell> border = border(lattice, draft);
        switch (what) {
            case 0: return sides(lattice, draft);
            case 1: return border.size();
            case 2: return (int) border.stream().filter(c -> !inHoles.contains(c)).count();
            case 3: return holes.size();
            case 4: return inHoles.size();
            case 5: return symmetries(lattice, draft);
            default: return new HashSet<>(allForms(lattice, draft)).size();
        }
    }

    int key(int form, int index) {
        if (form < 0 || form > 1 || index < 0) {
            return -1;
        }
        if (!connected(lattice, draft)) {
            return -2;
        }
        if (form == 1 && !allForms(lattice, draft).stream().allMatch(f -> f.stream().allMatch(Cell::hasKey))) {
            return -2;
        }
        if (index >= draft.size()) {
            return -9;
        }
        return (form == 1 ? canonical(lattice, draft) : normal(draft)).get(index).key();
    }

    int number(int list) {
        if (list < 0 || list > 1) {
            return -1;
        }
        if (!connected(lattice, draft)) {
            return -2;
        }
        if (draft.size() > greatest(lattice)) {
            return -9;
        }
        return list(lattice, list, draft.size()).indexOf(list == 1 ? canonical(lattice, draft) : normal(draft));
    }

    int relatives(int way) {
        if (way < 0 || way > 1) {
            return -1;
        }
        if (!connected(lattice, draft) || draft.size() > 7) {
            return -2;
        }
        Set<List<Cell>> forms = new HashSet<>();
        for (Cell c : way == 0 ? border(lattice, draft) : draft) {
            Set<Cell> other = new HashSet<>(draft);
            if (way == 0) {
                other.add(c);
            } else {
                other.remove(c);
            }
            if (connected(lattice, other)) {
                forms.add(canonical(lattice, other));
            }
        }
        return forms.size();
    }

    int figures(int list, int size) {
        return list < 0 || list > 1 || badSize(size) ? -1 : list(lattice, list, size).size();
    }

    int figure(int list, int size, int index, int place) {
        if (list < 0 || list > 1 || badSize(size) || place < 0 || place >= size || index < 0) {
            return -1;
        }
        List<List<Cell>> all = list(lattice, list, size);
        return index >= all.size() ? -9 : all.get(index).get(place).key();
    }

    int withSides(int size, int sides) {
        if (badSize(size) || sides < 0) {
            return -1;
        }
        String name = "sides " + lattice + " " + size + " " + sides;
        if (!COUNTS.containsKey(name)) {
            COUNTS.put(name, (int) list(lattice, 0, size).stream()
                    .filter(f -> sides(lattice, new HashSet<>(f)) == sides).count());
        }
        return COUNTS.get(name);
    }

    int withSymmetries(int size, int symmetries) {
        if (badSize(size) || symmetries < 1 || symmetries > 12) {
            return -1;
        }
        String name = "symmetries " + lattice + " " + size + " " + symmetries;
        if (!COUNTS.containsKey(name)) {
            COUNTS.put(name, (int) list(lattice, 1, size).stream()
                    .filter(f -> symmetries(lattice, f) == symmetries).count());
        }
        return COUNTS.get(name);
    }

    int withHoles(int size) {
        if (badSize(size)) {
            return -1;
        }
        String name = "holes " + lattice + " " + size;
        if (!COUNTS.containsKey(name)) {
            COUNTS.put(name, (int) list(lattice, 0, size).stream()
                    .filter(f -> !holes(lattice, new HashSet<>(f)).isEmpty()).count());
        }
        return COUNTS.get(name);
    }

    int connectedSets(int width, int height, int size) {
        if (width < 1 || width > 5 || height < 1 || height > 5 || size < 0) {
            return -1;
        }
        int cells = width * height * (lattice == 1 ? 2 : 1);
        if (cells > 20) {
            return -3;
        }
        return size > cells ? 0 : (int) blockCounts(lattice, width, height)[size];
    }
}
