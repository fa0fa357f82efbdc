import java.util.Random;

/** Long runs of calls, the same ones each time, on CellFigures and on the Reference side by side. */
public final class RandomRunsTest {
    private static final int RUNS = 300;
    /** No object is asked more often than the document says. */
    private static final int CALLS = 512;
    private static final int LONGEST_STEP = 50;
    private static final int[] ODD = {-1, -2, 10, 11, 12, 13, 64, 255, 256, Integer.MAX_VALUE, Integer.MIN_VALUE};

    private final Random random;
    private final CellFigures x = new CellFigures();
    private final Reference y = new Reference();
    private final String name;

    private RandomRunsTest(int run) {
        random = new Random(run);
        name = "run " + run + ": ";
    }

    public static void main(String[] args) {
        for (int run = 0; run < RUNS; run++) {
            RandomRunsTest test = new RandomRunsTest(run);
            for (int i = 0; i + LONGEST_STEP <= CALLS;) {
                i += test.step();
            }
        }
        Due.end();
    }

    /** A number below a bound, and now and then one that is out of every range. */
    private int any(int bound) {
        return random.nextInt(40) == 0 ? ODD[random.nextInt(ODD.length)] : random.nextInt(bound);
    }

    private void due(String call, int got, int want) {
        Due.due(name + call + " on " + y.lattice + " " + y.draft, got, want);
    }

    /** Makes some calls; answers how many. */
    private int step() {
        int kind = random.nextInt(100);
        if (kind < 32) {
            return edit();
        }
        if (kind < 36) {
            return readText();
        }
        if (kind < 72) {
            return askDraft();
        }
        return askLists();
    }

    private int edit() {
        int kind = random.nextInt(30);
        if (kind == 0) {
            int l = any(3);
            due("setLattice(" + l + ")", x.setLattice(l), y.setLattice(l));
        } else if (kind < 16) {
            Reference.Cell c = nearCell();
            due("addCell" + c, x.addCell(c.q(), c.r(), c.t()), y.addCell(c.q(), c.r(), c.t()));
        } else if (kind < 20) {
            Reference.Cell c = random.nextInt(4) == 0 || y.draft.isEmpty() ? nearCell() : pick();
            due("removeCell" + c, x.removeCell(c.q(), c.r(), c.t()), y.removeCell(c.q(), c.r(), c.t()));
        } else if (kind < 25) {
            int m = any(2);
            int t = any(6);
            due("move(" + m + ", " + t + ")", x.move(m, t), y.move(m, t));
        } else if (kind < 27) {
            int s = any(9);
            int i = any(120);
            due("take(" + s + ", " + i + ")", x.take(s, i), y.take(s, i));
        } else {
            due("undo()", x.undo(), y.undo());
        }
        return 1;
    }

    private Reference.Cell pick() {
        return y.draft.stream().skip(random.nextInt(y.draft.size())).findFirst().get();
    }

    /** Mostly a neighbour of a cell of the draft, so that figures grow. */
    private Reference.Cell nearCell() {
        if (y.draft.isEmpty() || random.nextInt(12) == 0) {
            return new Reference.Cell(any(10), any(10), any(2));
        }
        var all = Reference.neighbours(y.lattice, random.nextBoolean() ? pick() : y.draft.last());
        return all.get(random.nextInt(all.size()));
    }

    private int readText() {
        StringBuilder text = new StringBuilder();
        int items = random.nextInt(4);
        for (int i = 0; i < items; i++) {
            if (i == 0 || random.nextInt(3) == 0) {
                text.append("at").append(random.nextInt(10)).append(random.nextInt(10))
                        .append(y.lattice == 1 ? random.nextInt(2) : 0).append(';');
            } else {
                text.append("go");
                int steps = 1 + random.nextInt(7);
                for (int k = 0; k < steps; k++) {
                    text.append(random.nextInt(y.lattice == 0 ? 4 : y.lattice == 1 ? 3 : 6));
                }
                text.append(';');
            }
        }
        int changes = random.nextInt(3);
        for (int i = 0; i < changes; i++) {
            int place = random.nextInt(text.length() + 1);
            String signs = "atgo;0123459 xA";
            if (random.nextBoolean()) {
                text.insert(place, random.nextBoolean() ? ' ' : signs.charAt(random.nextInt(signs.length())));
            } else if (place < text.length()) {
                text.deleteCharAt(place);
            }
        }
        for (int i = 0; i < text.length(); i++) {
            due("append", x.append(text.charAt(i)), y.append(text.charAt(i)));
        }
        due("load() of \"" + y.text + "\"", x.load(), y.load());
        if (random.nextInt(3) > 0) {
            due("clearText()", x.clearText(), y.clearText());
        }
        return text.length() + 2;
    }

    private int askDraft() {
        int kind = random.nextInt(30);
        if (kind < 6) {
            int w = any(6);
            due("count(" + w + ")", x.count(w), y.count(w));
        } else if (kind < 9) {
            Reference.Cell c = nearCell();
            due("hasCell" + c, x.hasCell(c.q(), c.r(), c.t()), y.hasCell(c.q(), c.r(), c.t()));
        } else if (kind < 16) {
            int w = any(7);
            due("property(" + w + ")", x.property(w), y.property(w));
        } else if (kind < 24) {
            int f = any(2);
            int i = any(13);
            due("key(" + f + ", " + i + ")", x.key(f, i), y.key(f, i));
        } else if (kind < 27) {
            int l = any(2);
            due("number(" + l + ")", x.number(l), y.number(l));
        } else {
            int w = any(2);
            due("relatives(" + w + ")", x.relatives(w), y.relatives(w));
        }
        return 1;
    }

    private int askLists() {
        int s = any(9);
        switch (random.nextInt(7)) {
            case 0: {
                int l = any(2);
                due("figures(" + l + ", " + s + ")", x.figures(l, s), y.figures(l, s));
                break;
            }
            case 1: case 2: {
                int l = any(2);
                int i = any(l == 0 ? 850 : 120);
                int p = any(8);
                due("figure(" + l + ", " + s + ", " + i + ", " + p + ")", x.figure(l, s, i, p), y.figure(l, s, i, p));
                break;
            }
            case 3: {
                int sides = any(40);
                due("withSides(" + s + ", " + sides + ")", x.withSides(s, sides), y.withSides(s, sides));
                break;
            }
            case 4: {
                int m = any(13);
                due("withSymmetries(" + s + ", " + m + ")", x.withSymmetries(s, m), y.withSymmetries(s, m));
                break;
            }
            case 5:
                due("withHoles(" + s + ")", x.withHoles(s), y.withHoles(s));
                break;
            default: {
                int w = any(6);
                int h = any(6);
                int n = any(22);
                due("connectedSets(" + w + ", " + h + ", " + n + ")", x.connectedSets(w, h, n),
                        y.connectedSets(w, h, n));
            }
        }
        return 1;
    }
}
