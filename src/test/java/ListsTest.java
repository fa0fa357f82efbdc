import java.util.List;

/** Promises 17 to 21: the lists of figures and what is counted in them. */
public final class ListsTest {
    private static final int[][] FIXED = {
        {1, 2, 6, 19, 63, 216, 760}, {2, 3, 6, 14, 36, 94, 250, 675}, {1, 3, 11, 44, 186, 814}};
    private static final int[][] FREE = {
        {1, 1, 2, 5, 12, 35, 108}, {1, 1, 1, 3, 4, 12, 24, 66}, {1, 1, 3, 7, 22, 82}};

    public static void main(String[] args) {
        lengths();
        everyKey();
        wrongInputs();
        tallies();
        anyOrder();
        Due.end();
    }

    private static CellFigures on(int lattice) {
        CellFigures x = new CellFigures();
        x.setLattice(lattice);
        return x;
    }

    private static void lengths() {
        for (int lattice = 0; lattice < 3; lattice++) {
            CellFigures x = on(lattice);
            for (int i = 0; i < FIXED[lattice].length; i++) {
                Due.due("17: figures(0, " + (i + 1) + ") on " + lattice, x.figures(0, i + 1), FIXED[lattice][i]);
                Due.due("17: figures(1, " + (i + 1) + ") on " + lattice, x.figures(1, i + 1), FREE[lattice][i]);
            }
        }
    }

    private static void everyKey() {
        for (int lattice = 0; lattice < 3; lattice++) {
            for (int list = 0; list < 2; list++) {
                for (int size = 1; size <= Reference.greatest(lattice); size++) {
                    List<List<Reference.Cell>> all = Reference.list(lattice, list, size);
                    CellFigures x = on(lattice);
                    for (int i = 0; i < all.size(); i++) {
                        // No object is asked more often than the document says.
                        x = i % 60 == 59 ? on(lattice) : x;
                        for (int place = 0; place < size; place++) {
                            Due.due("18: figure(" + list + ", " + size + ", " + i + ", " + place + ") on " + lattice,
                                    x.figure(list, size, i, place), all.get(i).get(place).key());
                        }
                    }
                    Due.due("18: behind the last", x.figure(list, size, all.size(), 0), Due.NONE);
                }
            }
        }
    }

    private static void wrongInputs() {
        int max = Integer.MAX_VALUE;
        int min = Integer.MIN_VALUE;
        for (int lattice = 0; lattice < 3; lattice++) {
            CellFigures x = on(lattice);
            int greatest = x.count(3);
            int[] sizes = {0, -1, greatest + 1, 9, 10, max, min};
            for (int size : sizes) {
                Due.due("17: size", x.figures(0, size), Due.INVALID);
                Due.due("17: size", x.figures(1, size), Due.INVALID);
                Due.due("18: size", x.figure(0, size, 0, 0), Due.INVALID);
                Due.due("19: size", x.withSides(size, 4), Due.INVALID);
                Due.due("20: size", x.withSymmetries(size, 1), Due.INVALID);
                Due.due("21: size", x.withHoles(size), Due.INVALID);
            }
            int[] lists = {-1, 2, max, min};
            for (int list : lists) {
                Due.due("17: list", x.figures(list, 1), Due.INVALID);
                Due.due("18: list", x.figure(list, 1, 0, 0), Due.INVALID);
            }
            Due.due("18: index", x.figure(0, 3, -1, 0), Due.INVALID);
            Due.due("18: index", x.figure(1, 3, min, 0), Due.INVALID);
            Due.due("18: index", x.figure(1, 3, max, 0), Due.NONE);
            Due.due("18: place", x.figure(0, 3, 0, -1), Due.INVALID);
            Due.due("18: place", x.figure(0, 3, 0, 3), Due.INVALID);
            Due.due("18: place comes before NONE", x.figure(0, 3, max, 3), Due.INVALID);
            Due.due("19: sides", x.withSides(3, -1), Due.INVALID);
            Due.due("19: sides", x.withSides(3, min), Due.INVALID);
            Due.due("19: sides", x.withSides(3, max), 0);
            Due.due("19: sides", x.withSides(greatest, 37), 0);
            Due.due("19: sides", x.withSides(greatest, 0), 0);
            Due.due("20: symmetries", x.withSymmetries(3, 0), Due.INVALID);
            Due.due("20: symmetries", x.withSymmetries(3, 13), Due.INVALID);
            Due.due("20: symmetries", x.withSymmetries(3, min), Due.INVALID);
            Due.due("20: symmetries", x.withSymmetries(3, 12) >= 0 ? 1 : 0, 1);
            Due.due("17 to 21: no edits", x.count(4), 1);
        }
    }

    private static void tallies() {
        for (int lattice = 0; lattice < 3; lattice++) {
            Reference y = new Reference();
            y.setLattice(lattice);
            for (int size = 1; size <= Reference.greatest(lattice); size++) {
                CellFigures x = on(lattice);
                int sum = 0;
                for (int sides = 0; sides <= 50; sides++) {
                    sum += x.withSides(size, sides);
                    Due.due("19: withSides(" + size + ", " + sides + ") on " + lattice, x.withSides(size, sides),
                            y.withSides(size, sides));
                }
                Due.due("19: the sum", sum, FIXED[lattice][size - 1]);
                sum = 0;
                for (int symmetries = 1; symmetries <= 12; symmetries++) {
                    sum += x.withSymmetries(size, symmetries);
                    Due.due("20: withSymmetries(" + size + ", " + symmetries + ") on " + lattice,
                            x.withSymmetries(size, symmetries), y.withSymmetries(size, symmetries));
                }
                Due.due("20: the sum", sum, FREE[lattice][size - 1]);
                Due.due("21: withHoles(" + size + ") on " + lattice, x.withHoles(size), y.withHoles(size));
            }
        }
    }

    /** What a list answers does not depend on what has been asked before. */
    private static void anyOrder() {
        CellFigures x = new CellFigures();
        for (int size = 6; size >= 1; size--) {
            for (int lattice = 2; lattice >= 0; lattice--) {
                x.setLattice(lattice);
                Due.due("21: downwards", x.withHoles(size), lattice == 2 && size == 6 ? 1 : 0);
                Due.due("17: downwards", x.figures(1, size), FREE[lattice][size - 1]);
                Due.due("17: downwards", x.figures(0, size), FIXED[lattice][size - 1]);
            }
        }
        x.setLattice(0);
        Due.due("20: then upwards", x.withSymmetries(7, 1), 84);
        Due.due("21: then upwards", x.withHoles(7), 4);
        Due.due("19: then upwards", x.withSides(1, 4), 1);
    }
}
