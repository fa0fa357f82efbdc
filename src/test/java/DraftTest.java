/** Promises 1 to 6 and 10 to 12: the draft, its edits, the history, the plain questions. */
public final class DraftTest {
    public static void main(String[] args) {
        newObject();
        lattices();
        addingAndRemoving();
        capacity();
        moves();
        movesThatDoNotFit();
        taking();
        history();
        errorsChangeNothing();
        counts();
        Due.end();
    }

    private static void newObject() {
        CellFigures x = new CellFigures();
        int[] want = {0, 0, 0, 7, 0, 0};
        for (int i = 0; i < want.length; i++) {
            Due.due("1: count(" + i + ")", x.count(i), want[i]);
        }
        Due.due("1: undo", x.undo(), Due.ILLEGAL);
        for (int q = 0; q < 10; q++) {
            for (int r = 0; r < 10; r++) {
                Due.due("1: hasCell", x.hasCell(q, r, 0), 0);
            }
        }
        CellFigures y = new CellFigures();
        y.addCell(1, 1, 0);
        y.append('a');
        Due.due("1: objects are apart", x.count(1) + x.count(4) + x.count(5), 0);
    }

    private static void lattices() {
        CellFigures x = new CellFigures();
        Due.due("2: setLattice(-1)", x.setLattice(-1), Due.INVALID);
        Due.due("2: setLattice(3)", x.setLattice(3), Due.INVALID);
        Due.due("2: setLattice(max)", x.setLattice(Integer.MAX_VALUE), Due.INVALID);
        Due.due("2: setLattice(min)", x.setLattice(Integer.MIN_VALUE), Due.INVALID);
        Due.due("2: no edit yet", x.count(4), 0);
        x.addCell(4, 4, 0);
        Due.due("2: setLattice(2)", x.setLattice(2), 0);
        Due.due("2: count(0)", x.count(0), 2);
        Due.due("2: the draft is empty", x.count(1), 0);
        Due.due("2: greatest size", x.count(3), 6);
        Due.due("2: setLattice(1)", x.setLattice(1), 2);
        Due.due("2: greatest size", x.count(3), 8);
        x.addCell(4, 4, 1);
        Due.due("2: the same lattice", x.setLattice(1), 1);
        Due.due("2: the draft is empty", x.count(1), 0);
        Due.due("2: an edit each", x.count(4), 5);
        Due.due("2: undo", x.undo(), 4);
        Due.due("2: the cell is back", x.hasCell(4, 4, 1), 1);
        x.append('a');
        x.setLattice(0);
        Due.due("2: the text stays", x.count(5), 1);
    }

    private static void addingAndRemoving() {
        for (int lattice = 0; lattice < 3; lattice++) {
            CellFigures x = new CellFigures();
            x.setLattice(lattice);
            int[][] bad = {{-1, 0, 0}, {10, 0, 0}, {0, -1, 0}, {0, 10, 0}, {0, 0, -1}, {0, 0, 2},
                {0, 0, lattice == 1 ? 2 : 1}, {Integer.MAX_VALUE, 0, 0}, {0, Integer.MIN_VALUE, 0},
                {1 << 6, 0, 0}, {0, 1 << 25, 0}, {0, 0, Integer.MIN_VALUE}};
            x.addCell(0, 0, 0);
            for (int[] b : bad) {
                Due.due("3: addCell out of range", x.addCell(b[0], b[1], b[2]), Due.INVALID);
                Due.due("4: removeCell out of range", x.removeCell(b[0], b[1], b[2]), Due.INVALID);
                Due.due("12: hasCell out of range", x.hasCell(b[0], b[1], b[2]), Due.INVALID);
            }
            Due.due("3: errors are no edits", x.count(4), 2);
            Due.due("3: addCell again", x.addCell(0, 0, 0), Due.ILLEGAL);
            Due.due("3: addCell(9, 9, 0)", x.addCell(9, 9, 0), 2);
            Due.due("12: hasCell(9, 9, 0)", x.hasCell(9, 9, 0), 1);
            Due.due("12: hasCell(9, 0, 0)", x.hasCell(9, 0, 0), 0);
            Due.due("4: removeCell(9, 0, 0)", x.removeCell(9, 0, 0), Due.ILLEGAL);
            Due.due("4: removeCell(0, 0, 0)", x.removeCell(0, 0, 0), 1);
            Due.due("4: removeCell(0, 0, 0)", x.removeCell(0, 0, 0), Due.ILLEGAL);
            Due.due("12: hasCell(0, 0, 0)", x.hasCell(0, 0, 0), 0);
            Due.due("4: edits", x.count(4), 4);
            Due.due("4: removeCell(9, 9, 0)", x.removeCell(9, 9, 0), 0);
            if (lattice == 1) {
                Due.due("3: addCell(5, 5, 1)", x.addCell(5, 5, 1), 1);
                Due.due("12: the other triangle", x.hasCell(5, 5, 0), 0);
                Due.due("4: the other triangle", x.removeCell(5, 5, 0), Due.ILLEGAL);
                Due.due("3: addCell(5, 5, 0)", x.addCell(5, 5, 0), 2);
            }
        }
    }

    private static void capacity() {
        CellFigures x = new CellFigures();
        for (int i = 0; i < 12; i++) {
            Due.due("3: addCell " + i, x.addCell(i % 10, i / 10, 0), i + 1);
        }
        Due.due("3: the thirteenth cell", x.addCell(5, 5, 0), Due.FULL);
        Due.due("3: a cell of the full draft", x.addCell(3, 0, 0), Due.ILLEGAL);
        Due.due("3: out of range, full", x.addCell(3, 10, 0), Due.INVALID);
        Due.due("3: nothing changed", x.count(1) * 10 + x.count(4), 126);
        Due.due("4: removeCell", x.removeCell(0, 0, 0), 11);
        Due.due("3: room again", x.addCell(5, 5, 0), 12);
    }

    private static void moves() {
        CellFigures x = Due.make(0, "at 5 5 0; go 0 0 1;");
        int[][] bad = {{-1, 0}, {2, 0}, {0, -1}, {0, 6}, {Integer.MAX_VALUE, 0}, {0, Integer.MIN_VALUE}};
        for (int[] b : bad) {
            Due.due("5: move out of range", x.move(b[0], b[1]), Due.INVALID);
        }
        Due.due("5: no edit", x.count(4), 2);
        Due.due("5: move(0, 0) is the normal form", x.move(0, 0), 0);
        Probe.draft("5: move(0, 0)", x, "000 100 200 210");
        Due.due("5: it is an edit", x.count(4), 3);
        x.move(0, 1);
        Probe.draft("5: move(0, 1)", x, "100 110 120 020");
        x.move(0, 4);
        Probe.draft("5: move(0, 4)", x, "100 110 120 020");
        x.move(0, 5);
        Probe.draft("5: move(0, 5)", x, "000 010 110 210");
        x.move(1, 0);
        Probe.draft("5: move(1, 0)", x, "000 100 110 120");
        x.move(1, 1);
        Probe.draft("5: mirror first, then turn", x, "000 100 010 020");
        x.move(0, 2);
        Due.due("5: the first key", x.move(0, 0), 2);
        Probe.draft("5: half a turn", x, "100 110 120 020");
        x.addCell(9, 9, 0);
        Due.due("5: not connected", x.move(0, 0), Due.ILLEGAL);
        Due.due("5: out of range comes first", x.move(0, 6), Due.INVALID);
        Due.due("5: an empty draft", new CellFigures().move(0, 0), Due.ILLEGAL);
        CellFigures y = Due.make(1, "at 3 3 0;");
        Due.due("5: a triangle turned", y.move(0, 1), 1);
        Probe.draft("5: a triangle turned", y, "001");
        CellFigures z = Due.make(2, "at 3 3 0; go 0 1;");
        Due.due("5: hexagons turned", z.move(0, 1), 2);
        Probe.draft("5: hexagons turned", z, "100 110 020");
    }

    private static void movesThatDoNotFit() {
        // q + r goes from 0 to 11 here, so turned once the figure has an r of 11.
        CellFigures x = Due.make(2, "at 0 0 0; go 0 0 0 0 0 1 1 1 1 1 1;");
        Due.due("5: the figure itself has room", x.move(0, 0), 0);
        Due.due("5: turned once it has not", x.move(0, 1), Due.ILLEGAL);
        Due.due("5: nothing changed", x.count(4), 3);
        Due.due("5: turned by half it has", x.move(0, 3), 0);
        Due.due("14: no canonical form", x.key(1, 0), Due.ILLEGAL);
        Due.due("14: nor keys beyond", x.key(1, 99), Due.ILLEGAL);
        Due.due("14: but a normal form", x.key(0, 0), 0);
        Due.due("13: symmetries", x.property(5), 1);
        Due.due("13: different forms", x.property(6), 12);
        // One cell less: q + r goes to 10, an r of 10 is still too much; to 9 is not.
        x.undo();
        x.removeCell(5, 6, 0);
        Due.due("5: q + r up to 10, an r of 10", x.move(0, 1), Due.ILLEGAL);
        Due.due("5: q + r up to 10, a q of 10", x.move(0, 2), Due.ILLEGAL);
        Due.due("14: no canonical form", x.key(1, 0), Due.ILLEGAL);
        x.removeCell(5, 5, 0);
        Due.due("14: canonical form", x.key(1, 0), 0);
        Due.due("5: q + r up to 9", x.move(0, 1) >= 0 ? 1 : 0, 1);
    }

    private static void taking() {
        for (int lattice = 0; lattice < 3; lattice++) {
            CellFigures x = new CellFigures();
            x.setLattice(lattice);
            int greatest = x.count(3);
            Due.due("6: size 0", x.take(0, 0), Due.INVALID);
            Due.due("6: size too great", x.take(greatest + 1, 0), Due.INVALID);
            Due.due("6: size max", x.take(Integer.MAX_VALUE, 0), Due.INVALID);
            Due.due("6: index -1", x.take(1, -1), Due.INVALID);
            Due.due("6: no such figure", x.take(1, 1), Due.NONE);
            Due.due("6: no such figure", x.take(greatest, Integer.MAX_VALUE), Due.NONE);
            Due.due("6: nothing changed", x.count(4) * 10 + x.count(1), 10);
            for (int size = 1; size <= greatest; size++) {
                for (int i = 0; i < x.figures(1, size); i++) {
                    // No object is asked more often than the document says.
                    x = i % 50 == 0 ? Probe.on(lattice) : x;
                    int symmetries = x.take(size, i);
                    Due.due("6: symmetries", x.property(5), symmetries);
                    Due.due("6: the number", x.number(1), i);
                    Due.due("6: cells", x.count(1), size);
                    Due.due("6: the form", x.key(0, size - 1), x.key(1, size - 1));
                }
                Due.due("6: behind the last", x.take(size, x.figures(1, size)), Due.NONE);
            }
        }
        CellFigures x = new CellFigures();
        x.setLattice(1);
        Due.due("6: a triangle", x.take(1, 0), 6);
        Due.due("6: it has t = 0", x.hasCell(0, 0, 0), 1);
        x.setLattice(2);
        Due.due("6: a hexagon", x.take(1, 0), 12);
    }

    private static void history() {
        CellFigures x = new CellFigures();
        for (int i = 0; i < 9; i++) {
            x.addCell(i, 0, 0);
            Due.due("10: states", x.count(4), Math.min(i + 1, 6));
        }
        for (int i = 0; i < 6; i++) {
            Due.due("10: undo", x.undo(), 5 - i);
            Due.due("10: cells", x.count(1), 8 - i);
            Due.due("10: the last cell is gone", x.hasCell(8 - i, 0, 0), 0);
        }
        Due.due("10: undo of nothing", x.undo(), Due.ILLEGAL);
        Due.due("10: cells", x.count(1), 3);
        x.setLattice(1);
        x.addCell(1, 1, 1);
        x.append('a');
        Due.due("10: undo", x.undo(), 1);
        Due.due("10: undo", x.undo(), 0);
        Due.due("10: the lattice is back", x.count(0), 0);
        Due.due("10: and the draft", x.count(1) * 10 + x.hasCell(2, 0, 0), 31);
        Due.due("10: the text stays", x.count(5), 1);
    }

    private static void errorsChangeNothing() {
        CellFigures x = Due.make(0, "at 0 0 0; at 9 9 0;");
        x.append('x');
        x.setLattice(7);
        x.addCell(0, 0, 0);
        x.addCell(0, 0, 1);
        x.removeCell(5, 5, 0);
        x.move(0, 0);
        x.take(8, 0);
        x.take(4, 5);
        x.append(0);
        x.load();
        Due.due("errors change nothing: lattice", x.count(0), 0);
        Due.due("errors change nothing: cells", x.count(1), 2);
        Due.due("errors change nothing: history", x.count(4), 2);
        Due.due("errors change nothing: text", x.count(5), 1);
    }

    private static void counts() {
        CellFigures x = Due.make(1, "at 2 2 0; go 0;");
        x.append('a');
        int[] want = {1, 2, 1, 8, 2, 1};
        for (int i = 0; i < want.length; i++) {
            Due.due("11: count(" + i + ")", x.count(i), want[i]);
        }
        Due.due("11: count(-1)", x.count(-1), Due.INVALID);
        Due.due("11: count(6)", x.count(6), Due.INVALID);
        Due.due("11: count(max)", x.count(Integer.MAX_VALUE), Due.INVALID);
        Due.due("11: count(min)", x.count(Integer.MIN_VALUE), Due.INVALID);
        Due.due("11: count is no edit", x.count(4), 2);
        // Squares that touch at a corner are no neighbours; hexagons (1, 0) and (0, 1) are.
        Due.due("11: squares", Due.make(0, "at 1 0 0; at 0 1 0;").count(2), 0);
        Due.due("11: hexagons", Due.make(2, "at 1 0 0; at 0 1 0;").count(2), 1);
        Due.due("11: hexagons", Due.make(2, "at 0 0 0; at 1 1 0;").count(2), 0);
        Due.due("11: triangles", Due.make(1, "at 0 0 0; at 1 0 0;").count(2), 0);
        Due.due("11: triangles", Due.make(1, "at 0 0 1; at 1 0 0;").count(2), 1);
        Due.due("11: triangles", Due.make(1, "at 0 0 0; at 1 0 1;").count(2), 0);
        Due.due("11: one cell", Due.make(1, "at 9 9 1;").count(2), 1);
    }
}
