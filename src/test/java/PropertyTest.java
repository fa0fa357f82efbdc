/** Promises 13 to 16: the properties of the draft, its keys, its numbers and its relatives. */
public final class PropertyTest {
    public static void main(String[] args) {
        knownProperties();
        wrongProperties();
        keys();
        numbers();
        relatives();
        places();
        Due.end();
    }

    private static void properties(int lattice, String text, int... want) {
        CellFigures x = Due.make(lattice, text);
        for (int i = 0; i < want.length; i++) {
            Due.due("13: property(" + i + ") of \"" + text + "\" on " + lattice, x.property(i), want[i]);
        }
    }

    private static void knownProperties() {
        properties(0, "at000;", 4, 4, 4, 0, 0, 8, 1);
        properties(1, "at000;", 3, 3, 3, 0, 0, 6, 2);
        properties(1, "at991;", 3, 3, 3, 0, 0, 6, 2);
        properties(2, "at550;", 6, 6, 6, 0, 0, 12, 1);
        // a ring of eight squares, and the ring of seven whose open corner makes the hole one still
        properties(0, "at440;go00112233;", 16, 13, 12, 1, 1, 8, 1);
        properties(0, "at540;go011223;", 16, 12, 11, 1, 1, 2, 4);
        // two holes of one square each, and one hole of two
        properties(0, "at100;go0101122323;", 24, 15, 13, 2, 2, 2, 4);
        properties(0, "at220;go00011222;go33;", 20, 16, 14, 1, 2, 4, 2);
        // the smallest ring of hexagons, and the ring of twelve with a hole of seven
        properties(2, "at550;go012345;", 24, 13, 12, 1, 1, 12, 1);
        properties(2, "at640;go123450;", 24, 13, 12, 1, 1, 12, 1);
        properties(2, "at730;go112233445500;", 48, 24, 18, 1, 7, 12, 1);
        // six triangles around a corner
        properties(1, "at330;go012012;", 6, 6, 6, 0, 0, 12, 1);
    }

    private static void wrongProperties() {
        CellFigures x = Due.make(0, "at000;");
        Due.due("13: property(-1)", x.property(-1), Due.INVALID);
        Due.due("13: property(7)", x.property(7), Due.INVALID);
        Due.due("13: property(max)", x.property(Integer.MAX_VALUE), Due.INVALID);
        CellFigures empty = new CellFigures();
        CellFigures apart = Due.make(0, "at000;at110;");
        for (int i = 0; i < 7; i++) {
            Due.due("13: of an empty draft", empty.property(i), Due.ILLEGAL);
            Due.due("13: not connected", apart.property(i), Due.ILLEGAL);
        }
        Due.due("13: out of range comes first", empty.property(7), Due.INVALID);
    }

    private static void keys() {
        CellFigures x = Due.make(0, "at 7 8 0; go 0 1 3 0;");
        int[] normal = {0, 2, 4, 22};
        int[] canonical = {0, 2, 4, 22};
        for (int i = 0; i < 4; i++) {
            Due.due("14: key(0, " + i + ")", x.key(0, i), normal[i]);
            Due.due("14: key(1, " + i + ")", x.key(1, i), canonical[i]);
        }
        Due.due("14: key(0, 4)", x.key(0, 4), Due.NONE);
        Due.due("14: key(1, 4)", x.key(1, 4), Due.NONE);
        Due.due("14: key(1, max)", x.key(1, Integer.MAX_VALUE), Due.NONE);
        Due.due("14: key(-1, 0)", x.key(-1, 0), Due.INVALID);
        Due.due("14: key(2, 0)", x.key(2, 0), Due.INVALID);
        Due.due("14: key(0, -1)", x.key(0, -1), Due.INVALID);
        Due.due("14: key(1, min)", x.key(1, Integer.MIN_VALUE), Due.INVALID);
        CellFigures y = Due.make(1, "at 4 4 0; go 1;");
        Due.due("14: triangles", y.key(0, 0) * 10 + y.key(0, 1), 12);
        Due.due("14: triangles", y.key(1, 0) * 10 + y.key(1, 1), 1);
        CellFigures empty = new CellFigures();
        Due.due("14: an empty draft", empty.key(0, 0), Due.ILLEGAL);
        Due.due("14: an empty draft", empty.key(1, 5), Due.ILLEGAL);
        Due.due("14: out of range comes first", empty.key(1, -5), Due.INVALID);
    }

    private static void numbers() {
        for (int lattice = 0; lattice < 3; lattice++) {
            CellFigures x = new CellFigures();
            x.setLattice(lattice);
            Due.due("15: an empty draft", x.number(0), Due.ILLEGAL);
            Due.due("15: number(-1)", x.number(-1), Due.INVALID);
            Due.due("15: number(2)", x.number(2), Due.INVALID);
            x.take(x.count(3), 3);
            Due.due("15: a free figure", x.number(1), 3);
            int fixed = x.number(0);
            for (int i = 0; i < x.count(3); i++) {
                Due.due("15: the fixed figure", x.figure(0, x.count(3), fixed, i), x.key(0, i));
            }
            x.move(1, 1);
            Due.due("15: an image is alike", x.number(1), 3);
        }
        CellFigures x = Due.make(0, "at000;go0000000;");
        Due.due("15: more cells than the greatest size", x.number(0), Due.NONE);
        Due.due("15: more cells than the greatest size", x.number(1), Due.NONE);
        x.removeCell(0, 0, 0);
        Due.due("15: a bar is the first", x.number(0) + x.number(1), 0);
        x.removeCell(3, 0, 0);
        Due.due("15: not connected", x.number(1), Due.ILLEGAL);
        Due.due("15: a hexagon figure of seven", Due.make(2, "at000;go000000;").number(0), Due.NONE);
        Due.due("15: a triangle figure of nine", Due.make(1, "at000;go01010101;").number(1), Due.NONE);
        Due.due("15: a triangle", Due.make(1, "at550;").number(0), 0);
        Due.due("15: a triangle", Due.make(1, "at551;").number(0), 1);
        Due.due("15: a triangle", Due.make(1, "at551;").number(1), 0);
    }

    private static void relatives() {
        CellFigures x = new CellFigures();
        Due.due("16: an empty draft", x.relatives(0), Due.ILLEGAL);
        Due.due("16: relatives(-1)", x.relatives(-1), Due.INVALID);
        Due.due("16: relatives(2)", x.relatives(2), Due.INVALID);
        for (int lattice = 0; lattice < 3; lattice++) {
            CellFigures y = Due.make(lattice, "at000;");
            Due.due("16: one cell, adding", y.relatives(0), 1);
            Due.due("16: one cell, removing", y.relatives(1), 0);
        }
        CellFigures bar = Due.make(0, "at000;go000000;");
        Due.due("16: a bar of seven, adding", bar.relatives(0), 5);
        Due.due("16: a bar of seven, removing", bar.relatives(1), 1);
        bar.addCell(7, 0, 0);
        Due.due("16: eight cells", bar.relatives(0), Due.ILLEGAL);
        Due.due("16: eight cells", bar.relatives(1), Due.ILLEGAL);
        Due.due("16: out of range comes first", bar.relatives(2), Due.INVALID);
        bar.removeCell(4, 0, 0);
        Due.due("16: not connected", bar.relatives(0), Due.ILLEGAL);
        Due.due("16: two hexagons", Due.make(2, "at000;go0;").relatives(0), 3);
        Due.due("16: five around one", Due.make(2, "at550;go0234 5;").relatives(1), 4);
        Due.due("16: one on the edge", Due.make(0, "at000;go0;").relatives(0), 2);
        Due.due("16: one in the far corner", Due.make(0, "at990;go2;").relatives(0), 2);
        Due.due("16: no edit", bar.count(4), 4);
    }

    /** The answers don't depend on where in the field a figure lies. */
    private static void places() {
        int[] first = null;
        for (int q = 0; q < 8; q++) {
            for (int r = 0; r < 8; r++) {
                CellFigures x = new CellFigures();
                int[][] shape = {{0, 0}, {1, 0}, {2, 0}, {0, 1}, {2, 1}, {0, 2}, {1, 2}};
                for (int[] c : shape) {
                    x.addCell(q + c[0], r + c[1], 0);
                }
                int[] now = new int[11];
                for (int i = 0; i < 7; i++) {
                    now[i] = x.property(i);
                }
                now[7] = x.relatives(0);
                now[8] = x.relatives(1);
                now[9] = x.number(0);
                now[10] = x.number(1);
                first = first == null ? now : first;
                for (int i = 0; i < now.length; i++) {
                    Due.due("13 to 16: shifted by " + q + ", " + r + ": answer " + i, now[i], first[i]);
                }
            }
        }
    }
}
