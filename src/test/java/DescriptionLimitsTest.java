/** Each sentence of the document's Description that names a limit or an edge, with a test of its own. */
public final class DescriptionLimitsTest {
    public static void main(String[] args) {
        theFirstLattice();
        theKindsOfCells();
        theNumbersOfTheNeighbours();
        theSymmetriesOfALattice();
        theKeys();
        theDraft();
        connectedSets();
        normalForms();
        imagesWithoutKeys();
        canonicalForms();
        sidesAndBorder();
        outerCellsAndHoles();
        theGreatestSizes();
        theOrderOfTheLists();
        theText();
        theItems();
        theRanges();
        theLastCell();
        theTokens();
        theErrorPositions();
        theEndInsideOfAnItem();
        theHistory();
        theEdits();
        noEdits();
        theCalls();
        Due.end();
    }

    // "There are three lattices, 0 squares, 1 triangles and 2 hexagons; the present one is 0 at first."
    private static void theFirstLattice() {
        CellFigures x = new CellFigures();
        Due.due("the first lattice", x.count(0), 0);
        Due.due("no lattice before the first", x.setLattice(-1), Due.INVALID);
        Due.due("no fourth lattice", x.setLattice(3), Due.INVALID);
        Due.due("the first lattice still", x.setLattice(2), 0);
        Due.due("the third lattice", x.setLattice(0), 2);
    }

    // "t is 0 or 1 for triangles, and 0 otherwise."
    private static void theKindsOfCells() {
        int[] t1 = {Due.INVALID, 0, Due.INVALID};
        for (int lattice = 0; lattice < 3; lattice++) {
            CellFigures x = Probe.on(lattice);
            Due.due("t = -1 on " + lattice, x.hasCell(4, 4, -1), Due.INVALID);
            Due.due("t = 0 on " + lattice, x.hasCell(4, 4, 0), 0);
            Due.due("t = 1 on " + lattice, x.hasCell(4, 4, 1), t1[lattice]);
            Due.due("t = 2 on " + lattice, x.hasCell(4, 4, 2), Due.INVALID);
        }
        CellFigures x = Probe.on(1);
        x.addCell(4, 4, 1);
        x.undo();
        x.undo();
        Due.due("the range of t comes and goes with the lattice", x.addCell(4, 4, 1), Due.INVALID);
    }

    // "The neighbours of a cell are numbered from 0": the first and the last number of each lattice.
    private static void theNumbersOfTheNeighbours() {
        String[][] first = {{"650"}, {"551", "550"}, {"650"}};
        String[][] last = {{"540"}, {"541", "560"}, {"640"}};
        int[] greatest = {3, 2, 5};
        for (int lattice = 0; lattice < 3; lattice++) {
            for (int t = 0; t < first[lattice].length; t++) {
                String at = "at 5 5 " + t + ";";
                Probe.draft("neighbour 0", Due.make(lattice, at + "go 0;"), "55" + t + " " + first[lattice][t]);
                Probe.draft("the last neighbour", Due.make(lattice, at + "go " + greatest[lattice] + ";"),
                        "55" + t + " " + last[lattice][t]);
                refused(lattice, at + "go " + (greatest[lattice] + 1) + ";", 12);
            }
        }
    }

    // "8 for squares, 12 for triangles and hexagons": figures with all of them, and figures with one alone.
    private static void theSymmetriesOfALattice() {
        String[] most = {"at440;", "at330;go012012;", "at440;"};
        String[] fewest = {"at440;go001;go1;go0;", "at440;go0102;go01;", "at440;go0011;go2;"};
        int[] all = {8, 12, 12};
        for (int lattice = 0; lattice < 3; lattice++) {
            CellFigures x = Due.make(lattice, most[lattice]);
            Due.due("all symmetries on " + lattice, x.property(5), all[lattice]);
            Due.due("one image on " + lattice, x.property(6), 1);
            CellFigures y = Due.make(lattice, fewest[lattice]);
            Due.due("one symmetry on " + lattice, y.property(5), 1);
            Due.due("as many images as symmetries on " + lattice, y.property(6), all[lattice]);
        }
    }

    // "The key of a cell with q and r from 0 to 9 is 20 * r + 2 * q + t": q, r and t at their ends.
    private static void theKeys() {
        CellFigures row = Due.make(0, "at000;go000000000;");
        CellFigures column = Due.make(0, "at000;go111111111;");
        for (int i = 0; i < 10; i++) {
            Due.due("q = " + i, row.key(0, i), 2 * i);
            Due.due("r = " + i, column.key(0, i), 20 * i);
        }
        CellFigures hook = Due.make(0, "at000;go11111111100;");
        Due.due("r = 9 and q = 2", hook.key(0, 11), 184);
        Due.due("q = 9 and r = 0 come first", Due.make(2, "at900;go222222222;").key(0, 0), 18);
        CellFigures pair = Due.make(1, "at991;go0;");
        Due.due("t = 0", pair.key(0, 0), 0);
        Due.due("t = 1", pair.key(0, 1), 1);
    }

    // "There is a draft, a set of at most 12 cells, with q and r from 0 to 9; it is empty at first."
    private static void theDraft() {
        for (int lattice = 0; lattice < 3; lattice++) {
            CellFigures x = Probe.on(lattice);
            Due.due("the draft is empty", x.count(1), 0);
            for (int i = 0; i < 12; i++) {
                Due.due("cell " + i, x.addCell(9 - i % 10, 9 * (i / 10), 0), i + 1);
            }
            Due.due("a thirteenth cell on " + lattice, x.addCell(4, 4, 0), Due.FULL);
            Due.due("twelve cells stay", x.count(1), 12);
            Due.due("the cell is not there", x.hasCell(4, 4, 0), 0);
            Due.due("one goes", x.removeCell(0, 0, 0), 11);
            Due.due("another comes", x.addCell(4, 4, 0), 12);
            Due.due("and none more", x.addCell(0, 0, 0), Due.FULL);
        }
        CellFigures x = new CellFigures();
        int[][] ends = {{0, 0}, {9, 0}, {0, 9}, {9, 9}};
        for (int i = 0; i < 4; i++) {
            Due.due("a corner", x.addCell(ends[i][0], ends[i][1], 0), i + 1);
        }
        int[][] beyond = {{-1, 0}, {10, 0}, {0, -1}, {0, 10}, {-1, -1}, {10, 10}};
        for (int[] c : beyond) {
            Due.due("behind a corner", x.addCell(c[0], c[1], 0), Due.INVALID);
        }
    }

    // "A set of cells is connected if it is not empty, and one gets from each of its cells to each other one".
    private static void connectedSets() {
        for (int lattice = 0; lattice < 3; lattice++) {
            CellFigures x = Probe.on(lattice);
            Due.due("an empty set", x.count(2), 0);
            x.addCell(4, 4, 0);
            Due.due("one cell", x.count(2), 1);
            x.addCell(9, 9, 0);
            Due.due("two cells apart", x.count(2), 0);
            x.removeCell(4, 4, 0);
            Due.due("one cell again", x.count(2), 1);
            x.removeCell(9, 9, 0);
            Due.due("an empty set again", x.count(2), 0);
        }
        CellFigures x = Due.make(0, "at000;go00000;at600;go00;go111;");
        Due.due("twelve cells", x.count(1) * 10 + x.count(2), 121);
        x.removeCell(9, 3, 0);
        Due.due("an end goes", x.count(2), 1);
        x.addCell(9, 3, 0);
        x.removeCell(5, 0, 0);
        Due.due("the middle goes", x.count(2), 0);
        // There is no way around the field: its ends are no neighbours.
        Due.due("the ends of a row", Due.make(0, "at900;at010;").count(2), 0);
        Due.due("the ends of a row", Due.make(0, "at000;at900;").count(2), 0);
        Due.due("the ends of a column", Due.make(2, "at000;at090;").count(2), 0);
        Due.due("the ends of a row", Due.make(1, "at901;at010;").count(2), 0);
    }

    // "after the shift for which the smallest q and the smallest r are 0"
    private static void normalForms() {
        CellFigures corner = Due.make(2, "at090;go5;");
        Due.due("no cell of it need be (0, 0)", corner.key(0, 0), 2);
        Due.due("nor any other", corner.key(0, 1), 20);
        CellFigures far = Due.make(0, "at990;");
        Due.due("the farthest cell", far.key(0, 0), 0);
        Due.due("the shift is made by move", far.move(0, 0), 0);
        Probe.draft("shifted", far, "000");
        CellFigures wide = Due.make(0, "at090;go000000000;");
        Due.due("a row that can't be shifted by q", wide.key(0, 9), 18);
        CellFigures high = Due.make(0, "at900;go111111111;");
        Due.due("a column that can't be shifted by r", high.key(0, 9), 180);
    }

    // "Images of a figure can have cells with a q or r above 9, which have no keys; their normal forms are
    // compared all the same".
    private static void imagesWithoutKeys() {
        CellFigures stairs = Due.make(2, "at000;go01010101010;");
        Due.due("an image with an r of 11", stairs.move(0, 1), Due.ILLEGAL);
        Due.due("the half turn is a symmetry", stairs.property(5), 2);
        Due.due("six different images", stairs.property(6), 6);
        CellFigures bent = Due.make(2, "at000;go00000111111;");
        Due.due("no symmetry but one", bent.property(5), 1);
        Due.due("twelve different images", bent.property(6), 12);
        CellFigures even = Due.make(2, "at000;go0000011111;");
        Due.due("an image with an r of 10", even.move(0, 1), Due.ILLEGAL);
        Due.due("a mirror image is the same", even.property(5), 2);
        CellFigures fits = Due.make(2, "at000;go000001111;");
        Due.due("an image with an r of 9", fits.move(0, 1) >= 0 ? 1 : 0, 1);
    }

    // "The canonical form of a figure is the lexicographically smallest one of the normal forms of all its images".
    private static void canonicalForms() {
        // The mirror image alone is the smallest one here: 0 2 4 20 for the figure 0 2 4 24.
        CellFigures x = Due.make(0, "at550;go00;go1;");
        Due.due("the fourth key of the figure", x.key(0, 3), 24);
        Due.due("the fourth key of its mirror image", x.key(1, 3), 20);
        Due.due("a figure that is canonical", Due.make(0, "at000;go00;at010;").key(1, 3), 20);
        Due.due("the other triangle", Due.make(1, "at001;").key(1, 0), 0);
        Due.due("a column of ten lies down", Due.make(0, "at000;go111111111;").key(1, 9), 18);
        Due.due("a falling row lies down", Due.make(2, "at900;go222222222;").key(1, 9), 18);
    }

    // "A side of a figure is a pair of a cell of it and a neighbour": a border cell can have more than one side.
    private static void sidesAndBorder() {
        CellFigures corner = Due.make(0, "at000;go01;");
        Due.due("sides", corner.property(0), 8);
        Due.due("the cell in the corner counts once", corner.property(1), 7);
        // Cells outside of the field from 0 to 9 are cells, too.
        String[] corners = {"at000;", "at900;", "at090;", "at990;"};
        int[] sides = {4, 3, 6};
        for (int lattice = 0; lattice < 3; lattice++) {
            for (String at : corners) {
                CellFigures x = Due.make(lattice, at);
                Due.due("sides in a corner on " + lattice, x.property(0), sides[lattice]);
                Due.due("border in a corner on " + lattice, x.property(1), sides[lattice]);
                Due.due("outer cells in a corner on " + lattice, x.property(2), sides[lattice]);
            }
        }
    }

    // "The outer cells are the border cells from which one can get [..] to cells as far away as one likes;
    // the other border cells belong to holes. A hole is a greatest connected set [..]".
    private static void outerCellsAndHoles() {
        CellFigures ring = Due.make(0, "at000;go00112233;");
        holes("a ring in the corner", ring, 12, 1, 1);
        ring.removeCell(2, 2, 0);
        holes("a ring without a corner cell", ring, 11, 1, 1);
        ring.removeCell(2, 1, 0);
        holes("a ring that is open", ring, 12, 0, 0);
        holes("a ring around the far corner's cell", Due.make(0, "at770;go00112233;"), 12, 1, 1);
        holes("a hole of four", Due.make(0, "at000;go00011122233;"), 16, 1, 4);
        holes("a hole that is a hexagon", Due.make(2, "at100;go012345;"), 12, 1, 1);
        holes("a hole with a cell inside that is no border cell", Due.make(2, "at200;go00112233445;"), 18, 1, 7);
        holes("two holes", Due.make(0, "at100;go0101122323;go3;"), 14, 2, 2);
        // Nine triangles are the fewest around one.
        CellFigures nine = Due.make(1, "at331;go21020210;");
        holes("nine triangles around one", nine, 8, 1, 1);
        nine.removeCell(3, 3, 1);
        holes("eight of them", nine, 9, 0, 0);
        // Among the images are those with the hole in the first or last row or column of the figure.
        for (int i = 0; i < 12; i++) {
            CellFigures image = Due.make(1, "at331;go21020210;");
            image.move(i / 6, i % 6);
            holes("nine triangles around one, image " + i, image, 8, 1, 1);
        }
        for (int lattice = 0; lattice < 3; lattice++) {
            holes("one cell on " + lattice, Due.make(lattice, "at550;"), lattice == 0 ? 4 : lattice * 3, 0, 0);
        }
    }

    private static void holes(String what, CellFigures x, int outer, int holes, int cells) {
        Due.due(what + ": outer cells", x.property(2), outer);
        Due.due(what + ": holes", x.property(3), holes);
        Due.due(what + ": cells of holes", x.property(4), cells);
    }

    // "from 1 to the greatest size (7 for squares, 8 for triangles, 6 for hexagons)"
    private static void theGreatestSizes() {
        int[] greatest = {7, 8, 6};
        int[] fixed = {760, 675, 814};
        int[] free = {108, 66, 82};
        for (int lattice = 0; lattice < 3; lattice++) {
            CellFigures x = Probe.on(lattice);
            Due.due("the greatest size on " + lattice, x.count(3), greatest[lattice]);
            Due.due("no size 0", x.figures(0, 0), Due.INVALID);
            Due.due("size 1, fixed", x.figures(0, 1), lattice == 1 ? 2 : 1);
            Due.due("size 1, free", x.figures(1, 1), 1);
            Due.due("the greatest size, fixed", x.figures(0, greatest[lattice]), fixed[lattice]);
            Due.due("the greatest size, free", x.figures(1, greatest[lattice]), free[lattice]);
            Due.due("a greater size", x.figures(0, greatest[lattice] + 1), Due.INVALID);
            Due.due("a greater size", x.figures(1, greatest[lattice] + 1), Due.INVALID);
        }
    }

    // "each in lexicographic order and numbered from 0": the first and the last figure of each list.
    private static void theOrderOfTheLists() {
        // They begin as far to the right as the size allows, and go down as fast as they can.
        int[][] lastFixed = {{10, 20, 22, 24, 26, 28, 30}, {7, 25, 26, 43, 44, 61, 62, 80}, {10, 28, 46, 64, 82, 100}};
        for (int lattice = 0; lattice < 3; lattice++) {
            CellFigures x = Probe.on(lattice);
            int size = x.count(3);
            for (int list = 0; list < 2; list++) {
                int length = x.figures(list, size);
                Due.due("number 0", x.figure(list, size, 0, 0), 0);
                Due.due("behind the last number", x.figure(list, size, length, 0), Due.NONE);
                Due.due("before number 0", x.figure(list, size, -1, 0), Due.INVALID);
                inOrder(x, list, size, 0, 4);
                inOrder(x, list, size, length - 5, 4);
            }
            for (int place = 0; place < size; place++) {
                Due.due("the last fixed figure on " + lattice, x.figure(0, size, x.figures(0, size) - 1, place),
                        lastFixed[lattice][place]);
            }
        }
    }

    /** Tells that some figures of a list stand in lexicographic order. */
    private static void inOrder(CellFigures x, int list, int size, int from, int number) {
        for (int i = from; i < from + number; i++) {
            int place = 0;
            while (place < size - 1 && x.figure(list, size, i, place) == x.figure(list, size, i + 1, place)) {
                place++;
            }
            Due.due("figure " + i + " of list " + list + " stands before the next",
                    x.figure(list, size, i, place) < x.figure(list, size, i + 1, place) ? 1 : 0, 1);
        }
    }

    // ---- the text

    private static void read(int lattice, String text, String cells) {
        CellFigures x = Probe.on(lattice);
        Due.type(x, text);
        int number = cells.isEmpty() ? 0 : cells.split(" ").length;
        Due.due("\"" + text + "\" on " + lattice, x.load(), number);
        Due.due("\"" + text + "\" is gone", x.count(5), 0);
        Probe.draft("\"" + text + "\" on " + lattice, x, cells);
    }

    private static void refused(int lattice, String text, int position) {
        CellFigures x = Probe.on(lattice);
        x.addCell(8, 8, 0);
        Due.type(x, text);
        Due.due("\"" + text + "\" on " + lattice, x.load(), -10 - position);
        Due.due("\"" + text + "\" stays", x.count(5), text.length());
        Due.due("\"" + text + "\" is no edit", x.count(4), 2);
        Probe.draft("\"" + text + "\" is no draft", x, "880");
    }

    // "a text of at most 80 characters, a sequence of items (possibly none), each of which ends with ';'"
    private static void theText() {
        read(0, "", "");
        read(0, " ", "");
        read(0, " ".repeat(80), "");
        read(0, "at120;", "120");
        read(0, " ".repeat(74) + "at120;", "120");
        read(0, "at120;" + " ".repeat(74), "120");
        read(0, "at120;go" + "00002222".repeat(8) + "0202020;", "120 220 320 420 520");
        read(0, "at120;" + "go0;go2;".repeat(9) + "  ", "120 220");
        CellFigures x = new CellFigures();
        Due.type(x, " ".repeat(74) + "at120;");
        Due.due("an 81st character", x.append('x'), Due.FULL);
        Due.due("the eighty are read", x.load(), 1);
        Due.due("there is room again", x.append('x'), 1);
        refused(0, ";", 0);
        refused(0, "at120;;", 6);
        refused(0, "at120", 5);
    }

    // "'at' Q R T adds the cell; it must not be in the draft already", "'go' D { D } goes [..] and adds these cells
    // unless they are in the draft already"
    private static void theItems() {
        read(0, "at120;at990;", "120 990");
        refused(0, "at120;at120;", 10);
        read(0, "at120;go0;", "120 220");
        read(0, "at120;go02;", "120 220");
        read(0, "at120;go0202020;", "120 220");
        refused(0, "at120;go;", 8);
        refused(0, "at120;go0;at220;", 14);
        // "beginning with an empty draft": the draft that is there does not count.
        CellFigures x = new CellFigures();
        x.addCell(1, 2, 0);
        x.addCell(9, 9, 0);
        Due.type(x, "at120;");
        Due.due("a cell of the draft before", x.load(), 1);
        Probe.draft("a cell of the draft before", x, "120");
        Due.type(x, "go0;");
        Due.due("the last cell of the text before", x.load(), -10);
    }

    // "Q and R are from 0 to 9, T is 0 or 1 (1 for triangles only), D is a number of a neighbour."
    private static void theRanges() {
        for (int lattice = 0; lattice < 3; lattice++) {
            read(lattice, "at000;", "000");
            read(lattice, "at990;", "990");
            read(lattice, "at090;", "090");
            read(lattice, "at900;", "900");
            refused(lattice, "at002;", 4);
            refused(lattice, "at009;", 4);
        }
        read(1, "at991;", "991");
        refused(0, "at001;", 4);
        refused(2, "at001;", 4);
        read(0, "at550;go3;", "550 540");
        refused(0, "at550;go4;", 8);
        read(1, "at550;go2;", "550 541");
        refused(1, "at550;go3;", 8);
        read(1, "at551;go2;", "551 560");
        refused(1, "at551;go3;", 8);
        read(2, "at550;go5;", "550 640");
        refused(2, "at550;go6;", 8);
    }

    // "The last cell is the cell of the 'at' or the cell to which one came by the 'go' before."
    private static void theLastCell() {
        read(0, "at120;at550;go0;", "120 550 650");
        read(0, "at120;go0;go1;", "120 220 230");
        // also if the last step came to a cell that was in the draft
        read(0, "at120;go02;go1;", "120 220 130");
        read(1, "at550;go0;go1;", "550 551 650");
    }

    // "Words are maximal runs of letters a to z; each digit is a token by itself, and so is ';'. Spaces (code 32)
    // may stand before, between and after tokens."
    private static void theTokens() {
        read(0, "at120;go01;", "120 220 230");
        read(0, "  at  1  2  0  ;  go  0  1  ;  ", "120 220 230");
        read(0, "at12 0 ;go 01;", "120 220 230");
        refused(0, "a t120;", 0);
        refused(0, "at120;g o0;", 6);
        refused(0, "ata120;", 0);
        refused(0, "atz120;", 0);
        refused(0, "aat120;", 0);
        refused(0, "zat120;", 0);
        refused(0, "at120;goat;", 6);
        refused(0, "at120;goo0;", 6);
        // the signs next to 'a', 'z', '0', '9', ';' and the space
        refused(0, "at`120;", 2);
        refused(0, "at{120;", 2);
        refused(0, "at1/20;", 3);
        refused(0, "at1:20;", 3);
        refused(0, "at120:", 5);
        refused(0, "at120<", 5);
        refused(0, "at" + (char) 31 + "120;", 2);
        refused(0, "at!120;", 2);
        refused(0, "at120;" + (char) 1, 6);
        refused(0, "at120;" + (char) 255, 6);
        refused(0, "at120;" + (char) 160, 6);
        refused(0, "at120;\t", 6);
        refused(0, "at120;\n", 6);
        refused(0, "At120;", 0);
        // a sign behind a word is a token of its own
        refused(0, "at120;goX0;", 8);
        refused(0, "atT120;", 2);
    }

    // "The error position is the offset (from 0) of the first character of the first token that is not allowed".
    private static void theErrorPositions() {
        // by the grammar
        refused(0, "1", 0);
        refused(0, "   at;", 5);
        refused(0, "at 1 2 ;", 7);
        refused(0, "at 0 0 ;", 7);
        refused(0, "at 0 ;", 5);
        refused(0, "at 1 2 0 3;", 9);
        refused(0, "at 1 2 0 at 1 3 0;", 9);
        refused(0, "at 1 2 0;go 0 at 1 3 0;", 14);
        // another word, of which the first character counts
        refused(0, "at120;  attach", 8);
        refused(0, "at120;  go  gone", 12);
        // another character
        refused(0, "at120; .", 7);
        // a digit out of its range
        refused(0, "at 1 2 1;", 7);
        refused(0, "at120;go 0 0 4;", 13);
        // the T of a cell that is in the draft already
        refused(0, "at120;at130;at 1 2 0;", 19);
        refused(1, "at120;go0;at 1 2 1;", 17);
        // a D that leads to a cell with a q or r that is not 0 to 9
        refused(0, "at020;go2;", 8);
        refused(0, "at100;go3;", 8);
        refused(0, "at920;go0;", 8);
        refused(0, "at190;go1;", 8);
        refused(0, "at820;go0 0;", 10);
        refused(1, "at020;go1;", 8);
        refused(1, "at120;go 2 0 2 0 2 0;", 17);
        refused(1, "at921;go1;", 8);
        refused(1, "at191;go2;", 8);
        refused(2, "at050;go3;", 8);
        refused(2, "at050;go2;", 8);
        refused(2, "at500;go4;", 8);
        refused(2, "at500;go5;", 8);
        refused(2, "at950;go5;", 8);
        refused(2, "at590;go2;", 8);
        // a "go" as the first item
        refused(0, "go", 0);
        refused(0, "  go0;", 2);
        refused(0, "go0;at120;", 0);
        theThirteenthCell();
        // the first one of several that are not allowed
        refused(0, "at121;at!", 4);
        refused(0, "x y", 0);
    }

    // "the T or D by which a thirteenth cell would be added"
    private static void theThirteenthCell() {
        String twelve = "at000;go00000000011;";
        read(0, twelve, "000 100 200 300 400 500 600 700 800 900 910 920");
        refused(0, twelve + "at550;", 24);
        refused(0, twelve + "at 5 5 0", 27);
        refused(0, twelve + "go1;", 22);
        refused(0, twelve + "go 3 3 2 0 1 1 1;", 35);
        // cells that are there may be gone to, and the T of one of them is refused as such
        read(0, twelve + "go3322;", "000 100 200 300 400 500 600 700 800 900 910 920");
        refused(0, twelve + "at000;", 24);
        // the error that comes before
        refused(0, twelve + "at551;", 24);
        refused(0, twelve + "go4;", 22);
        refused(0, twelve + "go0;", 22);
    }

    // "If the text ends inside of an item, the error position is the length of the text."
    private static void theEndInsideOfAnItem() {
        String[] texts = {"at", "at ", "at1", "at12", "at120", "at120   ", "at120;go", "at120;go ", "at120;go0",
            "at120;go01 ", "at120;at", " at120 ; at9"};
        for (String text : texts) {
            refused(0, text, text.length());
        }
        refused(0, "at120" + " ".repeat(75), 80);
        refused(0, "at120;go" + "02".repeat(36), 80);
        refused(0, " ".repeat(78) + "at", 80);
        // an error before the end comes first, also if it is the last token
        refused(0, "at121", 4);
        refused(0, "at120;a", 6);
        refused(0, "at120;go4", 8);
    }

    // "A history of at most 6 states is kept; [..] when a seventh one is recorded, the oldest one is dropped."
    private static void theHistory() {
        for (int edits = 0; edits <= 20; edits++) {
            CellFigures x = new CellFigures();
            for (int i = 0; i < edits; i++) {
                // cells come and go in turn, each state is another one
                int ignored = i < 10 ? x.addCell(i, 0, 0) : x.removeCell(i - 10, 0, 0);
            }
            int kept = Math.min(edits, 6);
            Due.due("states after " + edits + " edits", x.count(4), kept);
            for (int left = kept - 1; left >= 0; left--) {
                Due.due("undo after " + edits + " edits", x.undo(), left);
                int past = edits - kept + left;
                Due.due("the draft after " + past + " edits", x.count(1), past <= 10 ? past : 20 - past);
                Due.due("its first cell", x.hasCell(0, 0, 0), past > 0 && past <= 10 ? 1 : 0);
            }
            Due.due("no more states", x.undo(), Due.ILLEGAL);
        }
        aRunUpAndDown();
    }

    /** The history goes around many times, with undo calls in between. */
    private static void aRunUpAndDown() {
        CellFigures x = new CellFigures();
        for (int i = 0; i < 9; i++) {
            x.addCell(i, 5, 0);
        }
        for (int round = 0; round < 25; round++) {
            x.addCell(9, 5, 0);
            x.removeCell(0, 5, 0);
            Due.due("the states are full", x.count(4), 6);
            Due.due("one back", x.undo(), 5);
            Due.due("the cell is back", x.hasCell(0, 5, 0), 1);
            Due.due("two back", x.undo(), 4);
            Due.due("the cell is gone", x.hasCell(9, 5, 0), 0);
            x.addCell(round % 9, 6, 0);
            x.setLattice(round % 3);
            Due.due("the states are full again", x.count(4), 6);
            x.undo();
            Due.due("the lattice is back", x.count(0), 0);
            Due.due("the draft is back", x.hasCell(round % 9, 6, 0), 1);
            x.undo();
            Due.due("nine cells", x.count(1), 9);
            x.setLattice(0);
            x.undo();
            x.move(0, 0);
            x.undo();
            Due.due("they are where they were", x.hasCell(8, 5, 0), 1);
        }
    }

    // "Every successful call of a method that is called an edit records the state before it": also a call that
    // leaves the draft as it is. "a state consists of the lattice and the draft": not of the text.
    private static void theEdits() {
        Probe.Call[] edits = {x -> x.setLattice(0), x -> x.addCell(5, 5, 0), x -> x.removeCell(0, 0, 0),
            x -> x.move(0, 0), x -> x.take(1, 0), x -> x.load()};
        for (int i = 0; i < edits.length; i++) {
            CellFigures x = new CellFigures();
            x.addCell(0, 0, 0);
            Due.type(x, "at000;");
            Due.due("edit " + i + " succeeds", edits[i].on(x) >= 0 ? 1 : 0, 1);
            Due.due("edit " + i + " is recorded", x.count(4), 2);
            Due.due("edit " + i + " leaves the text, but for load", x.count(5), i == 5 ? 0 : 6);
            Due.due("edit " + i + " is undone", x.undo(), 1);
            Due.due("undo leaves the text", x.count(5), i == 5 ? 0 : 6);
            Probe.draft("edit " + i + " is undone", x, "000");
        }
    }

    // No other method is called an edit.
    private static void noEdits() {
        Probe.Call[] calls = {x -> x.count(1), x -> x.hasCell(0, 0, 0), x -> x.property(6), x -> x.key(1, 0),
            x -> x.number(1), x -> x.relatives(0), x -> x.figures(1, 5), x -> x.figure(0, 5, 3, 2),
            x -> x.withSides(5, 10), x -> x.withSymmetries(5, 1), x -> x.withHoles(6), x -> x.connectedSets(4, 4, 0)};
        for (int i = 0; i < calls.length; i++) {
            for (int lattice = 0; lattice < 3; lattice++) {
                CellFigures x = Probe.busy(lattice);
                calls[i].on(x);
                Probe.isAsBusy("question " + i + " on " + lattice, x, lattice);
            }
        }
        CellFigures x = new CellFigures();
        x.append('a');
        x.clearText();
        Due.due("the text is not in the history", x.count(4), 0);
    }

    // "An object is used for at most 512 calls after it has been made": the 512th call is answered as the first.
    private static void theCalls() {
        Probe.Call[] last = {x -> x.figures(0, 7), x -> x.figure(1, 7, 107, 0), x -> x.connectedSets(4, 5, 20),
            x -> x.withHoles(7), x -> x.addCell(9, 9, 0), x -> x.relatives(0), x -> x.undo(), x -> x.append('a'),
            x -> x.load()};
        for (int i = 0; i < last.length; i++) {
            CellFigures x = new CellFigures();
            Reference y = new Reference();
            for (int call = 1; call < 512; call++) {
                int q = call * 7 % 10;
                Due.due("call " + call, call % 2 == 0 ? x.undo() : x.addCell(q, q, 0),
                        call % 2 == 0 ? y.undo() : y.addCell(q, q, 0));
            }
            int[] want = {760, y.figure(1, 7, 107, 0), 1, 4, 2, 1, 0, 1, 0};
            Due.due("call 512, kind " + i, last[i].on(x), want[i]);
        }
    }
}
