/**
 * The limits that each promise names: the ends of every range, what lies behind them, what a call is refused for,
 * which error comes first, and that a refused call changes nothing.
 */
public final class PromiseLimitsTest {
    private static final int MAX = Probe.MAX;
    private static final int MIN = Probe.MIN;
    private static final int[] GREATEST = {7, 8, 6};
    /** Twelve squares or hexagons in a bent row. */
    private static final String TWELVE = "at000;go00000000011;";
    /** Twelve hexagons, of which turned once one has an r of 11. */
    private static final String TOO_WIDE = "at000;go00000111111;";

    public static void main(String[] args) {
        newObject();
        setLattice();
        cellArguments();
        addCell();
        removeCell();
        move();
        moveThatDoesNotFit();
        take();
        append();
        clearText();
        load();
        undo();
        count();
        hasCell();
        property();
        key();
        number();
        relatives();
        figures();
        figure();
        withSides();
        withSymmetries();
        withHoles();
        connectedSets();
        blocksAtTheLimit();
        Due.end();
    }

    // 1: "Creates a workbench for squares with an empty draft and an empty text."
    private static void newObject() {
        CellFigures x = new CellFigures();
        Due.due("1: squares", x.count(0), 0);
        Due.due("1: an empty draft", x.count(1), 0);
        Due.due("1: it is not connected", x.count(2), 0);
        Due.due("1: the greatest size", x.count(3), 7);
        Due.due("1: no states", x.count(4), 0);
        Due.due("1: an empty text", x.count(5), 0);
        Due.due("1: nothing to undo", new CellFigures().undo(), Due.ILLEGAL);
        Due.due("1: an empty text is cleared", new CellFigures().clearText(), 0);
        Due.due("1: an empty text is read", new CellFigures().load(), 0);
        Due.due("1: no cell to remove", new CellFigures().removeCell(0, 0, 0), Due.ILLEGAL);
        Due.due("1: an edit of a new object is undone", edited(new CellFigures()).undo(), 0);
    }

    private static CellFigures edited(CellFigures x) {
        x.addCell(0, 0, 0);
        return x;
    }

    // 2: "INVALID_ARGUMENT if lattice is out of range"; "The draft becomes empty."
    private static void setLattice() {
        int[] bad = {-1, 3, 4, MAX, MIN};
        for (int b : bad) {
            Probe.changesNothing("2: setLattice(" + b + ")", x -> x.setLattice(b), Due.INVALID);
        }
        for (int from = 0; from < 3; from++) {
            for (int to = 0; to < 3; to++) {
                CellFigures x = Due.make(from, "at550;go0;");
                Due.due("2: the previous lattice", x.setLattice(to), from);
                Due.due("2: the lattice", x.count(0), to);
                Probe.draft("2: from " + from + " to " + to, x, "");
                Due.due("2: an edit", x.undo(), 2);
                Due.due("2: the lattice is back", x.count(0), from);
                Due.due("2: and the draft", x.count(1), 2);
            }
        }
        CellFigures full = Due.make(0, TWELVE);
        Due.due("2: with a full draft", full.setLattice(0), 0);
        Due.due("2: it becomes empty", full.count(1), 0);
    }

    // 3, 4 and 12: "q: 0 to 9, r: 0 to 9, t: 0, or 1 for triangles"
    private static void cellArguments() {
        int[][] bad = {{-1, 1, 0}, {10, 1, 0}, {1, -1, 0}, {1, 10, 0}, {1, 1, -1}, {1, 1, 2}, {MAX, 1, 0}, {MIN, 1, 0},
            {1, MAX, 0}, {1, MIN, 0}, {1, 1, MAX}, {1, 1, MIN},
            // numbers that would be the cell (1, 1, 0) if a part of them were cut off
            {1 + 64, 1, 0}, {1 + 256, 1, 0}, {1 + 65536, 1, 0}, {1, 1 + 256, 0}, {1, 1 + (1 << 25), 0}, {1, 1, 1 << 8},
            {11, 0, 0}, {-9, 2, 0}, {1, 1, 4}, {0, 1, 2}, {2, 1, -2}};
        for (int[] b : bad) {
            String cell = "(" + b[0] + ", " + b[1] + ", " + b[2] + ")";
            Probe.changesNothing("3: addCell" + cell, x -> x.addCell(b[0], b[1], b[2]), Due.INVALID);
            Probe.changesNothing("4: removeCell" + cell, x -> x.removeCell(b[0], b[1], b[2]), Due.INVALID);
            Probe.changesNothing("12: hasCell" + cell, x -> x.hasCell(b[0], b[1], b[2]), Due.INVALID);
        }
        for (int lattice = 0; lattice < 3; lattice += 2) {
            Probe.changesNothing("3: t = 1", x -> x.addCell(1, 1, 1), lattice, Due.INVALID);
            Probe.changesNothing("4: t = 1", x -> x.removeCell(1, 1, 1), lattice, Due.INVALID);
            Probe.changesNothing("12: t = 1", x -> x.hasCell(1, 1, 1), lattice, Due.INVALID);
        }
        // The corners are cells like any others.
        int[][] corners = {{0, 0}, {9, 0}, {0, 9}, {9, 9}};
        for (int lattice = 0; lattice < 3; lattice++) {
            for (int[] c : corners) {
                for (int t = 0; t <= (lattice == 1 ? 1 : 0); t++) {
                    CellFigures x = Probe.on(lattice);
                    Due.due("12: not there yet", x.hasCell(c[0], c[1], t), 0);
                    Due.due("3: a corner", x.addCell(c[0], c[1], t), 1);
                    Due.due("12: it is there", x.hasCell(c[0], c[1], t), 1);
                    Due.due("4: a corner", x.removeCell(c[0], c[1], t), 0);
                    Due.due("12: it is gone", x.hasCell(c[0], c[1], t), 0);
                }
            }
        }
    }

    // 3: "ILLEGAL_STATE if the cell is in the draft already; CAPACITY_EXCEEDED if the draft has 12 cells"
    private static void addCell() {
        Probe.changesNothing("3: a cell of the draft", x -> x.addCell(1, 1, 0), Due.ILLEGAL);
        Probe.changesNothing("3: the latest cell of the draft", x -> x.addCell(7, 7, 0), Due.ILLEGAL);
        for (int lattice = 0; lattice < 3; lattice++) {
            CellFigures x = Probe.on(lattice);
            for (int i = 0; i < 11; i++) {
                x.addCell(i % 10, 2 + i / 10, 0);
            }
            Due.due("3: the twelfth cell", x.addCell(9, 9, 0), 12);
            Due.due("3: the thirteenth cell", x.addCell(8, 8, 0), Due.FULL);
            Due.due("3: out of range comes before full", x.addCell(8, 10, 0), Due.INVALID);
            Due.due("3: there already comes before full", x.addCell(9, 9, 0), Due.ILLEGAL);
            Due.due("3: out of range comes before all", x.addCell(9, 9, 2), Due.INVALID);
            Due.due("3: twelve cells", x.count(1), 12);
            Due.due("3: the thirteenth is not there", x.hasCell(8, 8, 0), 0);
            Due.due("3: the last edit is the twelfth cell", x.undo(), 5);
            Due.due("3: it is undone", x.count(1) * 10 + x.hasCell(9, 9, 0), 110);
            Due.due("3: there is room for one", x.addCell(8, 8, 0), 12);
        }
        // Both triangles of a place are cells of their own.
        CellFigures x = Probe.on(1);
        Due.due("3: t = 0", x.addCell(3, 3, 0), 1);
        Due.due("3: t = 1", x.addCell(3, 3, 1), 2);
        Due.due("3: t = 1 again", x.addCell(3, 3, 1), Due.ILLEGAL);
    }

    // 4: "ILLEGAL_STATE if the cell is not in the draft"
    private static void removeCell() {
        Probe.changesNothing("4: a cell that is not there", x -> x.removeCell(2, 2, 0), Due.ILLEGAL);
        Probe.changesNothing("4: the other triangle", x -> x.removeCell(1, 1, 1), 1, Due.ILLEGAL);
        for (int lattice = 0; lattice < 3; lattice++) {
            CellFigures x = Probe.on(lattice);
            Due.due("4: from an empty draft", x.removeCell(0, 0, 0), Due.ILLEGAL);
            Due.due("4: no edit", x.count(4), 1);
            x.addCell(0, 0, 0);
            Due.due("4: the only cell", x.removeCell(0, 0, 0), 0);
            Due.due("4: once more", x.removeCell(0, 0, 0), Due.ILLEGAL);
            Due.due("4: an edit", x.count(4), 3);
        }
        CellFigures x = Due.make(0, TWELVE);
        Due.due("4: the first of twelve", x.removeCell(0, 0, 0), 11);
        Due.due("4: the last of twelve", x.removeCell(9, 2, 0), 10);
        Due.due("4: one in between", x.removeCell(5, 0, 0), 9);
        Probe.draft("4: the others stay", x, "100 200 300 400 600 700 800 900 910");
    }

    // 5: "mirror: 1 with the mirror map, 0 without; turns: 0 to 5"
    private static void move() {
        int[][] bad = {{-1, 0}, {2, 0}, {MAX, 0}, {MIN, 0}, {0, -1}, {0, 6}, {0, MAX}, {0, MIN}, {1, 6}, {1, -1}};
        for (int[] b : bad) {
            // The draft is not connected either: out of range comes first.
            Probe.changesNothing("5: move(" + b[0] + ", " + b[1] + ")", x -> x.move(b[0], b[1]), Due.INVALID);
        }
        Probe.changesNothing("5: a draft that is not connected", x -> x.move(0, 0), Due.ILLEGAL);
        Probe.changesNothing("5: a draft that is not connected", x -> x.move(1, 5), Due.ILLEGAL);
        for (int lattice = 0; lattice < 3; lattice++) {
            CellFigures empty = Probe.on(lattice);
            Due.due("5: an empty draft", empty.move(0, 0), Due.ILLEGAL);
            Due.due("5: no edit", empty.count(4), 1);
            Due.due("5: out of range comes first", empty.move(2, 0), Due.INVALID);
        }
        // "for squares, too; 4 turns change nothing there"
        for (int mirror = 0; mirror < 2; mirror++) {
            CellFigures four = Due.make(0, "at000;go00;go1;");
            CellFigures none = Due.make(0, "at000;go00;go1;");
            Due.due("5: four turns and none", four.move(mirror, 4), none.move(mirror, 0));
            Due.due("5: the last keys", four.key(0, 3), none.key(0, 3));
            Due.due("5: five turns and one", four.move(mirror, 5), none.move(mirror, 1));
            Due.due("5: the last keys", four.key(0, 3), none.key(0, 3));
        }
        mirrorAndTurns();
        fiveTurns();
        moveOfFullDraft();
    }

    /** "the mirror map (if that is told), followed by turns": not the other way round. */
    private static void mirrorAndTurns() {
        String[] images = {"000 100 200 210", "100 110 120 020", "000 010 110 210", "000 100 010 020",
            "000 010 020 120", "000 100 200 010", "000 100 110 120", "200 010 110 210"};
        for (int i = 0; i < 8; i++) {
            CellFigures x = Due.make(0, "at550;go00;go1;");
            int first = 2 * (images[i].charAt(0) - '0');
            Due.due("5: move(" + i / 4 + ", " + i % 4 + ")", x.move(i / 4, i % 4), first);
            Probe.draft("5: move(" + i / 4 + ", " + i % 4 + ")", x, images[i]);
        }
    }

    /** Five turns and one more are all six, which change nothing. */
    private static void fiveTurns() {
        CellFigures triangles = Due.make(1, "at550;go0;");
        Due.due("5: five turns of triangles", triangles.move(0, 5), 1);
        Probe.draft("5: five turns of triangles", triangles, "001 100");
        Due.due("5: and one more", triangles.move(0, 1), 0);
        Probe.draft("5: and one more", triangles, "000 001");
        CellFigures hexagons = Due.make(2, "at550;go0;");
        Due.due("5: five turns of hexagons", hexagons.move(0, 5), 2);
        Probe.draft("5: five turns of hexagons", hexagons, "100 010");
        Due.due("5: and one more", hexagons.move(0, 1), 0);
        Probe.draft("5: and one more", hexagons, "000 100");
    }

    private static void moveOfFullDraft() {
        CellFigures x = Due.make(0, TWELVE);
        Due.due("5: twelve cells stay where they are", x.move(0, 0), 0);
        Due.due("5: an edit all the same", x.count(4), 3);
        Due.due("5: twelve cells turned", x.move(0, 1), 4);
        Probe.draft("5: twelve cells turned", x, "200 210 220 230 240 250 260 270 280 290 190 090");
        Due.due("5: and undone", x.undo(), 3);
        Probe.draft("5: and undone", x, "000 100 200 300 400 500 600 700 800 900 910 920");
    }

    // 5: "or its image has a cell with a q or r above 9 after the shift of the normal form"
    private static void moveThatDoesNotFit() {
        // The spans of q, r and q + r are 5, 6 and 11; a turn makes r of q + r, two make q of it.
        int[][] moves = {{0, 1}, {0, 2}, {0, 4}, {0, 5}, {1, 1}, {1, 2}, {1, 4}, {1, 5}};
        for (int[] m : moves) {
            CellFigures x = Due.make(2, TOO_WIDE);
            Due.due("5: move(" + m[0] + ", " + m[1] + ") does not fit", x.move(m[0], m[1]), Due.ILLEGAL);
            Due.due("5: no edit", x.count(4), 2);
            Due.due("5: the draft stays", x.hasCell(5, 6, 0) * 100 + x.count(1), 112);
        }
        int[][] others = {{0, 0}, {0, 3}, {1, 0}, {1, 3}};
        for (int[] m : others) {
            Due.due("5: move(" + m[0] + ", " + m[1] + ") fits", Due.make(2, TOO_WIDE).move(m[0], m[1]), 0);
        }
        // At the limit: a span of q + r of 9 fits, of 10 does not.
        Due.due("5: a span of 10", Due.make(2, "at000;go0000011111;").move(0, 1), Due.ILLEGAL);
        Due.due("5: a span of 10", Due.make(2, "at000;go0000011111;").move(0, 2), Due.ILLEGAL);
        Due.due("5: a span of 9", Due.make(2, "at000;go000001111;").move(0, 1), 8);
        Due.due("5: a span of 9", Due.make(2, "at000;go000001111;").move(0, 2), 18);
        // A row of ten squares fits both ways, from whatever place.
        Due.due("5: a row of ten", Due.make(0, "at090;go000000000;").move(0, 1), 0);
        Due.due("5: a column of ten", Due.make(0, "at900;go111111111;").move(1, 0), 0);
    }

    // 6: "INVALID_ARGUMENT if size is out of range or index is negative; NONE if there is no such free figure
    // (nothing changes then)"
    private static void take() {
        int[] free = {108, 66, 82};
        int[] symmetries = {8, 6, 12};
        for (int lattice = 0; lattice < 3; lattice++) {
            int greatest = GREATEST[lattice];
            int length = free[lattice];
            int[][] bad = {{0, 0}, {-1, 0}, {greatest + 1, 0}, {MAX, 0}, {MIN, 0}, {1, -1}, {greatest, -1}, {1, MIN},
                {0, -1}, {0, MAX}, {greatest + 1, MAX}};
            for (int[] b : bad) {
                Probe.changesNothing("6: take(" + b[0] + ", " + b[1] + ")", x -> x.take(b[0], b[1]), lattice,
                        Due.INVALID);
            }
            Probe.changesNothing("6: behind the only one", x -> x.take(1, 1), lattice, Due.NONE);
            Probe.changesNothing("6: behind the last", x -> x.take(greatest, length), lattice, Due.NONE);
            Probe.changesNothing("6: far behind", x -> x.take(greatest, MAX), lattice, Due.NONE);
            CellFigures x = Probe.busy(lattice);
            Due.due("6: the only one", x.take(1, 0), symmetries[lattice]);
            Probe.draft("6: in place of the draft", x, "000");
            // a row: two symmetries of eight triangles, four of the others
            Due.due("6: the first one", x.take(greatest, 0), lattice == 1 ? 2 : 4);
            Due.due("6: it is number 0", x.number(1), 0);
            int last = x.take(greatest, length - 1);
            Due.due("6: the last one", last, x.property(5));
            Due.due("6: its number", x.number(1), length - 1);
            Due.due("6: its cells", x.count(1), greatest);
            Due.due("6: an edit each", x.count(4), 6);
            x.undo();
            x.undo();
            x.undo();
            Probe.draft("6: undone", x, "110 210 550 770");
        }
        Due.due("6: a full draft goes", Due.make(0, TWELVE).take(1, 0), 8);
    }

    // 7: "character code, 1 to 255"; "CAPACITY_EXCEEDED if the text already has 80 characters"
    private static void append() {
        int[] bad = {0, -1, 256, 256 + 'a', MAX, MIN};
        for (int b : bad) {
            Probe.changesNothing("7: append(" + b + ")", x -> x.append(b), Due.INVALID);
        }
        CellFigures x = new CellFigures();
        Due.due("7: the first character", x.append(1), 1);
        Due.due("7: the greatest code", x.append(255), 2);
        x.clearText();
        Due.due("7: 79 characters", Due.type(x, " ".repeat(73) + "at340;"), 79);
        Due.due("7: the eightieth", x.append(32), 80);
        Due.due("7: the eighty-first", x.append(32), Due.FULL);
        Due.due("7: the eighty-first", x.append('x'), Due.FULL);
        Due.due("7: out of range comes first", x.append(0), Due.INVALID);
        Due.due("7: out of range comes first", x.append(256), Due.INVALID);
        Due.due("7: eighty still", x.count(5), 80);
        Due.due("7: no edit", x.count(4), 0);
        Due.due("7: the text is as it was", x.load(), 1);
        Probe.draft("7: the text is as it was", x, "340");
        Due.due("7: and begins anew", x.append('a'), 1);
    }

    // 8: "Returns the previous length of the text."
    private static void clearText() {
        CellFigures x = new CellFigures();
        Due.due("8: an empty text", x.clearText(), 0);
        x.append('a');
        Due.due("8: one character", x.clearText(), 1);
        Due.type(x, "x".repeat(80));
        Due.due("8: a full text", x.clearText(), 80);
        Due.due("8: it is empty", x.count(5), 0);
        Due.due("8: once more", x.clearText(), 0);
        Due.due("8: there is room", Due.type(x, "at340;" + " ".repeat(74)), 80);
        Due.due("8: nothing of the text before is read", x.load(), 1);
        Due.due("8: no edit", x.count(4), 1);
        CellFigures y = Probe.busy(0);
        Due.due("8: the length", y.clearText(), 18);
        Probe.draft("8: the draft stays", y, "110 210 550 770");
        Due.due("8: the history stays", y.count(4), 6);
        Due.type(y, "at340;");
        Due.due("8: a shorter text", y.load(), 1);
    }

    // 9: "-10 minus the error position if the text is not a draft (then nothing changes, and the text is kept)"
    private static void load() {
        Probe.changesNothing("9: the text ends in an item", x -> x.load(), -28);
        CellFigures x = Probe.busy(0);
        Due.due("9: refused", x.load(), -28);
        Due.due("9: refused again", x.load(), -28);
        Due.type(x, ";;");
        Due.due("9: refused for another token", x.load(), -29);
        Due.due("9: the least answer for an error", loadOf("x"), -10);
        Due.due("9: the greatest position", loadOf("at340;go" + "02".repeat(36)), -90);
        Due.due("9: the last of eighty characters", loadOf("at340;" + " ".repeat(73) + "x"), -89);
        CellFigures y = Probe.busy(2);
        y.append(';');
        Due.due("9: in place of the draft", y.load(), 2);
        Probe.draft("9: in place of the draft", y, "340 350");
        Due.due("9: the lattice stays", y.count(0), 2);
        Due.due("9: the text becomes empty", y.count(5), 0);
        Due.due("9: an edit", y.undo(), 5);
        Probe.draft("9: undone", y, "110 210 550 770");
        Due.due("9: the text does not come back", y.count(5), 0);
        Due.due("9: an empty text is a draft without cells", y.load(), 0);
        Probe.draft("9: no cells", y, "");
        Due.due("9: an edit, too", y.undo(), 5);
        Due.due("9: twelve cells", loadOf(TWELVE), 12);
        Due.due("9: thirteen cells", loadOf(TWELVE + "at550;"), -34);
    }

    private static int loadOf(String text) {
        CellFigures x = new CellFigures();
        Due.type(x, text);
        return x.load();
    }

    // 10: "Returns the number of states that are left in the history; ILLEGAL_STATE if it is empty."
    private static void undo() {
        CellFigures x = new CellFigures();
        x.append('a');
        Due.due("10: nothing to undo", x.undo(), Due.ILLEGAL);
        Due.due("10: nothing changes", x.count(0) + x.count(1) + x.count(4), 0);
        Due.due("10: nor does the text", x.count(5), 1);
        x.setLattice(2);
        x.addCell(5, 5, 0);
        Due.due("10: one is left", x.undo(), 1);
        Due.due("10: none is left", x.undo(), 0);
        Due.due("10: the lattice is back", x.count(0), 0);
        Due.due("10: nothing to undo again", x.undo(), Due.ILLEGAL);
        Due.due("10: the lattice stays", x.count(0), 0);
        // An undone state is gone: there is no way forward, and undo is no edit.
        Due.due("10: no states", x.count(4), 0);
        fullHistory();
    }

    private static void fullHistory() {
        CellFigures x = new CellFigures();
        for (int i = 0; i < 6; i++) {
            x.setLattice(i % 3);
            x.addCell(i, i, 0);
        }
        Due.due("10: six of twelve states", x.count(4), 6);
        for (int i = 5; i >= 3; i--) {
            Due.due("10: undo of addCell", x.undo(), 2 * (i - 3) + 1);
            Due.due("10: an empty draft", x.count(1) * 10 + x.count(0), i % 3);
            Due.due("10: undo of setLattice", x.undo(), 2 * (i - 3));
            Due.due("10: the lattice before", x.count(0), (i - 1) % 3);
            Due.due("10: its cell", x.count(1) * 10 + x.hasCell(i - 1, i - 1, 0), 11);
        }
        Due.due("10: the older ones are dropped", x.undo(), Due.ILLEGAL);
        Due.due("10: the oldest that was kept", x.hasCell(2, 2, 0), 1);
        CellFigures full = Due.make(0, TWELVE);
        full.setLattice(1);
        full.undo();
        Probe.draft("10: a full draft comes back", full, "000 100 200 300 400 500 600 700 800 900 910 920");
    }

    // 11: "INVALID_ARGUMENT if what is out of range"
    private static void count() {
        int[] bad = {-1, 6, 7, MAX, MIN};
        for (int b : bad) {
            Probe.changesNothing("11: count(" + b + ")", x -> x.count(b), Due.INVALID);
        }
        CellFigures x = Due.make(1, "at990;go0;");
        Due.type(x, "x".repeat(80));
        for (int i = 0; i < 10; i++) {
            x.addCell(i, 0, 0);
        }
        int[] want = {1, 12, 0, 8, 6, 80};
        for (int i = 0; i < 6; i++) {
            Due.due("11: everything full, count(" + i + ")", x.count(i), want[i]);
        }
        int[] none = {0, 0, 0, 7, 0, 0};
        for (int i = 0; i < 6; i++) {
            Due.due("11: everything empty, count(" + i + ")", new CellFigures().count(i), none[i]);
        }
    }

    // 12: "1 if it is, otherwise 0"
    private static void hasCell() {
        for (int lattice = 0; lattice < 3; lattice++) {
            CellFigures x = Due.make(lattice, "at000;at990;");
            int cells = 0;
            for (int q = 0; q < 10; q++) {
                for (int r = 0; r < 10; r++) {
                    for (int t = 0; t <= (lattice == 1 ? 1 : 0); t++) {
                        cells += x.hasCell(q, r, t);
                    }
                }
            }
            Due.due("12: cells of all places", cells, 2);
            Due.due("12: a corner", x.hasCell(0, 0, 0), 1);
            Due.due("12: a corner", x.hasCell(9, 9, 0), 1);
            Due.due("12: another corner", x.hasCell(9, 0, 0) + x.hasCell(0, 9, 0), 0);
        }
    }

    // 13: "INVALID_ARGUMENT if what is out of range; ILLEGAL_STATE if the draft is not connected"
    private static void property() {
        int[] bad = {-1, 7, 8, MAX, MIN};
        for (int b : bad) {
            // The draft is not connected either: out of range comes first.
            Probe.changesNothing("13: property(" + b + ")", x -> x.property(b), Due.INVALID);
            Due.due("13: of a figure", Due.make(0, "at550;").property(b), Due.INVALID);
        }
        for (int i = 0; i < 7; i++) {
            int what = i;
            Probe.changesNothing("13: property(" + what + ")", x -> x.property(what), Due.ILLEGAL);
            for (int lattice = 0; lattice < 3; lattice++) {
                Due.due("13: an empty draft", Probe.on(lattice).property(what), Due.ILLEGAL);
            }
        }
        properties("one square in a corner", 0, "at990;", 4, 4, 4, 0, 0, 8, 1);
        properties("ten squares in a row", 0, "at090;go000000000;", 22, 22, 22, 0, 0, 4, 2);
        properties("ten squares in a column", 0, "at900;go111111111;", 22, 22, 22, 0, 0, 4, 2);
        properties("twelve squares in a bent row", 0, TWELVE, 26, 25, 25, 0, 0, 1, 8);
        properties("twelve hexagons in a bent row", 2, TOO_WIDE, 50, 28, 28, 0, 0, 1, 12);
        properties("twelve triangles in a row", 1, "at000;go01010101010;", 14, 14, 14, 0, 0, 2, 6);
    }

    private static void properties(String what, int lattice, String text, int... want) {
        CellFigures x = Due.make(lattice, text);
        for (int i = 0; i < want.length; i++) {
            Due.due("13: " + what + ", property(" + i + ")", x.property(i), want[i]);
        }
    }

    // 14: "INVALID_ARGUMENT if form is out of range or index is negative; ILLEGAL_STATE if the draft is not connected,
    // or an image of it (for the canonical form) has a cell with a q or r above 9 [..]; NONE if there are not so many"
    private static void key() {
        int[][] bad = {{-1, 0}, {2, 0}, {MAX, 0}, {MIN, 0}, {0, -1}, {1, -1}, {0, MIN}, {1, MIN}, {2, -1}, {2, MAX}};
        for (int[] b : bad) {
            Probe.changesNothing("14: key(" + b[0] + ", " + b[1] + ")", x -> x.key(b[0], b[1]), Due.INVALID);
            Due.due("14: of a figure", Due.make(2, "at550;").key(b[0], b[1]), Due.INVALID);
        }
        int[][] good = {{0, 0}, {1, 0}, {0, 4}, {1, 4}, {0, MAX}, {1, MAX}};
        for (int[] g : good) {
            Probe.changesNothing("14: not connected", x -> x.key(g[0], g[1]), Due.ILLEGAL);
            for (int lattice = 0; lattice < 3; lattice++) {
                Due.due("14: an empty draft", Probe.on(lattice).key(g[0], g[1]), Due.ILLEGAL);
            }
        }
        for (int form = 0; form < 2; form++) {
            CellFigures one = Due.make(0, "at990;");
            Due.due("14: the only key", one.key(form, 0), 0);
            Due.due("14: no second key", one.key(form, 1), Due.NONE);
            Due.due("14: no such key", one.key(form, MAX), Due.NONE);
            CellFigures twelve = Due.make(0, TWELVE);
            Due.due("14: the twelfth key", twelve.key(form, 11), form == 0 ? 58 : 40);
            Due.due("14: no thirteenth key", twelve.key(form, 12), Due.NONE);
        }
        CellFigures wide = Due.make(2, TOO_WIDE);
        Due.due("14: no keys of an image", wide.key(1, 0), Due.ILLEGAL);
        Due.due("14: that comes before NONE", wide.key(1, 12), Due.ILLEGAL);
        Due.due("14: out of range comes before that", wide.key(1, -1), Due.INVALID);
        Due.due("14: the normal form has keys", wide.key(0, 11), 20 * 6 + 2 * 5);
        Due.due("14: twelve of them", wide.key(0, 12), Due.NONE);
        Due.due("14: an image with 10", Due.make(2, "at000;go0000011111;").key(1, 0), Due.ILLEGAL);
        Due.due("14: images up to 9", Due.make(2, "at000;go000001111;").key(1, 0), 0);
        Due.due("14: no key behind them", Due.make(2, "at000;go000001111;").key(1, 10), Due.NONE);
    }

    // 15: "INVALID_ARGUMENT if list is out of range; ILLEGAL_STATE if the draft is not connected; NONE if it has more
    // cells than the greatest size"
    private static void number() {
        int[] bad = {-1, 2, MAX, MIN};
        for (int b : bad) {
            Probe.changesNothing("15: number(" + b + ")", x -> x.number(b), Due.INVALID);
        }
        String[] rows = {"at000;go000000;", "at000;go0101010;", "at000;go00000;"};
        String[] longer = {"at000;go0000000;", "at000;go01010101;", "at000;go000000;"};
        for (int list = 0; list < 2; list++) {
            int which = list;
            Probe.changesNothing("15: not connected", x -> x.number(which), Due.ILLEGAL);
            for (int lattice = 0; lattice < 3; lattice++) {
                Due.due("15: an empty draft", Probe.on(lattice).number(list), Due.ILLEGAL);
                Due.due("15: one cell", Due.make(lattice, "at990;").number(list), 0);
                Due.due("15: the greatest size", Due.make(lattice, rows[lattice]).number(list), 0);
                CellFigures x = Due.make(lattice, longer[lattice]);
                Due.due("15: a cell more", x.number(list), Due.NONE);
                Due.due("15: out of range comes first", x.number(2), Due.INVALID);
                x.addCell(0, 9, 0);
                Due.due("15: not connected comes before NONE", x.number(list), Due.ILLEGAL);
            }
            Due.due("15: twelve cells", Due.make(0, TWELVE).number(list), Due.NONE);
            Due.due("15: no keys for an image", Due.make(2, TOO_WIDE).number(list), Due.NONE);
        }
        // The last fixed and the last free figures have the last numbers.
        int[] fixed = {760, 675, 814};
        String[] last = {"at500;go1;go22222;", "at301;go21212;go12;", "at500;go22222;"};
        for (int lattice = 0; lattice < 3; lattice++) {
            Due.due("15: the last number", Due.make(lattice, last[lattice]).number(0), fixed[lattice] - 1);
        }
        Due.due("15: the other triangle, fixed", Due.make(1, "at991;").number(0), 1);
        Due.due("15: the other triangle, free", Due.make(1, "at991;").number(1), 0);
    }

    // 16: "adding a border cell (with any q and r, also -1 and 10)"; "ILLEGAL_STATE if the draft is not connected, or
    // has more than 7 cells"
    private static void relatives() {
        int[] bad = {-1, 2, MAX, MIN};
        for (int b : bad) {
            Probe.changesNothing("16: relatives(" + b + ")", x -> x.relatives(b), Due.INVALID);
            Due.due("16: out of range comes first", Due.make(0, TWELVE).relatives(b), Due.INVALID);
        }
        String[] seven = {"at000;go000000;", "at000;go010101;", "at000;go000000;"};
                for (int way = 0; way < 2; way++) {
            int which = way;
            Probe.changesNothing("16: not connected", x -> x.relatives(which), Due.ILLEGAL);
            for (int lattice = 0; lattice < 3; lattice++) {
                Due.due("16: an empty draft", Probe.on(lattice).relatives(way), Due.ILLEGAL);
                CellFigures x = Due.make(lattice, seven[lattice]);
                int got = x.relatives(way);
                Due.due("16: seven cells on " + lattice, got, way == 1 ? 1 : 5);
                Due.due("16: asked again", x.relatives(way), got);
                x.addCell(lattice == 1 ? 3 : 7, 0, lattice == 1 ? 1 : 0);
                Due.due("16: eight cells, a figure", x.count(1) * 10 + x.count(2), 81);
                Due.due("16: eight cells on " + lattice, x.relatives(way), Due.ILLEGAL);
            }
            Due.due("16: twelve cells", Due.make(0, TWELVE).relatives(way), Due.ILLEGAL);
        }
        // "such that a figure is left": of one cell none is left.
        for (int lattice = 0; lattice < 3; lattice++) {
            Due.due("16: one cell, adding", Due.make(lattice, "at550;").relatives(0), 1);
            Due.due("16: one cell, removing", Due.make(lattice, "at550;").relatives(1), 0);
            Due.due("16: two cells, removing", Due.make(lattice, "at550;go0;").relatives(1), 1);
        }
        atTheEdges();
    }

    private static void atTheEdges() {
        String[] squares = {"at000;go000000;", "at300;go000000;", "at090;go000000;", "at390;go000000;"};
        for (String row : squares) {
            Due.due("16: a row at an edge", Due.make(0, row).relatives(0), 5);
        }
        String[] columns = {"at000;go111111;", "at030;go111111;", "at900;go111111;", "at930;go111111;"};
        for (String column : columns) {
            Due.due("16: a column at an edge", Due.make(0, column).relatives(0), 5);
            Due.due("16: a column of hexagons", Due.make(2, column).relatives(0), 5);
        }
        String[] corners = {"at000;", "at900;", "at090;", "at990;"};
        for (int lattice = 0; lattice < 3; lattice++) {
            for (String corner : corners) {
                Due.due("16: a corner", Due.make(lattice, corner).relatives(0), 1);
            }
        }
    }

    private static void sizes(String what, int want, java.util.function.IntFunction<Probe.Call> call) {
        for (int lattice = 0; lattice < 3; lattice++) {
            int[] bad = {0, -1, GREATEST[lattice] + 1, 9, 12, MAX, MIN};
            for (int b : bad) {
                Probe.changesNothing(what + " with size " + b, call.apply(b), lattice, want);
            }
        }
    }

    // 17: "INVALID_ARGUMENT if an argument is out of range"
    private static void figures() {
        sizes("17: figures(0", Due.INVALID, size -> x -> x.figures(0, size));
        sizes("17: figures(1", Due.INVALID, size -> x -> x.figures(1, size));
        int[] bad = {-1, 2, MAX, MIN};
        for (int b : bad) {
            Probe.changesNothing("17: list " + b, x -> x.figures(b, 1), Due.INVALID);
        }
        int[] fixed = {760, 675, 814};
        int[] free = {108, 66, 82};
        for (int lattice = 0; lattice < 3; lattice++) {
            int one = lattice == 1 ? 2 : 1;
            int greatest = GREATEST[lattice];
            int all = fixed[lattice];
            int some = free[lattice];
            Probe.changesNothing("17: one cell, fixed", x -> x.figures(0, 1), lattice, one);
            Probe.changesNothing("17: one cell, free", x -> x.figures(1, 1), lattice, 1);
            Probe.changesNothing("17: the greatest size, fixed", x -> x.figures(0, greatest), lattice, all);
            Probe.changesNothing("17: the greatest size, free", x -> x.figures(1, greatest), lattice, some);
        }
        // The range of the sizes comes and goes with the lattice.
        CellFigures x = Probe.on(1);
        Due.due("17: eight triangles", x.figures(0, 8), 675);
        x.setLattice(2);
        Due.due("17: eight hexagons", x.figures(0, 8), Due.INVALID);
        Due.due("17: seven hexagons", x.figures(0, 7), Due.INVALID);
        x.undo();
        Due.due("17: eight triangles again", x.figures(1, 8), 66);
    }

    // 18: "INVALID_ARGUMENT if list, size or place is out of range, or index is negative; NONE if there is no such
    // figure"
    private static void figure() {
        sizes("18: figure(0", Due.INVALID, size -> x -> x.figure(0, size, 0, 0));
        sizes("18: figure(1", Due.INVALID, size -> x -> x.figure(1, size, MAX, 0));
        int[] lists = {-1, 2, MAX, MIN};
        for (int list : lists) {
            Probe.changesNothing("18: list " + list, x -> x.figure(list, 1, 0, 0), Due.INVALID);
        }
        int[] fixed = {760, 675, 814};
        int[] free = {108, 66, 82};
        for (int lattice = 0; lattice < 3; lattice++) {
            for (int list = 0; list < 2; list++) {
                listEnds(lattice, list, 1, list == 0 && lattice == 1 ? 2 : 1);
                listEnds(lattice, list, GREATEST[lattice], list == 0 ? fixed[lattice] : free[lattice]);
            }
        }
        // The keys of a figure of one size are its own, not those of the next figure or size.
        CellFigures x = new CellFigures();
        int[] two = {0, 2};
        int[] three = {0, 2, 4};
        for (int i = 0; i < 2; i++) {
            Due.due("18: two squares in a row", x.figure(1, 2, 0, i), two[i]);
        }
        for (int i = 0; i < 3; i++) {
            Due.due("18: three squares in a row", x.figure(1, 3, 0, i), three[i]);
        }
        Due.due("18: the fourth key of three", x.figure(1, 3, 0, 3), Due.INVALID);
    }

    /** The ends of the numbers of a list, and of the places of its forms. */
    private static void listEnds(int lattice, int list, int size, int length) {
        String what = "18: list " + list + " of size " + size;
        int[] places = {-1, size, size + 1, MAX, MIN};
        for (int place : places) {
            Probe.changesNothing(what + ", place " + place, x -> x.figure(list, size, 0, place), lattice, Due.INVALID);
            Probe.changesNothing(what + ", place before NONE", x -> x.figure(list, size, length, place), lattice,
                    Due.INVALID);
        }
        Probe.changesNothing(what + ", index -1", x -> x.figure(list, size, -1, 0), lattice, Due.INVALID);
        Probe.changesNothing(what + ", least index", x -> x.figure(list, size, MIN, size - 1), lattice, Due.INVALID);
        Probe.changesNothing(what + ", behind the last", x -> x.figure(list, size, length, 0), lattice, Due.NONE);
        Probe.changesNothing(what + ", far behind", x -> x.figure(list, size, MAX, size - 1), lattice, Due.NONE);
        java.util.List<Reference.Cell> last = Reference.list(lattice, list, size).get(length - 1);
        for (int i = 0; i < size; i++) {
            int place = i;
            // a row: every other key is that of a triangle with t = 1
            Probe.changesNothing(what + ", the first", x -> x.figure(list, size, 0, place), lattice,
                    lattice == 1 ? place : 2 * place);
            Probe.changesNothing(what + ", the last", x -> x.figure(list, size, length - 1, place), lattice,
                    last.get(i).key());
        }
    }

    // 19: "sides: 0 or more"; "INVALID_ARGUMENT if size is out of range or sides is negative"
    private static void withSides() {
        sizes("19: withSides", Due.INVALID, size -> x -> x.withSides(size, 4));
        sizes("19: withSides, sides -1", Due.INVALID, size -> x -> x.withSides(size, -1));
        int[] one = {4, 3, 6};
        int[] fewest = {12, 8, 18};
        int[] most = {16, 10, 26};
        for (int lattice = 0; lattice < 3; lattice++) {
            int greatest = GREATEST[lattice];
            int least = fewest[lattice];
            int top = most[lattice];
            int cell = one[lattice];
            Probe.changesNothing("19: sides -1", x -> x.withSides(greatest, -1), lattice, Due.INVALID);
            Probe.changesNothing("19: sides MIN", x -> x.withSides(1, MIN), lattice, Due.INVALID);
            Probe.changesNothing("19: no sides", x -> x.withSides(1, 0), lattice, 0);
            Probe.changesNothing("19: no sides", x -> x.withSides(greatest, 0), lattice, 0);
            Probe.changesNothing("19: sides MAX", x -> x.withSides(greatest, MAX), lattice, 0);
            Probe.changesNothing("19: one cell", x -> x.withSides(1, cell), lattice, lattice == 1 ? 2 : 1);
            Probe.changesNothing("19: one cell", x -> x.withSides(1, cell + 1), lattice, 0);
            Probe.changesNothing("19: one cell", x -> x.withSides(1, cell - 1), lattice, 0);
            CellFigures x = Probe.on(lattice);
            Due.due("19: fewer than the fewest", x.withSides(greatest, least - 2), 0);
            Due.due("19: more than the most", x.withSides(greatest, top + 2), 0);
            int sum = 0;
            for (int sides = least; sides <= top; sides++) {
                sum += x.withSides(greatest, sides);
            }
            Due.due("19: all of them", sum, x.figures(0, greatest));
            Due.due("19: some have the fewest", x.withSides(greatest, least) > 0 ? 1 : 0, 1);
            Due.due("19: some have the most", x.withSides(greatest, top) > 0 ? 1 : 0, 1);
            // Beyond the tally of one size there is none of the next.
            for (int sides = 30; sides < 100; sides++) {
                Due.due("19: " + sides + " sides", x.withSides(2, sides), 0);
            }
        }
    }

    // 20: "symmetries: 1 to 12 (for squares, too)"; "INVALID_ARGUMENT if an argument is out of range"
    private static void withSymmetries() {
        sizes("20: withSymmetries", Due.INVALID, size -> x -> x.withSymmetries(size, 1));
        sizes("20: withSymmetries, none", Due.INVALID, size -> x -> x.withSymmetries(size, 0));
        int[] bad = {0, -1, 13, MAX, MIN};
        for (int b : bad) {
            Probe.changesNothing("20: " + b + " symmetries", x -> x.withSymmetries(1, b), Due.INVALID);
            Probe.changesNothing("20: " + b + " symmetries", x -> x.withSymmetries(6, b), Due.INVALID);
        }
        int[] eight = {1, 0, 0};
        int[] six = {0, 1, 0};
        int[] twelve = {0, 0, 1};
        for (int lattice = 0; lattice < 3; lattice++) {
            CellFigures x = Probe.on(lattice);
            Due.due("20: one cell, 1", x.withSymmetries(1, 1), 0);
            Due.due("20: one cell, 6", x.withSymmetries(1, 6), six[lattice]);
            Due.due("20: one cell, 8", x.withSymmetries(1, 8), eight[lattice]);
            Due.due("20: one cell, 12", x.withSymmetries(1, 12), twelve[lattice]);
            for (int none = 9; none <= 11; none++) {
                Due.due("20: " + none, x.withSymmetries(6, none), 0);
            }
            // six triangles around a corner, six hexagons around one
            Due.due("20: six cells, 12", x.withSymmetries(6, 12), lattice == 0 ? 0 : 1);
            int sum = 0;
            for (int symmetries = 1; symmetries <= 12; symmetries++) {
                sum += x.withSymmetries(GREATEST[lattice], symmetries);
            }
            Due.due("20: all of them", sum, x.figures(1, GREATEST[lattice]));
        }
    }

    // 21: "INVALID_ARGUMENT if size is out of range"
    private static void withHoles() {
        sizes("21: withHoles", Due.INVALID, size -> x -> x.withHoles(size));
        // Seven squares, six hexagons and nine triangles are the fewest around a hole.
        for (int lattice = 0; lattice < 3; lattice++) {
            for (int size = 1; size <= GREATEST[lattice]; size++) {
                int asked = size;
                int want = lattice == 0 && size == 7 ? 4 : lattice == 2 && size == 6 ? 1 : 0;
                Probe.changesNothing("21: withHoles(" + size + ")", x -> x.withHoles(asked), lattice, want);
            }
        }
    }

    // 22: "width: 1 to 5, height: 1 to 5, size: 0 or more"; "INVALID_ARGUMENT if an argument is out of range"
    private static void connectedSets() {
        int[] bad = {0, -1, 6, MAX, MIN, 65536 + 1};
        for (int b : bad) {
            Probe.changesNothing("22: width " + b, x -> x.connectedSets(b, 1, 0), Due.INVALID);
            Probe.changesNothing("22: height " + b, x -> x.connectedSets(1, b, 0), Due.INVALID);
            Probe.changesNothing("22: both " + b, x -> x.connectedSets(b, b, 0), Due.INVALID);
            // out of range comes before a block that is too great
            Probe.changesNothing("22: width " + b + ", height 5", x -> x.connectedSets(b, 5, 0), Due.INVALID);
        }
        Probe.changesNothing("22: size -1", x -> x.connectedSets(1, 1, -1), Due.INVALID);
        Probe.changesNothing("22: size MIN", x -> x.connectedSets(1, 1, MIN), Due.INVALID);
        Probe.changesNothing("22: size before the block", x -> x.connectedSets(5, 5, -1), Due.INVALID);
        // one place, "for triangles with both t"
        int[][] one = {{1, 1, 0, 0}, {3, 2, 1, 0}, {1, 1, 0, 0}};
        for (int lattice = 0; lattice < 3; lattice++) {
            for (int size = 0; size < 4; size++) {
                int asked = size;
                Probe.changesNothing("22: one place, size " + size, x -> x.connectedSets(1, 1, asked), lattice,
                        one[lattice][size]);
            }
            Probe.changesNothing("22: one place, MAX", x -> x.connectedSets(1, 1, MAX), lattice, 0);
        }
        // a row of five: its connected sets are its parts without gaps; the triangles of a row make one, too
        int[] rows = {15, 55, 15};
        for (int lattice = 0; lattice < 3; lattice++) {
            CellFigures x = Probe.on(lattice);
            Due.due("22: a row of five", x.connectedSets(5, 1, 0), rows[lattice]);
            Due.due("22: a column of five", x.connectedSets(1, 5, 0), rows[lattice]);
            Due.due("22: the whole row", x.connectedSets(5, 1, lattice == 1 ? 10 : 5), 1);
            Due.due("22: more than the row", x.connectedSets(5, 1, lattice == 1 ? 11 : 6), 0);
        }
        // "Sets are different if they differ in a cell, also if they are the same up to shifts."
        Due.due("22: single cells", new CellFigures().connectedSets(4, 5, 1), 20);
        Due.due("22: pairs", new CellFigures().connectedSets(2, 2, 2), 4);
        Due.due("22: pairs of hexagons", Probe.on(2).connectedSets(2, 2, 2), 5);
    }

    // 22: "0 if size is greater than the number of cells of the block"; "CAPACITY_EXCEEDED if the block has more than
    // 20 cells"
    private static void blocksAtTheLimit() {
        int[][] full = {{4, 5}, {2, 5}, {4, 5}};
        int[][] above = {{5, 5}, {3, 4}, {5, 5}};
        for (int lattice = 0; lattice < 3; lattice++) {
            CellFigures x = Probe.on(lattice);
            int w = full[lattice][0];
            int h = full[lattice][1];
            Due.due("22: all twenty cells", x.connectedSets(w, h, 20), 1);
            Due.due("22: one cell", x.connectedSets(w, h, 1), 20);
            Due.due("22: more than twenty", x.connectedSets(w, h, 21), 0);
            Due.due("22: many more", x.connectedSets(w, h, MAX), 0);
            Due.due("22: the other way round", x.connectedSets(h, w, 20), 1);
            Due.due("22: all sizes", x.connectedSets(w, h, 0), (int) Reference.blockCounts(lattice, w, h)[0]);
            Due.due("22: all sizes, the other way round", x.connectedSets(h, w, 0), x.connectedSets(w, h, 0));
            int aw = above[lattice][0];
            int ah = above[lattice][1];
            int[] sizes = {0, 1, 20, 21, 25, 26, MAX};
            for (int size : sizes) {
                Probe.changesNothing("22: a block too great", y -> y.connectedSets(aw, ah, size), lattice, Due.FULL);
                Probe.changesNothing("22: a block too great", y -> y.connectedSets(ah, aw, size), lattice, Due.FULL);
            }
        }
        // Which blocks are too great depends on the lattice.
        CellFigures x = new CellFigures();
        Due.due("22: twelve squares", x.connectedSets(3, 4, 12), 1);
        x.setLattice(1);
        Due.due("22: twenty-four triangles", x.connectedSets(3, 4, 12), Due.FULL);
        Due.due("22: eighteen triangles", x.connectedSets(3, 3, 18), 1);
        x.undo();
        Due.due("22: twelve squares again", x.connectedSets(3, 4, 12), 1);
    }
}
