/** What the tests of the limits share: an object in the middle of its work, and the proof that a call left it so. */
final class Probe {
    static final int MAX = Integer.MAX_VALUE;
    static final int MIN = Integer.MIN_VALUE;

    /** A call of a method on an object. */
    interface Call {
        int on(CellFigures x);
    }

    private static final String[] STATES = {"110 210", "110 210 220", "110 210", "110 210 550", "110 210 550 770"};

    private Probe() {
    }

    static CellFigures on(int lattice) {
        CellFigures x = new CellFigures();
        x.setLattice(lattice);
        return x;
    }

    /** Tells that the draft consists of the cells that are written as q, r and t without spaces. */
    static void draft(String what, CellFigures x, String cells) {
        String[] all = cells.isEmpty() ? new String[0] : cells.split(" ");
        Due.due(what + ": the number of cells", x.count(1), all.length);
        for (String c : all) {
            Due.due(what + ": " + c, x.hasCell(c.charAt(0) - '0', c.charAt(1) - '0', c.charAt(2) - '0'), 1);
        }
    }

    /** Six states in the history, a draft of four cells that is not connected, a text that ends inside of an item. */
    static CellFigures busy(int lattice) {
        CellFigures x = new CellFigures();
        x.addCell(9, 9, 0);
        x.setLattice(lattice);
        x.addCell(1, 1, 0);
        x.addCell(2, 1, 0);
        x.addCell(2, 2, 0);
        x.removeCell(2, 2, 0);
        x.addCell(5, 5, 0);
        x.addCell(7, 7, 0);
        Due.type(x, "at 3 4 0; at 3 5 0");
        return x;
    }

    /** Tells that an object is as busy() made it, down to the oldest state and the last sign of the text. */
    static void isAsBusy(String what, CellFigures x, int lattice) {
        Due.due(what + ": the lattice", x.count(0), lattice);
        Due.due(what + ": the states", x.count(4), 6);
        Due.due(what + ": the length of the text", x.count(5), 18);
        draft(what + ": the draft", x, STATES[4]);
        for (int i = 3; i >= 0; i--) {
            Due.due(what + ": undo", x.undo(), i + 2);
            draft(what + ": the draft before", x, STATES[i]);
            Due.due(what + ": the lattice before", x.count(0), lattice);
        }
        Due.due(what + ": undo", x.undo(), 1);
        draft(what + ": the draft before", x, "110");
        Due.due(what + ": undo", x.undo(), 0);
        draft(what + ": the first draft", x, "");
        Due.due(what + ": undo of nothing", x.undo(), Due.ILLEGAL);
        Due.due(what + ": the text goes on", x.append(';'), 19);
        Due.due(what + ": and is read", x.load(), 2);
        draft(what + ": the text", x, "340 350");
    }

    /** Tells what a call answers to a busy object on each lattice, and that it changes nothing. */
    static void changesNothing(String what, Call call, int want) {
        for (int lattice = 0; lattice < 3; lattice++) {
            changesNothing(what, call, lattice, want);
        }
    }

    static void changesNothing(String what, Call call, int lattice, int want) {
        CellFigures x = busy(lattice);
        String where = what + " on " + lattice;
        Due.due(where, call.on(x), want);
        isAsBusy(where + ": nothing changes", x, lattice);
    }
}
