/** What the tests share: the comparison of an answer with the one that is due. */
final class Due {
    static final int INVALID = -1;
    static final int ILLEGAL = -2;
    static final int FULL = -3;
    static final int NONE = -9;

    private static int wrong = 0;
    private static int asked = 0;

    private Due() {
    }

    static void due(String call, long got, long want) {
        asked++;
        if (got != want) {
            wrong++;
            if (wrong <= 50) {
                System.out.println(call + " answered " + got + ", due is " + want);
            }
        }
    }

    static void fail(String what) {
        due(what, 1, 0);
    }

    static void end() {
        System.out.println(asked + " answers, " + wrong + " wrong");
        if (wrong != 0) {
            System.exit(1);
        }
    }

    /** Appends a text; answers the length at the end. */
    static int type(CellFigures x, String text) {
        int length = x.count(5);
        for (int i = 0; i < text.length(); i++) {
            length = x.append(text.charAt(i));
        }
        return length;
    }

    /** A new object on a lattice with the draft that a text says. */
    static CellFigures make(int lattice, String text) {
        CellFigures x = new CellFigures();
        x.setLattice(lattice);
        type(x, text);
        int loaded = x.load();
        if (loaded < 0) {
            fail("loading \"" + text + "\", " + loaded + ",");
        }
        return x;
    }
}
