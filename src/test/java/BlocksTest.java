/** Promise 22: every block and every size against a count of all sets, and wrong inputs. */
public final class BlocksTest {
    public static void main(String[] args) {
        everyBlock();
        wrongInputs();
        Due.end();
    }

    private static void everyBlock() {
        for (int lattice = 0; lattice < 3; lattice++) {
            for (int width = 1; width <= 5; width++) {
                CellFigures x = Probe.on(lattice);
                for (int height = 1; height <= 5; height++) {
                    everySize(x, lattice, width, height);
                }
            }
        }
        // one object for all lattices, and once more with all that it remembers by then
        CellFigures x = new CellFigures();
        for (int i = 0; i < 6; i++) {
            x.setLattice(i % 3);
            everySize(x, i % 3, 2, 5);
            everySize(x, i % 3, 3, 3);
        }
    }

    private static void everySize(CellFigures x, int lattice, int width, int height) {
        int cells = width * height * (lattice == 1 ? 2 : 1);
        for (int size = 0; size <= 30; size++) {
            String call = "22: connectedSets(" + width + ", " + height + ", " + size + ") on " + lattice;
            long want = cells > 20 ? Due.FULL : size > cells ? 0 : Reference.blockCounts(lattice, width, height)[size];
            Due.due(call, x.connectedSets(width, height, size), want);
        }
    }

    private static void wrongInputs() {
        int[] bad = {0, -1, 6, Integer.MAX_VALUE, Integer.MIN_VALUE};
        for (int lattice = 0; lattice < 3; lattice++) {
            CellFigures x = new CellFigures();
            x.setLattice(lattice);
            for (int b : bad) {
                Due.due("22: width", x.connectedSets(b, 1, 1), Due.INVALID);
                Due.due("22: height", x.connectedSets(1, b, 1), Due.INVALID);
            }
            Due.due("22: size", x.connectedSets(1, 1, -1), Due.INVALID);
            Due.due("22: size", x.connectedSets(5, 5, Integer.MIN_VALUE), Due.INVALID);
            Due.due("22: size", x.connectedSets(1, 1, Integer.MAX_VALUE), 0);
            Due.due("22: a block too great", x.connectedSets(5, 5, Integer.MAX_VALUE), Due.FULL);
            Due.due("22: no edit", x.count(4), 1);
        }
    }
}
