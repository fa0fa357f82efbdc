import java.util.Random;

/** Answers about a draft don't depend on the drafts that the same object was asked about before. */
public final class LeftoversTest {
    private static final int RUNS = 300;
    /** Figures with holes, in which something left over from a wider figure would show. */
    private static final String[][] RINGS = {
        {"at000;go00112233;", "at000;go00011122233;", "at100;go0101122323;go3;", "at540;go011223;"},
        {"at331;go21020210;"},
        {"at550;go012345;", "at730;go112233445500;"}};
    private static final int[] DEGREES = {4, 3, 6};

    public static void main(String[] args) {
        for (int run = 0; run < RUNS; run++) {
            oneObject(new Random(run), run);
        }
        Due.end();
    }

    private static void oneObject(Random random, int run) {
        int lattice = random.nextInt(3);
        CellFigures x = Probe.on(lattice);
        Reference y = new Reference();
        y.setLattice(lattice);
        for (int i = 0; i < 8; i++) {
            String text = random.nextBoolean() ? RINGS[lattice][random.nextInt(RINGS[lattice].length)]
                    : walk(random, DEGREES[lattice]);
            read(x, y, text);
            int mirror = random.nextInt(2);
            int turns = random.nextInt(6);
            String what = "run " + run + " on " + lattice + ", \"" + text + "\": ";
            Due.due(what + "move", x.move(mirror, turns), y.move(mirror, turns));
            ask(what, x, y);
        }
    }

    /** A text with a figure of some cells; it may lead out of the field, and is refused then. */
    private static String walk(Random random, int degree) {
        StringBuilder text = new StringBuilder("at");
        text.append(random.nextInt(10)).append(random.nextInt(10)).append("0;go");
        int steps = 1 + random.nextInt(11);
        for (int i = 0; i < steps; i++) {
            text.append(random.nextInt(degree));
        }
        return text.append(';').toString();
    }

    private static void read(CellFigures x, Reference y, String text) {
        x.clearText();
        y.clearText();
        Due.type(x, text);
        for (int i = 0; i < text.length(); i++) {
            y.append(text.charAt(i));
        }
        Due.due("load of \"" + text + "\"", x.load(), y.load());
    }

    private static void ask(String what, CellFigures x, Reference y) {
        for (int i = 0; i < 7; i++) {
            Due.due(what + "property(" + i + ")", x.property(i), y.property(i));
        }
        for (int i = 0; i < 2; i++) {
            Due.due(what + "relatives(" + i + ")", x.relatives(i), y.relatives(i));
            Due.due(what + "number(" + i + ")", x.number(i), y.number(i));
            Due.due(what + "key(" + i + ", 3)", x.key(i, 3), y.key(i, 3));
        }
    }
}
