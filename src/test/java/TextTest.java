/** Promises 7 to 9: the text, and how a draft is read from it. */
public final class TextTest {
    public static void main(String[] args) {
        appending();
        goodTexts();
        errorPositions();
        wordsAndSigns();
        thirteenCells();
        loading();
        Due.end();
    }

    private static void appending() {
        CellFigures x = new CellFigures();
        int[] bad = {0, -1, 256, Integer.MAX_VALUE, Integer.MIN_VALUE};
        for (int b : bad) {
            Due.due("7: append(" + b + ")", x.append(b), Due.INVALID);
        }
        Due.due("7: append(1)", x.append(1), 1);
        Due.due("7: append(255)", x.append(255), 2);
        for (int i = 2; i < 80; i++) {
            Due.due("7: append", x.append(32), i + 1);
        }
        Due.due("7: the 81st character", x.append(32), Due.FULL);
        Due.due("7: out of range comes first", x.append(0), Due.INVALID);
        Due.due("7: length", x.count(5), 80);
        Due.due("7: no edit", x.count(4), 0);
        Due.due("8: clearText", x.clearText(), 80);
        Due.due("8: clearText", x.clearText(), 0);
        Due.due("8: no edit", x.count(4), 0);
        Due.due("7: append", x.append(32), 1);
    }

    private static void load(int lattice, String text, int want) {
        CellFigures x = new CellFigures();
        x.setLattice(lattice);
        Due.type(x, text);
        Due.due("9: load of \"" + text + "\" on " + lattice, x.load(), want);
        Due.due("9: the text after \"" + text + "\"", x.count(5), want >= 0 ? 0 : text.length());
        Due.due("9: the history after \"" + text + "\"", x.count(4), want >= 0 ? 2 : 1);
    }

    private static void goodTexts() {
        load(0, "", 0);
        load(0, "     ", 0);
        load(0, "at000;", 1);
        load(0, "  at  0  0  0  ;  ", 1);
        load(0, "at000;go0123;", 4);
        load(0, "at000;go0202;", 2);
        load(0, "at000;at200;go2;", 3);
        load(0, "at000;at200;go1;go2;", 4);
        load(0, "at000;at990;go3;", 3);
        load(1, "at001;go0;", 2);
        load(1, "at000;at001;", 2);
        load(1, "at440;go012012;", 6);
        load(2, "at550;go024;", 3);
        load(2, "at550;go234501;", 6);
        load(0, "at550;" + " ".repeat(74), 1);
        load(0, "at550;go" + "02".repeat(35) + "0;", 2);
    }

    private static void refused(int lattice, String text, int position) {
        load(lattice, text, -10 - position);
    }

    private static void errorPositions() {
        // the end inside of an item
        refused(0, "at", 2);
        refused(0, "at  ", 4);
        refused(0, "at0", 3);
        refused(0, "at00", 4);
        refused(0, "at000", 5);
        refused(0, "at000 ", 6);
        refused(0, "at000;go", 8);
        refused(0, "at000;go ", 9);
        refused(0, "at000;go0", 9);
        refused(0, "at550;go" + "02".repeat(36), 80);
        // the grammar
        refused(0, ";", 0);
        refused(0, "  ;", 2);
        refused(0, "0", 0);
        refused(0, "at;", 2);
        refused(0, "at0;", 3);
        refused(0, "at00;", 4);
        refused(0, "at0000;", 5);
        refused(0, "at000;;", 6);
        refused(0, "at000 at100;", 6);
        refused(0, "at000 go0;", 6);
        refused(0, "at000;at10go0;", 10);
        refused(0, "at000;at go0;", 9);
        refused(0, "at000;go at100;", 9);
        refused(0, "at000;go0 at550;", 10);
        refused(0, "at000;go;", 8);
        refused(0, "at000;go0 go1;", 10);
        refused(0, "at 0 at", 5);
        // "go" as the first item
        refused(0, "go0;", 0);
        refused(0, " go 0;", 1);
        // digits out of range
        refused(0, "at001;", 4);
        refused(2, "at001;", 4);
        refused(1, "at002;", 4);
        refused(1, "at009;", 4);
        refused(0, "at000;go4;", 8);
        refused(1, "at000;go3;", 8);
        refused(2, "at550;go6;", 8);
        refused(2, "at550;go9;", 8);
        // a cell that is there
        refused(0, "at000;at000;", 10);
        refused(0, "at000;go0;at100", 14);
        refused(1, "at001;at001;", 10);
        // t = 2 of (0, 0) is not taken for (1, 0)
        refused(1, "at100;at002;", 10);
        // out of the field
        refused(0, "at000;go2;", 8);
        refused(0, "at000;go3;", 8);
        refused(0, "at990;go0;", 8);
        refused(0, "at990;go1;", 8);
        refused(0, "at880;go 0 0;", 11);
        refused(1, "at000;go1;", 8);
        refused(1, "at000;go2;", 8);
        refused(1, "at991;go1;", 8);
        refused(1, "at991;go2;", 8);
        refused(2, "at050;go2;", 8);
        refused(2, "at900;go5;", 8);
    }

    private static void wordsAndSigns() {
        refused(0, "atx 0 0 0;", 0);
        refused(0, "atz000;", 0);
        refused(0, "ata000;", 0);
        refused(0, "a t 0 0 0;", 0);
        refused(0, "a", 0);
        refused(0, "go", 0);
        refused(0, "AT000;", 0);
        refused(0, "aT000;", 0);
        refused(0, "at000; att", 7);
        refused(0, "at000;goo0;", 6);
        refused(0, "at000;g0;", 6);
        refused(0, "at000;atgo0;", 6);
        refused(0, "at\t000;", 2);
        refused(0, "at0-00;", 3);
        refused(0, "at000;\n", 6);
        refused(0, "at000" + (char) 255 + ";", 5);
        refused(0, "at000" + (char) 160 + ";", 5);
        refused(0, "" + (char) 1, 0);
        refused(0, "at000,", 5);
        refused(0, "at000:", 5);
        refused(0, "at00/;", 4);
        refused(0, "`", 0);
        refused(0, "{", 0);
        refused(0, "at0{0", 3);
    }

    private static void thirteenCells() {
        load(0, "at000;go00000000011;", 12);
        refused(0, "at000;go000000000111;", 19);
        load(0, "at000;go00000000011333;", -10 - 21);
        load(0, "at000;go0000000001133;", 12);
        refused(0, "at000;go00000000011;at550;", 24);
        load(0, "at000;go00000000011;go32;", -10 - 23);
        load(0, "at000;go00000000011;go33;", 12);
        // the T of a cell that is there, with a full draft
        refused(0, "at000;go00000000011;at000;", 24);
    }

    private static void loading() {
        CellFigures x = new CellFigures();
        x.addCell(5, 5, 0);
        Due.type(x, "at 1 2 0; go 0 1");
        Due.due("9: refused", x.load(), -26);
        Due.due("9: the draft stays", x.hasCell(5, 5, 0) * 10 + x.count(1), 11);
        Due.due("9: the text stays", x.append(';'), 17);
        Due.due("9: load", x.load(), 3);
        Due.due("9: in place of the draft", x.hasCell(5, 5, 0), 0);
        Due.due("9: the cell", x.hasCell(1, 2, 0), 1);
        Due.due("9: neighbour 0", x.hasCell(2, 2, 0), 1);
        Due.due("9: neighbour 1", x.hasCell(2, 3, 0), 1);
        Due.due("9: an edit", x.undo(), 1);
        Due.due("9: undone", x.hasCell(5, 5, 0) * 10 + x.count(1), 11);
        Due.due("9: the text is not back", x.count(5), 0);
        Due.due("9: an empty text empties the draft", x.load(), 0);
        Due.due("9: an empty draft", x.count(1), 0);
        Due.due("9: it is an edit, too", x.count(4), 2);
        neighbours(0, 0, "650 560 450 540");
        neighbours(1, 0, "551 451 541");
        neighbours(1, 1, "550 650 560");
        neighbours(2, 0, "650 560 460 450 540 640");
    }

    /** The neighbours of (5, 5, t) in their order, written as q, r and t without spaces. */
    private static void neighbours(int lattice, int t, String cells) {
        String[] all = cells.split(" ");
        for (int d = 0; d < all.length; d++) {
            CellFigures x = Due.make(lattice, "at55" + t + ";go" + d + ";");
            String c = all[d];
            Due.due("9: neighbour " + d + " on " + lattice,
                    x.hasCell(c.charAt(0) - '0', c.charAt(1) - '0', c.charAt(2) - '0'), 1);
        }
    }
}
