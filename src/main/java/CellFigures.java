/**
 * A workbench for figures of connected cells on squares, triangles and hexagons.
 *
 * Everything that a call needs is made once, in the constructors: a call makes no object.
 */
public final class CellFigures {
    public static final int INVALID_ARGUMENT = -1;
    public static final int ILLEGAL_STATE = -2;
    public static final int CAPACITY_EXCEEDED = -3;
    public static final int NONE = -9;

    private static final int SQUARES = 0;
    private static final int TRIANGLES = 1;
    private static final int HEXAGONS = 2;
    private static final int LATTICES = 3;

    /** The q and r of a cell with a key are below this. */
    private static final int SPAN = 10;
    private static final int DRAFT_ROOM = 12;
    private static final int MOST_TURNS = 5;
    private static final int MOST_SYMMETRIES = 12;
    private static final int RELATIVES_LIMIT = 7;
    private static final int ERROR_BASE = -10;

    private final Lattice[] lattices = new Lattice[LATTICES];
    private final Catalogue[] catalogues = new Catalogue[LATTICES];
    private final State state;
    private final History history;
    private final Text text = new Text();
    private final Cells work = new Cells(DRAFT_ROOM);
    private final Images images = new Images();
    private final Surroundings surroundings = new Surroundings();
    private final Kin kin;
    private final Blocks blocks = new Blocks();

    public CellFigures() {
        for (int i = 0; i < LATTICES; i++) {
            lattices[i] = new Lattice(i);
            catalogues[i] = new Catalogue(lattices[i], images, surroundings);
        }
        state = new State(lattices[SQUARES]);
        history = new History(lattices[SQUARES]);
        kin = new Kin(images);
    }

    // ---- the draft

    public int setLattice(int lattice) {
        if (lattice < 0 || lattice >= LATTICES) {
            return INVALID_ARGUMENT;
        }
        int previous = state.lattice.number;
        history.keep(state);
        state.lattice = lattices[lattice];
        state.cells.clear();
        return previous;
    }

    public int addCell(int q, int r, int t) {
        if (!state.lattice.hasKey(q, r, t)) {
            return INVALID_ARGUMENT;
        }
        if (state.cells.find(q, r, t) >= 0) {
            return ILLEGAL_STATE;
        }
        if (state.cells.isFull()) {
            return CAPACITY_EXCEEDED;
        }
        history.keep(state);
        state.cells.add(q, r, t);
        return state.cells.size;
    }

    public int removeCell(int q, int r, int t) {
        if (!state.lattice.hasKey(q, r, t)) {
            return INVALID_ARGUMENT;
        }
        int place = state.cells.find(q, r, t);
        if (place < 0) {
            return ILLEGAL_STATE;
        }
        history.keep(state);
        state.cells.remove(place);
        return state.cells.size;
    }

    public int move(int mirror, int turns) {
        if (mirror < 0 || mirror > 1 || turns < 0 || turns > MOST_TURNS) {
            return INVALID_ARGUMENT;
        }
        if (!draftIsFigure()) {
            return ILLEGAL_STATE;
        }
        work.copy(state.cells);
        if (mirror == 1) {
            work.mirror();
        }
        for (int i = 0; i < turns; i++) {
            work.turn(state.lattice.number);
        }
        work.normalise();
        if (!work.allHaveKeys()) {
            return ILLEGAL_STATE;
        }
        history.keep(state);
        state.cells.copy(work);
        return state.cells.keyAt(0);
    }

    public int take(int size, int index) {
        if (!isListedSize(size) || index < 0) {
            return INVALID_ARGUMENT;
        }
        Catalogue catalogue = freeUpTo(size);
        if (index >= catalogue.freeLength(size)) {
            return NONE;
        }
        history.keep(state);
        state.cells.unpack(catalogue.freeForm(size, index), size);
        images.survey(state.cells, state.lattice);
        return images.symmetries();
    }

    public int append(int character) {
        if (character < 1 || character > 255) {
            return INVALID_ARGUMENT;
        }
        if (text.isFull()) {
            return CAPACITY_EXCEEDED;
        }
        text.put(character);
        return text.length;
    }

    public int clearText() {
        int previous = text.length;
        text.wipe();
        return previous;
    }

    public int load() {
        int error = text.read(state.lattice, work);
        if (error >= 0) {
            return ERROR_BASE - error;
        }
        history.keep(state);
        state.cells.copy(work);
        text.wipe();
        return state.cells.size;
    }

    public int undo() {
        if (history.length == 0) {
            return ILLEGAL_STATE;
        }
        history.restore(state);
        return history.length;
    }

    public int count(int what) {
        switch (what) {
            case 0:
                return state.lattice.number;
            case 1:
                return state.cells.size;
            case 2:
                return draftIsFigure() ? 1 : 0;
            case 3:
                return state.lattice.greatest;
            case 4:
                return history.length;
            case 5:
                return text.length;
            default:
                return INVALID_ARGUMENT;
        }
    }

    public int hasCell(int q, int r, int t) {
        if (!state.lattice.hasKey(q, r, t)) {
            return INVALID_ARGUMENT;
        }
        return state.cells.find(q, r, t) >= 0 ? 1 : 0;
    }

    // ---- properties of the draft

    public int property(int what) {
        if (what < 0 || what > 6) {
            return INVALID_ARGUMENT;
        }
        if (!draftIsFigure()) {
            return ILLEGAL_STATE;
        }
        if (what >= 5) {
            images.survey(state.cells, state.lattice);
            return what == 5 ? images.symmetries() : images.different();
        }
        work.copy(state.cells);
        work.normalise();
        surroundings.look(work, state.lattice);
        switch (what) {
            case 0:
                return surroundings.sides;
            case 1:
                return surroundings.borderCells;
            case 2:
                return surroundings.outerCells;
            case 3:
                return surroundings.holes;
            default:
                return surroundings.holeCells;
        }
    }

    public int key(int form, int index) {
        if (form < 0 || form > 1 || index < 0) {
            return INVALID_ARGUMENT;
        }
        if (!draftIsFigure()) {
            return ILLEGAL_STATE;
        }
        work.copy(state.cells);
        work.normalise();
        if (form == 1) {
            images.survey(work, state.lattice);
            if (!images.allHaveKeys()) {
                return ILLEGAL_STATE;
            }
            work.copy(images.smallest());
        }
        return index < work.size ? work.keyAt(index) : NONE;
    }

    public int number(int list) {
        if (!isList(list)) {
            return INVALID_ARGUMENT;
        }
        if (!draftIsFigure()) {
            return ILLEGAL_STATE;
        }
        int size = state.cells.size;
        if (size > state.lattice.greatest) {
            return NONE;
        }
        work.copy(state.cells);
        work.normalise();
        if (list == 0) {
            return fixedUpTo(size).fixedPlace(size, work.packed());
        }
        // The list is built first, as that takes the same images.
        Catalogue catalogue = freeUpTo(size);
        images.survey(work, state.lattice);
        return catalogue.freePlace(size, images.smallest().packed());
    }

    public int relatives(int way) {
        if (way < 0 || way > 1) {
            return INVALID_ARGUMENT;
        }
        if (state.cells.size > RELATIVES_LIMIT || !draftIsFigure()) {
            return ILLEGAL_STATE;
        }
        work.copy(state.cells);
        work.normalise();
        return way == 0 ? kin.byAdding(work, state.lattice) : kin.byRemoving(work, state.lattice);
    }

    // ---- lists of figures

    public int figures(int list, int size) {
        if (!isList(list) || !isListedSize(size)) {
            return INVALID_ARGUMENT;
        }
        return list == 1 ? freeUpTo(size).freeLength(size) : fixedUpTo(size).fixedLength(size);
    }

    public int figure(int list, int size, int index, int place) {
        if (!isList(list) || !isListedSize(size) || place < 0 || place >= size || index < 0) {
            return INVALID_ARGUMENT;
        }
        Catalogue catalogue = list == 1 ? freeUpTo(size) : fixedUpTo(size);
        int length = list == 1 ? catalogue.freeLength(size) : catalogue.fixedLength(size);
        if (index >= length) {
            return NONE;
        }
        work.unpack(list == 1 ? catalogue.freeForm(size, index) : catalogue.fixedForm(size, index), size);
        return work.keyAt(place);
    }

    public int withSides(int size, int sides) {
        if (!isListedSize(size) || sides < 0) {
            return INVALID_ARGUMENT;
        }
        return talliedUpTo(size).fixedWithSides(size, sides);
    }

    public int withSymmetries(int size, int symmetries) {
        if (!isListedSize(size) || symmetries < 1 || symmetries > MOST_SYMMETRIES) {
            return INVALID_ARGUMENT;
        }
        return freeUpTo(size).freeWithSymmetries(size, symmetries);
    }

    public int withHoles(int size) {
        if (!isListedSize(size)) {
            return INVALID_ARGUMENT;
        }
        return talliedUpTo(size).fixedWithHoles(size);
    }

    // ---- connected sets in a block

    public int connectedSets(int width, int height, int size) {
        if (width < 1 || width > Blocks.MOST_SPAN || height < 1 || height > Blocks.MOST_SPAN || size < 0) {
            return INVALID_ARGUMENT;
        }
        int cells = width * height * state.lattice.kinds;
        if (cells > Blocks.MOST_CELLS) {
            return CAPACITY_EXCEEDED;
        }
        return size > cells ? 0 : blocks.sets(state.lattice, width, height, size);
    }

    // ---- what several methods ask

    private boolean draftIsFigure() {
        return state.cells.areConnected(state.lattice);
    }

    private boolean isListedSize(int size) {
        return size >= 1 && size <= state.lattice.greatest;
    }

    private static boolean isList(int list) {
        return list == 0 || list == 1;
    }

    private Catalogue presentCatalogue() {
        int number = state.lattice.number;
        return number > 0 && number < LATTICES ? catalogues[number] : catalogues[SQUARES];
    }

    // The lists are built where they are asked for, in these steps, so that calls don't nest deep.

    private Catalogue fixedUpTo(int size) {
        Catalogue catalogue = presentCatalogue();
        catalogue.buildFixed(size);
        return catalogue;
    }

    private Catalogue freeUpTo(int size) {
        Catalogue catalogue = presentCatalogue();
        catalogue.buildFixed(size);
        catalogue.buildFree(size);
        return catalogue;
    }

    private Catalogue talliedUpTo(int size) {
        Catalogue catalogue = presentCatalogue();
        catalogue.buildFixed(size);
        catalogue.buildTallies(size);
        return catalogue;
    }

    /** One of the three lattices: its neighbours, and the limits that depend on it. */
    private static final class Lattice {
        private static final int[] SQUARE_Q = {1, 0, -1, 0};
        private static final int[] SQUARE_R = {0, 1, 0, -1};
        // The three neighbours for t = 0, then the three for t = 1.
        private static final int[] TRIANGLE_Q = {0, -1, 0, 0, 1, 0};
        private static final int[] TRIANGLE_R = {0, 0, -1, 0, 0, 1};
        private static final int[] HEXAGON_Q = {1, 0, -1, -1, 0, 1};
        private static final int[] HEXAGON_R = {0, 1, 1, 0, -1, -1};

        final int number;
        /** How many neighbours a cell has. */
        final int degree;
        /** How many values t can have. */
        final int kinds;
        /** How many turns make the identity. */
        final int turns;
        /** The greatest size of the listed figures. */
        final int greatest;
        private final int[] stepQ;
        private final int[] stepR;

        Lattice(int number) {
            this.number = number;
            kinds = number == TRIANGLES ? 2 : 1;
            turns = number == SQUARES ? 4 : 6;
            if (number == TRIANGLES) {
                degree = 3;
                greatest = 8;
                stepQ = TRIANGLE_Q;
                stepR = TRIANGLE_R;
            } else if (number == HEXAGONS) {
                degree = 6;
                greatest = 6;
                stepQ = HEXAGON_Q;
                stepR = HEXAGON_R;
            } else {
                degree = 4;
                greatest = 7;
                stepQ = SQUARE_Q;
                stepR = SQUARE_R;
            }
        }

        boolean hasKey(int q, int r, int t) {
            return q >= 0 && q < SPAN && r >= 0 && r < SPAN && t >= 0 && t < kinds;
        }

        int neighbourQ(int q, int t, int direction) {
            int i = t * degree + direction;
            return i >= 0 && i < stepQ.length ? q + stepQ[i] : q;
        }

        int neighbourR(int r, int t, int direction) {
            int i = t * degree + direction;
            return i >= 0 && i < stepR.length ? r + stepR[i] : r;
        }

        int neighbourT(int t) {
            return kinds - 1 - t;
        }
    }

    /**
     * A list of cells. Each is held as one number, which grows with r, then q, then t: so the
     * order of the numbers is the order of the keys, and it is there also for cells without keys.
     */
    private static final class Cells {
        private static final int Q_SHIFT = 1;
        private static final int Q_MASK = 63;
        private static final int R_SHIFT = 7;
        /** What is added to q and r, so that they may be negative before a figure is shifted. */
        private static final int OFFSET = 32;
        private static final int KEY_BITS = 8;
        private static final int KEY_MASK = 255;

        private final int[] codes;
        int size;

        Cells(int room) {
            codes = new int[Math.max(room, 0)];
        }

        private static int codeOf(int q, int r, int t) {
            return ((r + OFFSET) << R_SHIFT) + ((q + OFFSET) << Q_SHIFT) + t;
        }

        int qAt(int i) {
            return i >= 0 && i < size ? ((codes[i] >> Q_SHIFT) & Q_MASK) - OFFSET : 0;
        }

        int rAt(int i) {
            return i >= 0 && i < size ? (codes[i] >> R_SHIFT) - OFFSET : 0;
        }

        int tAt(int i) {
            return i >= 0 && i < size ? codes[i] & 1 : 0;
        }

        int keyAt(int i) {
            return keyOf(qAt(i), rAt(i), tAt(i));
        }

        private static int keyOf(int q, int r, int t) {
            return 2 * SPAN * r + 2 * q + t;
        }

        boolean isFull() {
            return size >= codes.length;
        }

        void clear() {
            size = 0;
        }

        void add(int q, int r, int t) {
            if (size < codes.length) {
                codes[size] = codeOf(q, r, t);
                size++;
            }
        }

        /** Removes the cell at a place; the last cell takes its place. */
        void remove(int place) {
            if (place >= 0 && place < size) {
                codes[place] = codes[size - 1];
                size--;
            }
        }

        int find(int q, int r, int t) {
            int code = codeOf(q, r, t);
            for (int i = 0; i < size; i++) {
                if (codes[i] == code) {
                    return i;
                }
            }
            return -1;
        }

        void copy(Cells other) {
            size = Math.min(other.size, codes.length);
            for (int i = 0; i < size; i++) {
                codes[i] = other.codes[i];
            }
        }

        void mirror() {
            for (int i = 0; i < size; i++) {
                codes[i] = codeOf(rAt(i), qAt(i), tAt(i));
            }
        }

        void turn(int lattice) {
            for (int i = 0; i < size; i++) {
                int q = qAt(i);
                int r = rAt(i);
                int t = tAt(i);
                if (lattice == SQUARES) {
                    codes[i] = codeOf(-r, q, 0);
                } else if (lattice == TRIANGLES) {
                    codes[i] = codeOf(-r - 1, q + r + t, 1 - t);
                } else {
                    codes[i] = codeOf(-r, q + r, 0);
                }
            }
        }

        /** Shifts the cells so that the smallest q and r are 0, and puts them in order. */
        void normalise() {
            int leastQ = Integer.MAX_VALUE;
            int leastR = Integer.MAX_VALUE;
            for (int i = 0; i < size; i++) {
                leastQ = Math.min(leastQ, qAt(i));
                leastR = Math.min(leastR, rAt(i));
            }
            int shift = (leastR << R_SHIFT) + (leastQ << Q_SHIFT);
            for (int i = 0; i < size; i++) {
                int code = codes[i] - shift;
                int place = i;
                while (place > 0 && codes[place - 1] > code) {
                    codes[place] = codes[place - 1];
                    place--;
                }
                codes[place] = code;
            }
        }

        /** Less than 0, 0 or more than 0, as this list is before, the same as or behind another of its size. */
        int compareWith(Cells other) {
            for (int i = 0; i < size && i < other.size; i++) {
                int difference = codes[i] - other.codes[i];
                if (difference != 0) {
                    return difference;
                }
            }
            return 0;
        }

        boolean allHaveKeys() {
            for (int i = 0; i < size; i++) {
                if (qAt(i) >= SPAN || rAt(i) >= SPAN) {
                    return false;
                }
            }
            return true;
        }

        boolean areConnected(Lattice lattice) {
            if (size == 0) {
                return false;
            }
            int reached = 1;
            int open = 1;
            // Each cell is opened at most once, so there are at most as many rounds as cells.
            for (int round = 0; round < size && open != 0; round++) {
                int cell = Integer.numberOfTrailingZeros(open);
                int found = neighboursOf(cell, lattice) & ~reached;
                reached |= found;
                open = (open & (open - 1)) | found;
            }
            return Integer.bitCount(reached) == size;
        }

        /** The places of the cells of this list that are neighbours of one of them, as bits. */
        private int neighboursOf(int cell, Lattice lattice) {
            int found = 0;
            int t = tAt(cell);
            for (int d = 0; d < lattice.degree; d++) {
                int q = lattice.neighbourQ(qAt(cell), t, d);
                int r = lattice.neighbourR(rAt(cell), t, d);
                int place = find(q, r, lattice.neighbourT(t));
                if (place >= 0) {
                    found |= 1 << place;
                }
            }
            return found;
        }

        /**
         * The keys of at most 8 cells in one number. The first key of a normal form is below 20,
         * so the number is not negative, and numbers of one size compare as the forms do.
         */
        long packed() {
            long packed = 0;
            for (int i = 0; i < size; i++) {
                packed = (packed << KEY_BITS) | keyAt(i);
            }
            return packed;
        }

        /** The packed normal form of this normal form of at most 7 cells and a border cell. */
        long packedWith(int q, int r, int t) {
            int shift = keyOf(Math.max(-q, 0), Math.max(-r, 0), 0);
            int added = keyOf(q, r, t) + shift;
            boolean isIn = false;
            long packed = 0;
            for (int i = 0; i < size; i++) {
                int key = keyAt(i) + shift;
                if (!isIn && added < key) {
                    packed = (packed << KEY_BITS) | added;
                    isIn = true;
                }
                packed = (packed << KEY_BITS) | key;
            }
            return isIn ? packed : (packed << KEY_BITS) | added;
        }

        void unpack(long packed, int number) {
            size = Math.max(0, Math.min(number, codes.length));
            long rest = packed;
            for (int i = size - 1; i >= 0; i--) {
                int key = (int) (rest & KEY_MASK);
                codes[i] = codeOf(key % (2 * SPAN) / 2, key / (2 * SPAN), key & 1);
                rest >>= KEY_BITS;
            }
        }
    }

    /** A lattice and a draft on it. */
    private static final class State {
        Lattice lattice;
        final Cells cells = new Cells(DRAFT_ROOM);

        State(Lattice lattice) {
            this.lattice = lattice;
        }

        void copy(State other) {
            lattice = other.lattice;
            cells.copy(other.cells);
        }
    }

    /** The states before the latest edits, in a ring, so that none is moved when the oldest is dropped. */
    private static final class History {
        private static final int ROOM = 6;

        private final State[] states = new State[ROOM];
        private int end;
        int length;

        History(Lattice lattice) {
            for (int i = 0; i < ROOM; i++) {
                states[i] = new State(lattice);
            }
        }

        void keep(State state) {
            if (end >= 0 && end < ROOM) {
                states[end].copy(state);
            }
            end = end + 1 < ROOM ? end + 1 : 0;
            length = Math.min(length + 1, ROOM);
        }

        void restore(State state) {
            if (length == 0) {
                return;
            }
            length--;
            end = end > 0 ? end - 1 : ROOM - 1;
            if (end < ROOM) {
                state.copy(states[end]);
            }
        }
    }

    /** The text, and how it is read as a draft. */
    private static final class Text {
        private static final int ROOM = 80;
        private static final int SPACE = 32;
        private static final int NO_ERROR = -1;

        private static final int END = 0;
        private static final int AT = 1;
        private static final int GO = 2;
        private static final int DIGIT = 3;
        private static final int SEMICOLON = 4;
        private static final int OTHER = 5;

        private final int[] characters = new int[ROOM];
        int length;

        // The token that is looked at: where it begins, where it ends, what it is.
        private int start;
        private int end;
        private int kind;
        private int digit;

        private int lastQ;
        private int lastR;
        private int lastT;

        boolean isFull() {
            return length >= ROOM;
        }

        void put(int character) {
            if (length < ROOM) {
                characters[length] = character;
                length++;
            }
        }

        void wipe() {
            length = 0;
        }

        private int characterAt(int i) {
            return i >= 0 && i < length ? characters[i] : 0;
        }

        /** Reads the text into a list of cells; answers the error position, or a negative number. */
        int read(Lattice lattice, Cells cells) {
            cells.clear();
            end = 0;
            for (int item = 0; item <= ROOM; item++) {
                nextToken();
                if (kind == END) {
                    return NO_ERROR;
                }
                if (!readItem(lattice, cells)) {
                    return start;
                }
            }
            return start;
        }

        /** Reads an item from its word on; if this fails, the present token is the one not allowed. */
        private boolean readItem(Lattice lattice, Cells cells) {
            if (kind == AT) {
                return readAt(lattice, cells);
            }
            // Only an "at" can be first, and it adds a cell: without cells there is no last one.
            return kind == GO && cells.size > 0 && readGo(lattice, cells);
        }

        private boolean readAt(Lattice lattice, Cells cells) {
            if (!nextDigit()) {
                return false;
            }
            int q = digit;
            if (!nextDigit()) {
                return false;
            }
            int r = digit;
            if (!nextDigit() || !lattice.hasKey(q, r, digit) || cells.find(q, r, digit) >= 0
                    || !comeTo(q, r, digit, lattice, cells)) {
                return false;
            }
            nextToken();
            return kind == SEMICOLON;
        }

        private boolean readGo(Lattice lattice, Cells cells) {
            if (!nextDigit()) {
                return false;
            }
            for (int step = 0; step < ROOM && kind == DIGIT; step++) {
                if (digit >= lattice.degree) {
                    return false;
                }
                int q = lattice.neighbourQ(lastQ, lastT, digit);
                int r = lattice.neighbourR(lastR, lastT, digit);
                if (!comeTo(q, r, lattice.neighbourT(lastT), lattice, cells)) {
                    return false;
                }
                nextToken();
            }
            return kind == SEMICOLON;
        }

        /** Makes a cell the last one, and adds it unless it is there; answers false if that is not allowed. */
        private boolean comeTo(int q, int r, int t, Lattice lattice, Cells cells) {
            if (!lattice.hasKey(q, r, t)) {
                return false;
            }
            if (cells.find(q, r, t) < 0) {
                if (cells.isFull()) {
                    return false;
                }
                cells.add(q, r, t);
            }
            lastQ = q;
            lastR = r;
            lastT = t;
            return true;
        }

        private boolean nextDigit() {
            nextToken();
            return kind == DIGIT;
        }

        private void nextToken() {
            start = end;
            while (start < length && characterAt(start) == SPACE) {
                start++;
            }
            int first = characterAt(start);
            end = Math.min(start + 1, length);
            if (start >= length) {
                kind = END;
            } else if (first >= '0' && first <= '9') {
                kind = DIGIT;
                digit = first - '0';
            } else if (first == ';') {
                kind = SEMICOLON;
            } else if (isLetter(first)) {
                while (end < length && isLetter(characterAt(end))) {
                    end++;
                }
                kind = isWord('a', 't') ? AT : isWord('g', 'o') ? GO : OTHER;
            } else {
                kind = OTHER;
            }
        }

        private static boolean isLetter(int character) {
            return character >= 'a' && character <= 'z';
        }

        private boolean isWord(char first, char second) {
            return end - start == 2 && characterAt(start) == first && characterAt(start + 1) == second;
        }
    }

    /** The images of a figure by the symmetries of its lattice. */
    private static final class Images {
        private final Cells[] forms = new Cells[MOST_SYMMETRIES];
        private final Cells image = new Cells(DRAFT_ROOM);
        private int number;

        Images() {
            for (int i = 0; i < MOST_SYMMETRIES; i++) {
                forms[i] = new Cells(DRAFT_ROOM);
            }
        }

        /** Makes the normal forms of all images; the first one is the figure's own. */
        void survey(Cells figure, Lattice lattice) {
            number = Math.min(2 * lattice.turns, MOST_SYMMETRIES);
            image.copy(figure);
            image.normalise();
            for (int i = 0; i < number; i++) {
                forms[i].copy(image);
                goOn(lattice, i);
            }
        }

        /** Goes from one image to the next: all turns of the figure, then all turns of its mirror image. */
        private void goOn(Lattice lattice, int step) {
            image.turn(lattice.number);
            if (step == lattice.turns - 1) {
                image.mirror();
            }
            image.normalise();
        }

        /** Tells whether a normal form is canonical, without looking at more images than that needs. */
        boolean isCanonical(Cells normalForm, Lattice lattice) {
            image.copy(normalForm);
            for (int i = 0; i < 2 * lattice.turns; i++) {
                if (image.compareWith(normalForm) < 0) {
                    return false;
                }
                goOn(lattice, i);
            }
            return true;
        }

        Cells smallest() {
            int best = 0;
            for (int i = 1; i < number; i++) {
                if (forms[i].compareWith(forms[best]) < 0) {
                    best = i;
                }
            }
            return forms[best];
        }

        int symmetries() {
            int same = 0;
            for (int i = 0; i < number; i++) {
                if (forms[i].compareWith(forms[0]) == 0) {
                    same++;
                }
            }
            return same;
        }

        int different() {
            int different = 0;
            for (int i = 0; i < number; i++) {
                if (!isThereBefore(i)) {
                    different++;
                }
            }
            return different;
        }

        private boolean isThereBefore(int i) {
            for (int j = 0; j < i; j++) {
                if (forms[j].compareWith(forms[i]) == 0) {
                    return true;
                }
            }
            return false;
        }

        boolean allHaveKeys() {
            for (int i = 0; i < number; i++) {
                if (!forms[i].allHaveKeys()) {
                    return false;
                }
            }
            return true;
        }
    }

    /**
     * What lies around a figure. It is looked at in a window that has one row or column more than
     * the figure on each side: this rim is connected and free of the figure, so all cells that one
     * can get to from afar are those that one can get to from the rim within the window.
     */
    private static final class Surroundings {
        private static final int Q_SHIFT = 1;
        private static final int Q_MASK = 15;
        private static final int R_SHIFT = 5;
        private static final int ROOM = (SPAN + 2) << R_SHIFT;

        private static final int UNSEEN = 0;
        private static final int FIGURE = 1;
        private static final int OUTER = 2;
        private static final int HOLE = 3;
        /** Added to the mark of a border cell when it has been counted. */
        private static final int COUNTED = 4;

        private final int[] marks = new int[ROOM];
        private final int[] queue = new int[ROOM];
        private int columns;
        private int rows;

        int sides;
        int borderCells;
        int outerCells;
        int holes;
        int holeCells;

        /** Looks around a figure in its normal form, all of whose cells have keys. */
        void look(Cells figure, Lattice lattice) {
            openWindow(figure);
            flood(placeOf(-1, -1, 0), OUTER, lattice);
            countHoles(lattice);
            countBorder(figure, lattice);
        }

        private void openWindow(Cells figure) {
            columns = 0;
            rows = 0;
            for (int i = 0; i < figure.size; i++) {
                columns = Math.max(columns, figure.qAt(i) + 3);
                rows = Math.max(rows, figure.rAt(i) + 3);
            }
            columns = Math.min(columns, SPAN + 2);
            rows = Math.min(rows, SPAN + 2);
            for (int place = 0; place < rows << R_SHIFT; place++) {
                marks[place] = UNSEEN;
            }
            for (int i = 0; i < figure.size; i++) {
                int place = placeOf(figure.qAt(i), figure.rAt(i), figure.tAt(i));
                if (place >= 0) {
                    marks[place] = FIGURE;
                }
            }
        }

        /** The place of a cell in the window, or -1. */
        private int placeOf(int q, int r, int t) {
            if (q < -1 || q > columns - 2 || r < -1 || r > rows - 2) {
                return -1;
            }
            return ((r + 1) << R_SHIFT) + ((q + 1) << Q_SHIFT) + t;
        }

        private int neighbourPlace(int q, int r, int t, int direction, Lattice lattice) {
            return placeOf(lattice.neighbourQ(q, t, direction), lattice.neighbourR(r, t, direction),
                    lattice.neighbourT(t));
        }

        /** Marks all cells of the window that one can get to from a place; answers how many there are. */
        private int flood(int first, int mark, Lattice lattice) {
            if (first < 0 || first >= ROOM || marks[first] != UNSEEN) {
                return 0;
            }
            marks[first] = mark;
            queue[0] = first;
            int filled = 1;
            for (int i = 0; i < filled && i < ROOM; i++) {
                int q = ((queue[i] >> Q_SHIFT) & Q_MASK) - 1;
                int r = (queue[i] >> R_SHIFT) - 1;
                int t = queue[i] & 1;
                for (int d = 0; d < lattice.degree; d++) {
                    int next = neighbourPlace(q, r, t, d, lattice);
                    if (next >= 0 && marks[next] == UNSEEN && filled < ROOM) {
                        marks[next] = mark;
                        queue[filled] = next;
                        filled++;
                    }
                }
            }
            return filled;
        }

        private void countHoles(Lattice lattice) {
            holes = 0;
            holeCells = 0;
            for (int r = 0; r < rows - 2; r++) {
                for (int q = 0; q < columns - 2; q++) {
                    for (int t = 0; t < lattice.kinds; t++) {
                        int filled = flood(placeOf(q, r, t), HOLE, lattice);
                        holes += filled > 0 ? 1 : 0;
                        holeCells += filled;
                    }
                }
            }
        }

        private void countBorder(Cells figure, Lattice lattice) {
            sides = 0;
            borderCells = 0;
            outerCells = 0;
            for (int i = 0; i < figure.size; i++) {
                for (int d = 0; d < lattice.degree; d++) {
                    int place = neighbourPlace(figure.qAt(i), figure.rAt(i), figure.tAt(i), d, lattice);
                    if (place >= 0 && marks[place] != FIGURE) {
                        sides++;
                        countBorderCell(place);
                    }
                }
            }
        }

        private void countBorderCell(int place) {
            if (marks[place] < COUNTED) {
                borderCells++;
                outerCells += marks[place] == OUTER ? 1 : 0;
                marks[place] += COUNTED;
            }
        }
    }

    /** The different canonical forms of the figures that have one cell more or less than a figure. */
    private static final class Kin {
        /** A figure of 7 cells has at most 42 sides. */
        private static final int ROOM = 48;

        private final Images images;
        private final Cells border = new Cells(ROOM);
        private final Cells relative = new Cells(DRAFT_ROOM);
        private final long[] forms = new long[ROOM];
        private int number;

        Kin(Images images) {
            this.images = images;
        }

        int byAdding(Cells normalForm, Lattice lattice) {
            number = 0;
            findBorder(normalForm, lattice);
            for (int i = 0; i < border.size; i++) {
                long packed = normalForm.packedWith(border.qAt(i), border.rAt(i), border.tAt(i));
                relative.unpack(packed, normalForm.size + 1);
                noteRelative(lattice);
            }
            return number;
        }

        int byRemoving(Cells normalForm, Lattice lattice) {
            number = 0;
            for (int i = 0; i < normalForm.size; i++) {
                relative.copy(normalForm);
                relative.remove(i);
                if (relative.areConnected(lattice)) {
                    noteRelative(lattice);
                }
            }
            return number;
        }

        private void findBorder(Cells figure, Lattice lattice) {
            border.clear();
            for (int i = 0; i < figure.size; i++) {
                int t = lattice.neighbourT(figure.tAt(i));
                for (int d = 0; d < lattice.degree; d++) {
                    int q = lattice.neighbourQ(figure.qAt(i), figure.tAt(i), d);
                    int r = lattice.neighbourR(figure.rAt(i), figure.tAt(i), d);
                    if (figure.find(q, r, t) < 0 && border.find(q, r, t) < 0) {
                        border.add(q, r, t);
                    }
                }
            }
        }

        private void noteRelative(Lattice lattice) {
            images.survey(relative, lattice);
            long packed = images.smallest().packed();
            for (int i = 0; i < number; i++) {
                if (forms[i] == packed) {
                    return;
                }
            }
            if (number < ROOM) {
                forms[number] = packed;
                number++;
            }
        }
    }

    /**
     * The fixed and the free figures of one lattice, as packed forms. The lists of all sizes stand
     * one behind the other in one row each; a size must be built before it is asked for.
     */
    private static final class Catalogue {
        /** There are 1067, 1080 and 1059 fixed figures of all sizes. */
        private static final int FIXED_ROOM = 1100;
        /** There are 164, 112 and 116 free figures of all sizes. */
        private static final int FREE_ROOM = 180;
        private static final int SIZES = 9;
        /** No listed figure has more than 36 sides. */
        private static final int SIDES = 37;
        private static final int SYMMETRIES = MOST_SYMMETRIES + 1;

        private final Lattice lattice;
        private final Images images;
        private final Surroundings surroundings;
        private final Cells figure = new Cells(DRAFT_ROOM);

        // The list of size n stands from start[n] up to start[n + 1].
        private final long[] fixed = new long[FIXED_ROOM];
        private final int[] fixedStart = new int[SIZES + 1];
        private int fixedBuilt;
        private final long[] free = new long[FREE_ROOM];
        private final int[] freeStart = new int[SIZES + 1];
        private int freeBuilt;

        private final int[] sidesTally = new int[SIZES * SIDES];
        private final int[] symmetriesTally = new int[SIZES * SYMMETRIES];
        private final int[] holesTally = new int[SIZES];
        private int tallied;

        Catalogue(Lattice lattice, Images images, Surroundings surroundings) {
            this.lattice = lattice;
            this.images = images;
            this.surroundings = surroundings;
        }

        private boolean isSize(int size) {
            return size >= 1 && size <= lattice.greatest && size < SIZES;
        }

        int fixedLength(int size) {
            return isSize(size) ? fixedStart[size + 1] - fixedStart[size] : 0;
        }

        int freeLength(int size) {
            return isSize(size) ? freeStart[size + 1] - freeStart[size] : 0;
        }

        long fixedForm(int size, int index) {
            return index >= 0 && index < fixedLength(size) ? fixed[fixedStart[size] + index] : 0;
        }

        long freeForm(int size, int index) {
            return index >= 0 && index < freeLength(size) ? free[freeStart[size] + index] : 0;
        }

        int fixedPlace(int size, long packed) {
            return isSize(size) ? numberIn(fixed, fixedStart[size], fixedStart[size + 1], packed) : NONE;
        }

        int freePlace(int size, long packed) {
            return isSize(size) ? numberIn(free, freeStart[size], freeStart[size + 1], packed) : NONE;
        }

        /** The number of a form in a list that stands in a row, or NONE. */
        private static int numberIn(long[] row, int from, int to, long packed) {
            int place = placeOf(row, from, to, packed);
            return place < to && place < row.length && row[place] == packed ? place - from : NONE;
        }

        int fixedWithSides(int size, int sides) {
            return isSize(size) && sides >= 0 && sides < SIDES ? sidesTally[size * SIDES + sides] : 0;
        }

        int fixedWithHoles(int size) {
            return isSize(size) ? holesTally[size] : 0;
        }

        int freeWithSymmetries(int size, int symmetries) {
            boolean isThere = isSize(size) && symmetries >= 0 && symmetries < SYMMETRIES;
            return isThere ? symmetriesTally[size * SYMMETRIES + symmetries] : 0;
        }

        /** The first place of an ordered part of a row whose form is not before the given one. */
        private static int placeOf(long[] row, int from, int to, long packed) {
            int low = from < 0 ? 0 : from;
            int high = to > row.length ? row.length : to;
            while (low < high) {
                int middle = (low + high) >>> 1;
                if (row[middle] < packed) {
                    low = middle + 1;
                } else {
                    high = middle;
                }
            }
            return low;
        }

        void buildFixed(int size) {
            for (int next = fixedBuilt + 1; next <= size && isSize(next); next++) {
                fixedStart[next + 1] = fixedStart[next];
                if (next == 1) {
                    placeSingleCells();
                } else {
                    growInto(next);
                }
                fixedBuilt = next;
            }
        }

        private void placeSingleCells() {
            for (int t = 0; t < lattice.kinds; t++) {
                insertFixed(1, t);
            }
        }

        /** Every figure arises from one that is a cell smaller: each adds its border cells, one at a time. */
        private void growInto(int size) {
            int from = Math.max(fixedStart[size - 1], 0);
            int to = Math.min(fixedStart[size], FIXED_ROOM);
            for (int i = from; i < to; i++) {
                figure.unpack(fixed[i], size - 1);
                growFigure(size);
            }
        }

        private void growFigure(int size) {
            for (int i = 0; i < figure.size; i++) {
                int t = lattice.neighbourT(figure.tAt(i));
                for (int d = 0; d < lattice.degree; d++) {
                    int q = lattice.neighbourQ(figure.qAt(i), figure.tAt(i), d);
                    int r = lattice.neighbourR(figure.rAt(i), figure.tAt(i), d);
                    if (figure.find(q, r, t) < 0) {
                        insertFixed(size, figure.packedWith(q, r, t));
                    }
                }
            }
        }

        /** Puts a form into the list of its size, which is the last one, unless it is there. */
        private void insertFixed(int size, long packed) {
            int end = fixedStart[size + 1];
            int place = placeOf(fixed, fixedStart[size], end, packed);
            if (place < end && fixed[place] == packed || end >= FIXED_ROOM) {
                return;
            }
            System.arraycopy(fixed, place, fixed, place + 1, end - place);
            fixed[place] = packed;
            fixedStart[size + 1] = end + 1;
        }

        /** Picks the free figures out of the fixed ones, which must be built. */
        void buildFree(int size) {
            for (int next = freeBuilt + 1; next <= size && next <= fixedBuilt; next++) {
                freeStart[next + 1] = freeStart[next];
                for (int i = fixedStart[next]; i < fixedStart[next + 1] && i < FIXED_ROOM; i++) {
                    figure.unpack(fixed[i], next);
                    if (images.isCanonical(figure, lattice)) {
                        appendFree(next, fixed[i]);
                    }
                }
                freeBuilt = next;
            }
        }

        /** Puts the present figure behind the free ones: it is canonical, and comes in the order of its list. */
        private void appendFree(int size, long packed) {
            int end = freeStart[size + 1];
            if (end >= FREE_ROOM) {
                return;
            }
            free[end] = packed;
            freeStart[size + 1] = end + 1;
            images.survey(figure, lattice);
            int place = size * SYMMETRIES + images.symmetries();
            if (place < symmetriesTally.length) {
                symmetriesTally[place]++;
            }
        }

        /** Counts the fixed figures, which must be built, by their sides and holes. */
        void buildTallies(int size) {
            for (int next = tallied + 1; next <= size && next <= fixedBuilt; next++) {
                for (int i = fixedStart[next]; i < fixedStart[next + 1] && i < FIXED_ROOM; i++) {
                    figure.unpack(fixed[i], next);
                    surroundings.look(figure, lattice);
                    tallyFigure(next);
                }
                tallied = next;
            }
        }

        private void tallyFigure(int size) {
            int place = size * SIDES + surroundings.sides;
            if (place < sidesTally.length) {
                sidesTally[place]++;
            }
            if (surroundings.holes > 0) {
                holesTally[size]++;
            }
        }
    }

    /**
     * Counts the connected sets in a block. The cells are decided one by one; sets that look the
     * same to the cells still to come are counted together. What those cells see of a set is, for
     * each decided cell that has a neighbour to come, whether it is in the set, and with which of
     * the others it is connected so far: a label from 1, or 0 for a cell that is not in the set.
     */
    private static final class Blocks {
        static final int MOST_SPAN = 5;
        static final int MOST_CELLS = 20;
        private static final int SIZES = MOST_CELLS + 1;
        private static final int BLOCKS = LATTICES * MOST_SPAN * MOST_SPAN;
        private static final int LABEL_BITS = 3;
        private static final int LABEL_MASK = 7;
        /** The label of a cell just put in. No more than three labels are in use before. */
        private static final int FRESH = 7;

        private static final int OPEN = 0;
        private static final int CLOSED = 1;
        private static final int BROKEN = 2;

        private final boolean[] isKnown = new boolean[BLOCKS];
        /** For each block the number of its sets by size; at size 0 the number of all. */
        private final int[] answers = new int[BLOCKS * SIZES];
        /** For each cell of the block its neighbours in it, as bits. */
        private final int[] adjacent = new int[MOST_CELLS];
        private final int[] labels = new int[MOST_CELLS];
        private Sights present = new Sights();
        private Sights coming = new Sights();
        private int cells;
        /** No cell has a neighbour that comes later than by this. */
        private int reach;

        /** The number of connected sets of a size, or of all sizes for 0. */
        int sets(Lattice lattice, int width, int height, int size) {
            // The mirror map makes a block of width times height one of height times width.
            int narrow = Math.min(width, height);
            int wide = Math.max(width, height);
            int block = (lattice.number * MOST_SPAN + narrow - 1) * MOST_SPAN + wide - 1;
            if (block < 0 || block >= BLOCKS || size < 0 || size >= SIZES) {
                return 0;
            }
            if (!isKnown[block]) {
                layOut(lattice, narrow, wide);
                decideAll(block * SIZES);
                isKnown[block] = true;
            }
            return answers[block * SIZES + size];
        }

        private void layOut(Lattice lattice, int width, int height) {
            cells = Math.min(width * height * lattice.kinds, MOST_CELLS);
            reach = width * lattice.kinds;
            int cell = 0;
            for (int r = 0; r < height; r++) {
                for (int q = 0; q < width; q++) {
                    for (int t = 0; t < lattice.kinds && cell < cells; t++) {
                        adjacent[cell] = 0;
                        for (int d = 0; d < lattice.degree; d++) {
                            int nextQ = lattice.neighbourQ(q, t, d);
                            int nextR = lattice.neighbourR(r, t, d);
                            if (nextQ >= 0 && nextQ < width && nextR >= 0 && nextR < height) {
                                int place = (nextR * width + nextQ) * lattice.kinds + lattice.neighbourT(t);
                                adjacent[cell] |= 1 << place;
                            }
                        }
                        cell++;
                    }
                }
            }
        }

        private void decideAll(int answer) {
            present.clear();
            present.startEmpty();
            for (int cell = 0; cell < cells; cell++) {
                coming.clear();
                for (int row = 0; row < present.number; row++) {
                    decide(row, cell, 0, answer);
                    decide(row, cell, 1, answer);
                }
                Sights past = present;
                present = coming;
                coming = past;
            }
        }

        /** Leaves a cell out of the sets of a row (taken is 0), or puts it in (taken is 1). */
        private void decide(int row, int cell, int taken, int answer) {
            int first = Math.max(0, cell - reach);
            readLabels(present.sightAt(row), first, cell);
            labels[cell] = 0;
            if (taken == 1) {
                join(first, cell);
            }
            int outcome = retire(first, cell);
            if (outcome == OPEN) {
                coming.join(packLabels(first, cell), present, row, taken);
            } else if (outcome == CLOSED) {
                present.addTo(answers, answer, row, taken);
            }
        }

        private void readLabels(long sight, int first, int cell) {
            for (int i = first; i < cell; i++) {
                labels[i] = (int) (sight >>> (LABEL_BITS * i)) & LABEL_MASK;
            }
        }

        /** Puts a cell in: all that it touches becomes one with it. */
        private void join(int first, int cell) {
            labels[cell] = FRESH;
            for (int i = first; i < cell; i++) {
                int label = labels[i];
                if (label != 0 && label != FRESH && (adjacent[cell] >> i & 1) == 1) {
                    for (int j = first; j < cell; j++) {
                        labels[j] = labels[j] == label ? FRESH : labels[j];
                    }
                }
            }
        }

        /**
         * Forgets the cells all of whose neighbours are decided. If the last cell that is seen of a
         * part goes, the part can't grow any more: it is the whole set, or the set is not connected.
         */
        private int retire(int first, int cell) {
            for (int i = first; i <= cell; i++) {
                int label = labels[i];
                if (label != 0 && adjacent[i] >> (cell + 1) == 0) {
                    labels[i] = 0;
                    if (!isSeen(label, first, cell)) {
                        return isAnySeen(first, cell) ? BROKEN : CLOSED;
                    }
                }
            }
            return OPEN;
        }

        private boolean isSeen(int label, int first, int cell) {
            for (int i = first; i <= cell; i++) {
                if (labels[i] == label) {
                    return true;
                }
            }
            return false;
        }

        private boolean isAnySeen(int first, int cell) {
            for (int i = first; i <= cell; i++) {
                if (labels[i] != 0) {
                    return true;
                }
            }
            return false;
        }

        /** Packs the labels, numbered anew in the order of their first cells, so that like sights are equal. */
        private long packLabels(int first, int cell) {
            long sight = 0;
            int renamed = 0;
            int used = 0;
            for (int i = first; i <= cell; i++) {
                int label = labels[i];
                if (label != 0) {
                    int name = renamed >>> (4 * label) & 15;
                    if (name == 0) {
                        used++;
                        name = used;
                        renamed |= name << (4 * label);
                    }
                    sight |= (long) name << (LABEL_BITS * i);
                }
            }
            return sight;
        }
    }

    /** What the cells to come see of sets: for each different sight the number of sets by size. */
    private static final class Sights {
        /** No block has more than 26 different sights at once. */
        private static final int ROOM = 32;
        private static final int SIZES = Blocks.MOST_CELLS + 1;

        private final long[] sights = new long[ROOM];
        private final int[] counts = new int[ROOM * SIZES];
        int number;

        void clear() {
            number = 0;
        }

        /** The set without cells, of which nothing is seen. */
        void startEmpty() {
            int row = rowOf(0);
            if (row >= 0) {
                counts[row * SIZES] = 1;
            }
        }

        long sightAt(int row) {
            return row >= 0 && row < number ? sights[row] : 0;
        }

        /** The row of a sight, a new one if there is none; -1 if there is no room for it. */
        private int rowOf(long sight) {
            for (int row = 0; row < number; row++) {
                if (sights[row] == sight) {
                    return row;
                }
            }
            if (number >= ROOM) {
                return -1;
            }
            sights[number] = sight;
            for (int size = 0; size < SIZES; size++) {
                counts[number * SIZES + size] = 0;
            }
            number++;
            return number - 1;
        }

        /** Adds the sets of another one's row to the sets with a sight; they have grown by some cells. */
        void join(long sight, Sights other, int otherRow, int grown) {
            int row = rowOf(sight);
            if (row >= 0) {
                other.addSizes(counts, row * SIZES, otherRow, grown);
            }
        }

        /** Adds the sets of a row, grown by some cells, to numbers by size, and to the sum at size 0. */
        void addTo(int[] answers, int from, int row, int grown) {
            addSizes(answers, from, row, grown);
            for (int size = 0; size < SIZES - grown; size++) {
                if (row >= 0 && row < number && from >= 0 && from < answers.length) {
                    answers[from] += counts[row * SIZES + size];
                }
            }
        }

        private void addSizes(int[] sums, int from, int row, int grown) {
            if (row < 0 || row >= number || grown < 0 || from < 0 || from + SIZES > sums.length) {
                return;
            }
            for (int size = 0; size + grown < SIZES; size++) {
                sums[from + size + grown] += counts[row * SIZES + size];
            }
        }
    }
}
