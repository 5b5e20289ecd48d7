/**
 * What is so of all paths of a small system: see README.md.
 *
 * Nothing is made after the constructor has ended: every row that a call needs is kept and used again.
 */
public final class LassoPaths {
    public static final int BAD = -1, STATE = -2, FULL = -3, NONE = -9;

    private static final int MOST_TYPED = 120;
    private static final int MOST_STATES = 5;
    private static final int MOST_MOVES = 10;
    private static final int MOST_PARTS = 16;
    private static final int MOST_LATERS = 3;
    private static final int MOST_SHOWN = 8;
    private static final int MOST_UNDONE = 6;
    private static final int LABEL_VALUES = 8;
    private static final int ACTORS = 2;
    private static final int SLOT_COUNT = 3;
    private static final int IMAGE_COUNT = 2;

    /** What a reader answers if it found no fault: no place of a text. */
    private static final int FINE = -1;
    private static final int FAULT_AT_0 = -10;

    /** Steps of a path are of three kinds: those of actor 0, of actor 1, and staying. */
    private static final int KINDS = 3;
    private static final int STAYING = 2;

    /** A ground has a place for each label at least; a node is a place with a guess of each later part. */
    private static final int MOST_PLACES = 8;
    private static final int MOST_NODES = 64;
    /** Sets of what a loop must meet: the later parts and the two actors, a bit each. */
    private static final int MOST_MET = 32;

    private final int[] typed = new int[MOST_TYPED];
    private int typedCount;
    private final int[] shown = new int[MOST_SHOWN];
    private int shownCount;

    private final World now = new World();
    private final World draft = new World();
    private final World[] past = new World[MOST_UNDONE];
    private int pastCount;
    private final World[] images = new World[IMAGE_COUNT];
    private final boolean[] imageKept = new boolean[IMAGE_COUNT];

    private final SystemReader systemReader = new SystemReader();
    /** Each of these makes the next one itself, so that no constructor hands out what is still being made. */
    private final LoopSearch search = new LoopSearch();
    private final Tableau tableau = search.tableau;
    private final Ground ground = tableau.ground;

    public LassoPaths() {
        for (int i = 0; i < MOST_UNDONE; i++) {
            past[i] = new World();
        }
        for (int i = 0; i < IMAGE_COUNT; i++) {
            images[i] = new World();
        }
    }

    // ---- what is told

    public int type(int letter) {
        if (letter < 0 || letter > 255) {
            return BAD;
        }
        if (typedCount < 0 || typedCount >= MOST_TYPED) {
            return FULL;
        }
        typed[typedCount] = letter;
        typedCount++;
        return typedCount;
    }

    public int clear() {
        int had = typedCount;
        typedCount = 0;
        return had;
    }

    public int system() {
        int fault = systemReader.read(typed, typedCount, draft);
        if (fault != FINE) {
            return FAULT_AT_0 - fault;
        }
        remember();
        now.copySystem(draft);
        typedCount = 0;
        return now.states + now.moveCount;
    }

    public int formula() {
        int fault = readFormula(typed, typedCount, draft.current);
        if (fault != FINE) {
            return FAULT_AT_0 - fault;
        }
        remember();
        now.current.copy(draft.current);
        typedCount = 0;
        return now.current.size;
    }

    // ---- what is done

    public int labels(int s, int label) {
        if (!now.hasState(s) || !isLabel(label)) {
            return BAD;
        }
        int was = now.stateLabel[s];
        if (was == label) {
            return STATE;
        }
        remember();
        now.stateLabel[s] = label;
        return was;
    }

    public int moves(int actor, int from, int to) {
        if (actor < 0 || actor >= ACTORS || !now.hasState(from) || !now.hasState(to)) {
            return BAD;
        }
        if (now.moveCount >= MOST_MOVES) {
            return FULL;
        }
        remember();
        now.addMove(actor, from, to);
        return now.moveCount - 1;
    }

    public int takes(int m) {
        if (!now.hasMove(m)) {
            return BAD;
        }
        remember();
        now.removeMove(m);
        return now.moveCount;
    }

    public int stores(int slot) {
        if (!isSlot(slot)) {
            return BAD;
        }
        remember();
        now.slots[slot].copy(now.current);
        return now.current.size;
    }

    public int fetches(int slot) {
        if (!isSlot(slot)) {
            return BAD;
        }
        remember();
        now.current.copy(now.slots[slot]);
        return now.current.size;
    }

    public int undo() {
        if (pastCount <= 0 || pastCount > MOST_UNDONE) {
            return STATE;
        }
        pastCount--;
        now.copy(past[pastCount]);
        return pastCount;
    }

    // ---- asked

    public int label(int s) {
        if (!now.hasState(s)) {
            return BAD;
        }
        return now.stateLabel[s];
    }

    public int move(int m, int what) {
        if (!now.hasMove(m)) {
            return BAD;
        }
        switch (what) {
            case 0:
                return now.moveActor[m];
            case 1:
                return now.moveFrom[m];
            case 2:
                return now.moveTo[m];
            default:
                return BAD;
        }
    }

    public int part(int p, int what) {
        if (p < 0 || p >= now.current.size) {
            return BAD;
        }
        switch (what) {
            case 0:
                return now.current.letterOf(p);
            case 1:
                return now.current.spanOf(p);
            case 2:
                return now.current.outerOf(p);
            case 3:
                return bit(isLater(now.current.letterOf(p)));
            default:
                return BAD;
        }
    }

    // ---- paths

    public int holds(int fair, int s) {
        if (!isFlag(fair) || !now.hasState(s)) {
            return BAD;
        }
        return bit((wrongStarts(fair) & tableau.nodesOf(s)) == 0L);
    }

    public int where(int fair) {
        if (!isFlag(fair)) {
            return BAD;
        }
        long wrong = wrongStarts(fair);
        int states = 0;
        for (int s = 0; s < now.states; s++) {
            if ((wrong & tableau.nodesOf(s)) == 0L) {
                states |= 1 << s;
            }
        }
        return states;
    }

    public int some(int fair) {
        if (!isFlag(fair)) {
            return BAD;
        }
        if (now.states == 0) {
            return STATE;
        }
        ground.takeSystem(now);
        long so = judgeGround(fair == 1);
        return bit((tableau.live & so & tableau.nodesOf(0)) != 0L);
    }

    public int breaks(int fair, int what) {
        if (!isFlag(fair) || what < 0 || what > 2) {
            return BAD;
        }
        if (now.states == 0) {
            return STATE;
        }
        search.run(wrongStarts(fair) & tableau.nodesOf(0));
        if (search.length == 0) {
            return NONE;
        }
        if (what == 0) {
            return search.length;
        }
        return what == 1 ? search.entry : search.entryPlace;
    }

    // ---- formulas

    public int against(int slot, int what) {
        if (!isSlot(slot) || what < 0 || what > 3) {
            return BAD;
        }
        Formula other = now.slots[slot];
        if (now.current.laters + other.laters > MOST_LATERS) {
            return FULL;
        }
        ground.takeAllRows();
        tableau.open(now.current.laters + other.laters);
        long mine = tableau.tell(now.current);
        long its = tableau.tell(other);
        tableau.finish(false);
        switch (what) {
            case 0:
                return bit((tableau.live & (mine ^ its)) == 0L);
            case 1:
                return bit((tableau.live & mine & ~its) == 0L);
            case 2:
                return bit((tableau.live & its & ~mine) == 0L);
            default:
                return bit((tableau.live & mine & its) != 0L);
        }
    }

    public int shows(int label) {
        if (!isLabel(label)) {
            return BAD;
        }
        if (shownCount < 0 || shownCount >= MOST_SHOWN) {
            return FULL;
        }
        shown[shownCount] = label;
        shownCount++;
        return shownCount;
    }

    public int hides() {
        int were = shownCount;
        shownCount = 0;
        return were;
    }

    public int judged(int k) {
        if (k < 0 || k >= shownCount) {
            return BAD;
        }
        ground.takeRow(shown, shownCount, k);
        long so = judgeGround(false);
        return bit((tableau.live & so & tableau.nodesOf(0)) != 0L);
    }

    // ---- images

    public int keep(int image) {
        if (!isImage(image)) {
            return BAD;
        }
        images[image].copy(now);
        imageKept[image] = true;
        return now.states;
    }

    public int back(int image) {
        if (!isImage(image)) {
            return BAD;
        }
        if (!imageKept[image]) {
            return STATE;
        }
        now.copy(images[image]);
        pastCount = 0;
        return now.states;
    }

    public int count(int what) {
        switch (what) {
            case 0:
                return now.states;
            case 1:
                return now.moveCount;
            case 2:
                return now.current.size;
            case 3:
                return now.current.laters;
            case 4:
                return shownCount;
            case 5:
                return typedCount;
            case 6:
                return pastCount;
            default:
                return BAD;
        }
    }

    // ---- inside

    private static boolean isFlag(int value) {
        return value == 0 || value == 1;
    }

    private static boolean isLabel(int label) {
        return label >= 0 && label < LABEL_VALUES;
    }

    private static boolean isSlot(int slot) {
        return slot >= 0 && slot < SLOT_COUNT;
    }

    private static boolean isImage(int image) {
        return image >= 0 && image < IMAGE_COUNT;
    }

    private static int bit(boolean so) {
        return so ? 1 : 0;
    }

    /** The world as it is now may be had back by undo(); the oldest one known gives way. */
    private void remember() {
        if (pastCount >= MOST_UNDONE) {
            World oldest = past[0];
            for (int i = 1; i < MOST_UNDONE; i++) {
                past[i - 1] = past[i];
            }
            past[MOST_UNDONE - 1] = oldest;
            pastCount = MOST_UNDONE - 1;
        }
        past[pastCount].copy(now);
        pastCount++;
    }

    /** The nodes at which the formula is so, once the tableau over the ground stands. */
    private long judgeGround(boolean fair) {
        tableau.open(now.current.laters);
        long so = tableau.tell(now.current);
        tableau.finish(fair);
        return so;
    }

    /** The nodes from which a path of the system goes of which the formula is not so. */
    private long wrongStarts(int fair) {
        ground.takeSystem(now);
        long so = judgeGround(fair == 1);
        return tableau.live & ~so;
    }

    private static boolean isLater(int letter) {
        return letter == 'x' || letter == 'f' || letter == 'g' || letter == 'u';
    }

    /** How many parts stand just inside a part of this letter; -1 if it is no part's letter. */
    private static int innerCount(int letter) {
        switch (letter) {
            case 'a':
            case 'b':
            case 'c':
            case '0':
            case '1':
                return 0;
            case 'n':
            case 'x':
            case 'f':
            case 'g':
                return 1;
            case 'k':
            case 'o':
            case 'u':
                return 2;
            default:
                return -1;
        }
    }

    /** Reads a formula into one that may be spoilt: FINE, or the fault's place. */
    private static int readFormula(int[] text, int length, Formula into) {
        into.empty();
        int due = 1;
        for (int i = 0; i < length && i < text.length; i++) {
            int letter = text[i];
            if (letter == ' ') {
                continue;
            }
            int inner = innerCount(letter);
            if (due == 0 || inner < 0 || into.size >= MOST_PARTS) {
                return i;
            }
            if (isLater(letter) && into.laters >= MOST_LATERS) {
                return i;
            }
            into.add(letter);
            due += inner - 1;
        }
        return due == 0 ? FINE : length;
    }

    /** A formula as the row of its parts' letters, the outer ahead of the inner. */
    private static final class Formula {
        private final int[] letters = new int[MOST_PARTS];
        private int size;
        private int laters;

        Formula() {
            letters[0] = '1';
            size = 1;
        }

        void empty() {
            size = 0;
            laters = 0;
        }

        void add(int letter) {
            if (size < 0 || size >= MOST_PARTS) {
                return;
            }
            letters[size] = letter;
            size++;
            if (isLater(letter)) {
                laters++;
            }
        }

        void copy(Formula other) {
            System.arraycopy(other.letters, 0, letters, 0, MOST_PARTS);
            size = other.size;
            laters = other.laters;
        }

        int letterOf(int p) {
            return p >= 0 && p < size && p < MOST_PARTS ? letters[p] : '0';
        }

        /** How many parts it has with itself. */
        int spanOf(int p) {
            int due = 1;
            int q = p;
            while (due > 0 && q < size) {
                due += innerCount(letterOf(q)) - 1;
                q++;
            }
            return q - p;
        }

        /** The part just around it: the nearest ahead of it that reaches as far as it. */
        int outerOf(int p) {
            for (int q = p - 1; q >= 0; q--) {
                if (q + spanOf(q) > p) {
                    return q;
                }
            }
            return NONE;
        }
    }

    /** All that is undone and kept together: the system, the formula and the slots. */
    private static final class World {
        private int states;
        private int moveCount;
        private final int[] stateLabel = new int[MOST_STATES];
        private final int[] moveActor = new int[MOST_MOVES];
        private final int[] moveFrom = new int[MOST_MOVES];
        private final int[] moveTo = new int[MOST_MOVES];
        private final Formula current = new Formula();
        private final Formula[] slots = new Formula[SLOT_COUNT];

        World() {
            for (int i = 0; i < SLOT_COUNT; i++) {
                slots[i] = new Formula();
            }
        }

        void copy(World other) {
            copySystem(other);
            current.copy(other.current);
            for (int i = 0; i < SLOT_COUNT; i++) {
                slots[i].copy(other.slots[i]);
            }
        }

        void copySystem(World other) {
            states = other.states;
            moveCount = other.moveCount;
            System.arraycopy(other.stateLabel, 0, stateLabel, 0, MOST_STATES);
            System.arraycopy(other.moveActor, 0, moveActor, 0, MOST_MOVES);
            System.arraycopy(other.moveFrom, 0, moveFrom, 0, MOST_MOVES);
            System.arraycopy(other.moveTo, 0, moveTo, 0, MOST_MOVES);
        }

        boolean hasState(int s) {
            return s >= 0 && s < states && s < MOST_STATES;
        }

        boolean hasMove(int m) {
            return m >= 0 && m < moveCount && m < MOST_MOVES;
        }

        void emptySystem() {
            states = 0;
            moveCount = 0;
        }

        void addState(int its) {
            if (states < 0 || states >= MOST_STATES) {
                return;
            }
            stateLabel[states] = its;
            states++;
        }

        void addMove(int actor, int from, int to) {
            if (moveCount < 0 || moveCount >= MOST_MOVES) {
                return;
            }
            moveActor[moveCount] = actor;
            moveFrom[moveCount] = from;
            moveTo[moveCount] = to;
            moveCount++;
        }

        void removeMove(int m) {
            if (!hasMove(m)) {
                return;
            }
            for (int i = m + 1; i < moveCount && i < MOST_MOVES; i++) {
                moveActor[i - 1] = moveActor[i];
                moveFrom[i - 1] = moveFrom[i];
                moveTo[i - 1] = moveTo[i];
            }
            moveCount--;
        }
    }

    /** Reads a text as a system, token by token. */
    private static final class SystemReader {
        private static final int END = -1;
        private static final int NUMBER = -2;
        private static final int WRONG = -3;

        private final int[] text = new int[MOST_TYPED];
        private int length;
        private int place;
        /** The token read last: where it begins, its letter or one of the kinds above, its value. */
        private int start;
        private int kind;
        private int value;

        /** Reads a system into a world that may be spoilt: FINE, or the fault's place. */
        int read(int[] letters, int letterCount, World into) {
            length = Math.max(0, Math.min(letterCount, Math.min(letters.length, MOST_TYPED)));
            System.arraycopy(letters, 0, text, 0, length);
            place = 0;
            into.emptySystem();
            int fault = FINE;
            for (int items = 0; items <= MOST_TYPED && fault == FINE; items++) {
                advance();
                if (kind == END) {
                    return FINE;
                }
                fault = readItem(into);
            }
            return fault;
        }

        private int readItem(World into) {
            if (kind == 's' && into.states < MOST_STATES) {
                return readState(into);
            }
            if (kind == 'm' && into.moveCount < MOST_MOVES) {
                return readMove(into);
            }
            return start;
        }

        private int readState(World into) {
            if (!advanceToNumber(LABEL_VALUES)) {
                return start;
            }
            into.addState(value);
            return readItemEnd();
        }

        private int readMove(World into) {
            if (!advanceToNumber(ACTORS)) {
                return start;
            }
            int actor = value;
            if (!advanceToNumber(into.states)) {
                return start;
            }
            int from = value;
            if (!advanceToNumber(into.states)) {
                return start;
            }
            into.addMove(actor, from, value);
            return readItemEnd();
        }

        private int readItemEnd() {
            advance();
            return kind == ';' ? FINE : start;
        }

        private boolean advanceToNumber(int above) {
            advance();
            return kind == NUMBER && value < above;
        }

        /** The token behind the last one; the end is a token too, at the text's length. */
        private void advance() {
            while (place < length && text[place] == ' ') {
                place++;
            }
            start = place;
            if (place >= length) {
                kind = END;
                return;
            }
            int letter = text[place];
            if (isFigure(letter)) {
                advanceOverNumber();
                return;
            }
            place++;
            kind = letter == 's' || letter == 'm' || letter == ';' ? letter : WRONG;
        }

        private void advanceOverNumber() {
            value = 0;
            while (place < length && isFigure(text[place])) {
                // beyond 99 it is wrong already, and so can't grow out of an int
                if (value <= 99) {
                    value = value * 10 + text[place] - '0';
                }
                place++;
            }
            boolean zeroAhead = text[start] == '0' && place - start > 1;
            kind = zeroAhead || value > 99 ? WRONG : NUMBER;
        }

        private static boolean isFigure(int letter) {
            return letter >= '0' && letter <= '9';
        }
    }

    /**
     * Places with labels and the steps between them. A system's states, a told row that goes round, and all rows
     * of labels at once are such grounds, so that one tableau judges all three.
     */
    private static final class Ground {
        private int places;
        private final int[] placeLabel = new int[MOST_PLACES];
        /** For each kind and place the places (bits) that such steps lead to. */
        private final int[][] targets = new int[KINDS][MOST_PLACES];

        void takeSystem(World world) {
            open(world.states);
            for (int s = 0; s < places && s < MOST_STATES; s++) {
                placeLabel[s] = world.stateLabel[s];
            }
            for (int m = 0; m < world.moveCount && m < MOST_MOVES; m++) {
                join(world.moveActor[m], world.moveFrom[m], world.moveTo[m]);
            }
            for (int s = 0; s < places; s++) {
                if (targets[0][s] == 0 && targets[1][s] == 0) {
                    join(STAYING, s, s);
                }
            }
        }

        void takeRow(int[] row, int length, int again) {
            open(Math.min(length, row.length));
            for (int i = 0; i < places; i++) {
                placeLabel[i] = row[i];
                join(STAYING, i, i + 1 < places ? i + 1 : again);
            }
        }

        void takeAllRows() {
            open(LABEL_VALUES);
            for (int i = 0; i < places; i++) {
                placeLabel[i] = i;
                for (int j = 0; j < places; j++) {
                    join(STAYING, i, j);
                }
            }
        }

        private void open(int count) {
            places = Math.max(0, Math.min(count, MOST_PLACES));
            for (int kind = 0; kind < KINDS; kind++) {
                for (int i = 0; i < MOST_PLACES; i++) {
                    targets[kind][i] = 0;
                }
            }
        }

        private void join(int kind, int from, int to) {
            if (kind < 0 || kind >= KINDS || from < 0 || from >= places || to < 0 || to >= places) {
                return;
            }
            targets[kind][from] |= 1 << to;
        }
    }

    /**
     * The nodes (a place with a guess, for each later part, whether it is so there) and the steps between them that
     * keep to the guesses. Sets of nodes are the bits of a long. A path of the ground is one endless way of nodes
     * whose guesses are true: a way on which each part that waits for something meets it again and again, or no
     * longer waits.
     */
    private static final class Tableau {
        private final Ground ground = new Ground();
        /** How many of a node's lowest bits are guesses. */
        private int guesses;
        private int nodes;
        private long all;
        private long nodesOfPlace0;
        /** The nodes at which a part is so, of the formula told last. */
        private final long[] so = new long[MOST_PARTS];

        /** Later parts: guessed so at, so as long as, fulfilled at (nodes); whether just the next place matters. */
        private int laters;
        private final long[] waiting = new long[MOST_LATERS];
        private final long[] meanwhile = new long[MOST_LATERS];
        private final long[] goal = new long[MOST_LATERS];
        private final boolean[] atNext = new boolean[MOST_LATERS];

        private final long[][] steps = new long[KINDS][MOST_NODES];
        /** What must be met again and again (bits): all of it, what a node meets, what a step of a kind meets. */
        private int due;
        private final int[] met = new int[MOST_NODES];
        private final int[] metByStep = new int[KINDS];

        /** Nodes reached by one step or more; nodes of the same ring (from which it is reached as well). */
        private final long[] reach = new long[MOST_NODES];
        private final long[] ring = new long[MOST_NODES];
        /** Nodes of rings that meet all that is due; nodes from which such a one is reached. */
        private long core;
        private long live;

        /** Begins anew over the ground as it is now. */
        void open(int laterCount) {
            guesses = Math.max(0, Math.min(laterCount, MOST_LATERS));
            nodes = Math.min(ground.places << guesses, MOST_NODES);
            all = firstNodes(nodes);
            nodesOfPlace0 = firstNodes(1 << guesses);
            laters = 0;
        }

        /** A formula is told (one or two of them may be): the nodes at which it is so. */
        long tell(Formula formula) {
            for (int p = Math.min(formula.size, MOST_PARTS) - 1; p >= 0; p--) {
                so[p] = nodesWhere(formula, p);
            }
            return so[0];
        }

        /** All formulas are told: steps, rings and live nodes come to stand. */
        void finish(boolean fair) {
            makeSteps();
            makeDue(fair);
            makeReach();
            makeRings();
            makeLive();
        }

        /** The nodes of a place. */
        long nodesOf(int place) {
            if (place < 0 || place >= ground.places) {
                return 0L;
            }
            return nodesOfPlace0 << (place << guesses);
        }

        long behind(int node) {
            return steps[0][node] | steps[1][node] | steps[STAYING][node];
        }

        private static long firstNodes(int number) {
            return number >= MOST_NODES ? -1L : (1L << number) - 1L;
        }

        private static boolean has(long set, int node) {
            return (set >>> node & 1L) != 0L;
        }

        private long nodesWhere(Formula formula, int p) {
            int letter = formula.letterOf(p);
            int inner = innerCount(letter);
            int firstPart = p + 1;
            int secondPart = inner == 2 ? firstPart + formula.spanOf(firstPart) : firstPart;
            long first = inner >= 1 && firstPart < MOST_PARTS ? so[firstPart] : 0L;
            long second = inner == 2 && secondPart < MOST_PARTS ? so[secondPart] : 0L;
            switch (letter) {
                case 'a':
                    return labelled(0);
                case 'b':
                    return labelled(1);
                case 'c':
                    return labelled(2);
                case '1':
                    return all;
                case 'n':
                    return all & ~first;
                case 'k':
                    return first & second;
                case 'o':
                    return first | second;
                case 'x':
                    return addLater(true, false, all, first);
                case 'f':
                    return addLater(false, false, all, first);
                case 'g':
                    // always E is: not that some time E is not
                    return addLater(false, true, all, all & ~first);
                case 'u':
                    return addLater(false, false, first, second);
                default:
                    return 0L;
            }
        }

        private long labelled(int labelBit) {
            long set = 0L;
            for (int place = 0; place < ground.places && place < MOST_PLACES; place++) {
                if ((ground.placeLabel[place] >> labelBit & 1) != 0) {
                    set |= nodesOf(place);
                }
            }
            return set;
        }

        /** A later part takes the next guess: the nodes at which it is so. */
        private long addLater(boolean next, boolean denied, long asLongAs, long fulfilled) {
            if (laters < 0 || laters >= guesses || laters >= MOST_LATERS) {
                return 0L;
            }
            long guessed = 0L;
            for (int node = 0; node < nodes; node++) {
                if ((node >> laters & 1) != 0) {
                    guessed |= 1L << node;
                }
            }
            atNext[laters] = next;
            waiting[laters] = denied ? all & ~guessed : guessed;
            meanwhile[laters] = asLongAs;
            goal[laters] = fulfilled;
            laters++;
            return guessed;
        }

        private void makeSteps() {
            for (int node = 0; node < nodes && node < MOST_NODES; node++) {
                long allowed = allowedBehind(node);
                for (int kind = 0; kind < KINDS; kind++) {
                    steps[kind][node] = allowed == 0L ? 0L : allowed & nodesAimedAt(kind, node >> guesses);
                }
            }
        }

        private long nodesAimedAt(int kind, int place) {
            long set = 0L;
            if (place < 0 || place >= MOST_PLACES) {
                return set;
            }
            int places = ground.targets[kind][place];
            for (int to = 0; places != 0 && to < ground.places; to++) {
                if ((places >> to & 1) != 0) {
                    set |= nodesOf(to);
                }
            }
            return set;
        }

        /** The nodes whose guesses make this node's guesses right, if one of them comes next. */
        private long allowedBehind(int node) {
            long allowed = all;
            for (int j = 0; j < laters && j < MOST_LATERS; j++) {
                boolean waits = has(waiting[j], node);
                if (atNext[j]) {
                    allowed &= waits ? goal[j] : ~goal[j];
                } else if (has(goal[j], node)) {
                    allowed &= waits ? all : 0L;
                } else if (has(meanwhile[j], node)) {
                    allowed &= waits ? waiting[j] : ~waiting[j];
                } else {
                    allowed &= waits ? 0L : all;
                }
            }
            return allowed;
        }

        private void makeDue(boolean fair) {
            for (int node = 0; node < nodes && node < MOST_NODES; node++) {
                met[node] = 0;
            }
            for (int kind = 0; kind < KINDS; kind++) {
                metByStep[kind] = 0;
            }
            due = 0;
            for (int j = 0; j < laters && j < MOST_LATERS; j++) {
                if (!atNext[j]) {
                    addDue(~waiting[j] | goal[j]);
                }
            }
            for (int actor = 0; fair && actor < ACTORS; actor++) {
                metByStep[actor] = addDue(nodesWithoutMoves(actor));
            }
        }

        /** One thing more is due, and these nodes meet it: its bit. */
        private int addDue(long meeting) {
            int itsBit = due + 1;
            for (int node = 0; node < nodes && node < MOST_NODES; node++) {
                if (has(meeting, node)) {
                    met[node] |= itsBit;
                }
            }
            due |= itsBit;
            return itsBit;
        }

        private long nodesWithoutMoves(int actor) {
            long set = 0L;
            for (int place = 0; place < ground.places && place < MOST_PLACES; place++) {
                if (ground.targets[actor][place] == 0) {
                    set |= nodesOf(place);
                }
            }
            return set;
        }

        private void makeReach() {
            for (int node = 0; node < nodes && node < MOST_NODES; node++) {
                reach[node] = behind(node);
            }
            for (int by = 0; by < nodes && by < MOST_NODES; by++) {
                long further = reach[by];
                long byAlone = 1L << by;
                for (int node = 0; further != 0L && node < nodes && node < MOST_NODES; node++) {
                    if ((reach[node] & byAlone) != 0L) {
                        reach[node] |= further;
                    }
                }
            }
        }

        private void makeRings() {
            core = 0L;
            long known = 0L;
            for (int node = 0; node < nodes && node < MOST_NODES; node++) {
                if (!has(reach[node], node) || has(known, node)) {
                    continue;
                }
                long its = ringOf(node);
                known |= its;
                if (metIn(its) == due) {
                    core |= its;
                }
            }
        }

        /** The ring of a node that reaches itself. */
        private long ringOf(int node) {
            long its = 0L;
            for (int other = node; other < nodes && other < MOST_NODES; other++) {
                if (has(reach[node], other) && has(reach[other], node)) {
                    its |= 1L << other;
                }
            }
            for (int other = node; other < nodes && other < MOST_NODES; other++) {
                if (has(its, other)) {
                    ring[other] = its;
                }
            }
            return its;
        }

        /** What is met by going through all of a ring. */
        private int metIn(long its) {
            int sum = 0;
            for (int node = 0; node < nodes && node < MOST_NODES; node++) {
                if (!has(its, node)) {
                    continue;
                }
                sum |= met[node];
                for (int kind = 0; kind < KINDS; kind++) {
                    if ((steps[kind][node] & its) != 0L) {
                        sum |= metByStep[kind];
                    }
                }
            }
            return sum;
        }

        private void makeLive() {
            live = core;
            for (int node = 0; core != 0L && node < nodes && node < MOST_NODES; node++) {
                if ((reach[node] & core) != 0L) {
                    live |= 1L << node;
                }
            }
        }
    }

    /** The shortest lasso: a shortest way to a node, and a shortest loop back to it that meets all that is due. */
    private static final class LoopSearch {
        /** The lasso found: its states (0: none was found), where it is entered again, and the place there. */
        private int length;
        private int entry;
        private int entryPlace;

        private final Tableau tableau = new Tableau();
        /** For each set of what was met: the nodes come to so far, just now, and next. */
        private final long[] seen = new long[MOST_MET];
        private final long[] front = new long[MOST_MET];
        private final long[] next = new long[MOST_MET];

        /** Finds the lasso from one of these nodes. */
        void run(long starts) {
            length = 0;
            long layer = starts;
            long reached = starts;
            // ways to the entry grow by one a round, so the first lasso of a length has the least entry
            for (int way = 0; way < MOST_NODES && layer != 0L && isShorter(way + 1); way++) {
                tryEntries(way, layer & tableau.core);
                layer = nextLayer(layer) & ~reached;
                reached |= layer;
            }
        }

        private boolean isShorter(int states) {
            return length == 0 || states < length;
        }

        /** Nodes come in the order of their places, so the first lasso found has the least place. */
        private void tryEntries(int way, long entries) {
            for (int node = 0; node < tableau.nodes && node < MOST_NODES; node++) {
                if (!Tableau.has(entries, node)) {
                    continue;
                }
                int most = length == 0 ? MOST_NODES * MOST_MET : length - way - 1;
                int loop = loopThrough(node, most);
                if (loop > 0) {
                    length = way + loop;
                    entry = way;
                    entryPlace = node >> tableau.guesses;
                }
            }
        }

        private long nextLayer(long layer) {
            long set = 0L;
            for (int node = 0; node < tableau.nodes && node < MOST_NODES; node++) {
                if (Tableau.has(layer, node)) {
                    set |= tableau.behind(node);
                }
            }
            return set;
        }

        /** The steps of the shortest loop through a node that meets all; 0 if there is none of so few steps. */
        private int loopThrough(int node, int most) {
            int due = Math.min(tableau.due, MOST_MET - 1);
            for (int met = 0; met <= due; met++) {
                seen[met] = 0L;
                front[met] = 0L;
            }
            front[0] = 1L << node;
            for (int count = 1; count <= most; count++) {
                goOneStep(tableau.ring[node], due);
                if (Tableau.has(next[due], node)) {
                    return count;
                }
                if (!takeNext(due)) {
                    return 0;
                }
            }
            return 0;
        }

        private void goOneStep(long within, int due) {
            for (int met = 0; met <= due; met++) {
                next[met] = 0L;
            }
            for (int met = 0; met <= due; met++) {
                long from = front[met];
                for (int node = 0; from != 0L && node < tableau.nodes && node < MOST_NODES; node++) {
                    if (Tableau.has(from, node)) {
                        leave(node, met | tableau.met[node], within, due);
                    }
                }
            }
        }

        private void leave(int node, int met, long within, int due) {
            for (int kind = 0; kind < KINDS; kind++) {
                int nowMet = (met | tableau.metByStep[kind]) & due;
                next[nowMet] |= tableau.steps[kind][node] & within;
            }
        }

        /** What is new becomes the front: whether there is anything. */
        private boolean takeNext(int due) {
            boolean any = false;
            for (int met = 0; met <= due; met++) {
                front[met] = next[met] & ~seen[met];
                seen[met] |= front[met];
                any = any || front[met] != 0L;
            }
            return any;
        }
    }
}
