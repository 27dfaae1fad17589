/** Columns of cells in four mappings, as ../shared/DOC.md promises; words in capitals are that document's terms. */
public final class MappingMoves {
    public static final int BAD = -1, FULL = -2, GONE = -11, OUT = -12, OTHER = -13, STORE = -14, CAST = -15, BELOW = -16;

    private static final int MAPPINGS = 4, FIELDS = 6, PLACES = 24, KINDS = 10, MOST_CELLS = 40;
    private static final int BYTES = 0, SHORTS = 1, CHARS = 2, INTS = 3, FLOATS = 5, DOUBLES = 6;
    private static final int NUMBER_KINDS = 7, RIGID_SHELF = 8, SOFT_SHELF = 9;
    private static final int MOST_PARTS = 40, MOST_WEIGHT = 1000, MOST_FAULT = 9;
    private static final int PLAIN = 0, RIGID = 1, SOFT = 2;
    private static final int EMPTY = -1, NO_FAULT = -1;
    private static final int MOST_RULE = 262143, NO_FIELD = 6, SAME_FIELD = 7;
    private static final int CANNOT_TURN = -20, RAISED = -30;
    /** No ANSWER for what is in the way is 0, so 0 can say that nothing is. */
    private static final int NOTHING = 0;

    private final Column[] columns;
    /** Where move() builds what MAPPING b gets, so that it reads MAPPING a as it was. */
    private final Column[] spare;
    private final Part[] parts;
    private int partCount;
    private int copiedCells;

    public MappingMoves() {
        columns = new Column[PLACES];
        for (int place = 0; place < PLACES; place++) {
            columns[place] = new Column();
        }
        spare = new Column[FIELDS];
        for (int field = 0; field < FIELDS; field++) {
            spare[field] = new Column();
        }
        parts = new Part[MOST_PARTS];
        partCount = 0;
        copiedCells = 0;
    }

    // ---- columns

    public int make(int place, int kind, int n) {
        if (!isPlace(place) || kind < 0 || kind >= KINDS || n > MOST_CELLS) {
            return BAD;
        }
        if (n < 0) {
            return BELOW;
        }
        columns[place].begin(kind, n);
        return n;
    }

    public int let(int place) {
        int cells = length(place);
        if (cells >= 0) {
            columns[place].letGo();
        }
        return cells;
    }

    public int drop(int place) {
        if (!isPlace(place)) {
            return BAD;
        }
        int had = columns[place].isThere() ? 1 : 0;
        columns[place].vanish();
        return had;
    }

    public int kind(int place) {
        if (!isPlace(place)) {
            return BAD;
        }
        return columns[place].isThere() ? columns[place].kind : GONE;
    }

    public int length(int place) {
        if (!isPlace(place)) {
            return BAD;
        }
        return columns[place].hasCells() ? columns[place].size : GONE;
    }

    // ---- numbers

    public int put(int place, int i, long v) {
        int way = inWayOfCell(place, i, false);
        if (way != NOTHING) {
            return way;
        }
        columns[place].store(i, v);
        return 1;
    }

    public long get(int place, int i) throws NullPointerException, ArrayIndexOutOfBoundsException {
        if (!isPlace(place)) {
            throw new ArrayIndexOutOfBoundsException("no such place");
        }
        Column column = columns[place];
        if (!column.hasCells()) {
            throw new NullPointerException("no cells");
        }
        if (!column.hasCell(i)) {
            throw new ArrayIndexOutOfBoundsException("no such cell");
        }
        if (column.isShelf() && column.wholes[i] == EMPTY) {
            throw new NullPointerException("empty cell");
        }
        return column.tell(i);
    }

    public int sum(int place, int kind) {
        if (!isPlace(place) || !isNumberKind(kind)) {
            return BAD;
        }
        Column column = columns[place];
        if (!column.isThere()) {
            return GONE;
        }
        if (column.kind != kind) {
            return CAST;
        }
        return column.hasCells() ? column.addUp() : GONE;
    }

    public int turn(int place, int kind) {
        if (!isNumberKind(kind)) {
            return BAD;
        }
        int way = inWayOfCells(place, false);
        if (way != NOTHING) {
            return way;
        }
        Column column = columns[place];
        int stuck = column.firstUnfit(kind);
        if (stuck < column.size) {
            return CANNOT_TURN - stuck;
        }
        column.become(kind);
        return 1;
    }

    // ---- parts

    public int part(int sort, int w) {
        if (sort < PLAIN || sort > SOFT || w < 0 || w > MOST_WEIGHT) {
            return BAD;
        }
        if (partCount >= MOST_PARTS) {
            return FULL;
        }
        parts[partCount] = new Part(sort, w);
        partCount++;
        return partCount - 1;
    }

    public int lay(int place, int i, int part) {
        Part laid = partNumbered(part);
        if (laid == null && part != EMPTY) {
            return BAD;
        }
        int way = inWayOfCell(place, i, true);
        if (way != NOTHING) {
            return way;
        }
        if (laid != null) {
            if (!laid.mayLieOn(columns[place].kind)) {
                return STORE;
            }
            laid.timesLaid++;
        }
        columns[place].wholes[i] = part;
        return 1;
    }

    public int weigh(int place, int i) {
        int way = inWayOfCell(place, i, true);
        if (way != NOTHING) {
            return way;
        }
        Part part = partNumbered(columns[place].wholes[i]);
        return part == null ? GONE : part.weighed();
    }

    public int rigid(int place, int i) {
        int way = inWayOfCell(place, i, true);
        if (way != NOTHING) {
            return way;
        }
        Part part = partNumbered(columns[place].wholes[i]);
        if (part == null) {
            return GONE;
        }
        return part.sort == RIGID ? part.timesLaid : CAST;
    }

    public int fault(int part, int code) {
        Part faulty = partNumbered(part);
        if (faulty == null || code < NO_FAULT || code > MOST_FAULT) {
            return BAD;
        }
        faulty.faultCode = code;
        return 1;
    }

    public int raise(int place, int i) {
        int way = inWayOfCell(place, i, true);
        if (way != NOTHING) {
            return way;
        }
        Part part = partNumbered(columns[place].wholes[i]);
        if (part == null || part.faultCode == NO_FAULT) {
            return GONE;
        }
        return RAISED - part.faultCode;
    }

    // ---- from one to another

    public int copy(int from, int at, int into, int to, int n) {
        if (!isPlace(from) || !isPlace(into)) {
            return BAD;
        }
        copiedCells = 0;
        Column source = columns[from];
        Column target = columns[into];
        if (!source.hasCells() || !target.hasCells()) {
            return GONE;
        }
        boolean unlike = source.kind != target.kind;
        if (unlike && !(source.isShelf() && target.isShelf())) {
            return OTHER;
        }
        if (!source.hasRun(at, n) || !target.hasRun(to, n)) {
            return OUT;
        }
        copiedCells = unlike ? countThatMayLieOn(target.kind, source, at, n) : n;
        target.copyRun(source, at, to, copiedCells);
        return copiedCells < n ? STORE : n;
    }

    public int copied() {
        return copiedCells;
    }

    public int move(int a, int b, int rule) {
        if (!isMapping(a) || !isMapping(b) || rule < 0 || rule > MOST_RULE) {
            return BAD;
        }
        int digits = rule;
        for (int field = 0; field < FIELDS; field++) {
            int digit = digits % 8;
            digits = digits / 8;
            if (digit == NO_FIELD) {
                spare[field].vanish();
            } else if (digit == SAME_FIELD) {
                spare[field].becomeLike(columns[b * FIELDS + field]);
            } else {
                spare[field].becomeLike(columns[a * FIELDS + digit]);
            }
        }
        return putSparesInto(b);
    }

    public int like(int a, int b) {
        if (!isPlace(a) || !isPlace(b)) {
            return BAD;
        }
        if (!columns[a].hasCells() || !columns[b].hasCells()) {
            return GONE;
        }
        return columns[a].hasSameCells(columns[b]) ? 1 : 0;
    }

    public int told(int what) {
        switch (what) {
            case 0:
                return countColumns();
            case 1:
                return countCells();
            case 2:
                return partCount;
            case 3:
                return countFilledCells();
            default:
                return BAD;
        }
    }

    private static boolean isPlace(int place) {
        return place >= 0 && place < PLACES;
    }

    private static boolean isMapping(int mapping) {
        return mapping >= 0 && mapping < MAPPINGS;
    }

    private static boolean isNumberKind(int kind) {
        return kind >= 0 && kind < NUMBER_KINDS;
    }

    private static boolean isRealKind(int kind) {
        return kind == FLOATS || kind == DOUBLES;
    }

    /** What is in the way of the CELLS of a SHELF, or of NUMBERS, at a PLACE. */
    private int inWayOfCells(int place, boolean shelfWanted) {
        if (!isPlace(place)) {
            return BAD;
        }
        Column column = columns[place];
        if (!column.isThere()) {
            return GONE;
        }
        if (column.isShelf() != shelfWanted) {
            return OTHER;
        }
        return column.hasCells() ? NOTHING : GONE;
    }

    private int inWayOfCell(int place, int i, boolean shelfWanted) {
        int way = inWayOfCells(place, shelfWanted);
        if (way != NOTHING) {
            return way;
        }
        return columns[place].hasCell(i) ? NOTHING : OUT;
    }

    /** The PART of that number, null if there is none such (EMPTY is no PART's number). */
    private Part partNumbered(long number) {
        return number >= 0 && number < partCount ? parts[(int) number] : null;
    }

    /** How many of n CELLS of a SHELF, from one on, come ahead of the first PART that another KIND of SHELF is not for. */
    private int countThatMayLieOn(int shelfKind, Column source, int at, int n) {
        for (int ahead = 0; ahead < n; ahead++) {
            Part part = partNumbered(source.wholes[at + ahead]);
            if (part != null && !part.mayLieOn(shelfKind)) {
                return ahead;
            }
        }
        return n;
    }

    private int putSparesInto(int mapping) {
        int there = 0;
        for (int field = 0; field < FIELDS; field++) {
            int place = mapping * FIELDS + field;
            // Exchanged, not handed over: the old one is the next move()'s spare.
            Column old = columns[place];
            columns[place] = spare[field];
            spare[field] = old;
            if (columns[place].isThere()) {
                there++;
            }
        }
        return there;
    }

    private int countColumns() {
        int there = 0;
        for (int place = 0; place < PLACES; place++) {
            if (columns[place].isThere()) {
                there++;
            }
        }
        return there;
    }

    private int countCells() {
        int cells = 0;
        for (int place = 0; place < PLACES; place++) {
            if (columns[place].hasCells()) {
                cells += columns[place].size;
            }
        }
        return cells;
    }

    private int countFilledCells() {
        int filled = 0;
        for (int place = 0; place < PLACES; place++) {
            if (columns[place].isShelf()) {
                filled += columns[place].countFilled();
            }
        }
        return filled;
    }

    /** What a PLACE has; one is made for each PLACE ahead of all calls, and used again for every COLUMN there. */
    private static final class Column {
        private static final int NO_KIND = -1, NO_CELLS = -1;
        private static final long[] LEAST = {-128L, -32768L, 0L, -2147483648L, -9223372036854775808L};
        private static final long[] GREATEST = {127L, 32767L, 65535L, 2147483647L, 9223372036854775807L};

        private int kind;
        /** NO_CELLS if LET GO, and if there is no COLUMN. */
        private int size;
        /** The CELLS of KINDS 0 .. 4; of SHELVES the PARTS' numbers, or EMPTY. */
        private final long[] wholes;
        /** The CELLS of KINDS 5 and 6: every float is a double, too. */
        private final double[] reals;

        Column() {
            kind = NO_KIND;
            size = NO_CELLS;
            wholes = new long[MOST_CELLS];
            reals = new double[MOST_CELLS];
        }

        void begin(int newKind, int n) {
            kind = newKind;
            size = n;
            long first = isShelf() ? EMPTY : 0;
            for (int i = 0; i < size; i++) {
                wholes[i] = first;
                reals[i] = 0.0;
            }
        }

        void letGo() {
            size = NO_CELLS;
        }

        void vanish() {
            kind = NO_KIND;
            size = NO_CELLS;
        }

        boolean isThere() {
            return kind != NO_KIND;
        }

        boolean hasCells() {
            return size != NO_CELLS;
        }

        boolean isShelf() {
            return kind >= NUMBER_KINDS;
        }

        boolean hasCell(int i) {
            return i >= 0 && i < size;
        }

        boolean hasRun(int first, int n) {
            // Written as a difference, since first + n may run over.
            return n >= 0 && first >= 0 && n <= size && first <= size - n;
        }

        void store(int i, long v) {
            switch (kind) {
                case BYTES:
                    wholes[i] = (byte) v;
                    break;
                case SHORTS:
                    wholes[i] = (short) v;
                    break;
                case CHARS:
                    wholes[i] = (char) v;
                    break;
                case INTS:
                    wholes[i] = (int) v;
                    break;
                case FLOATS:
                    reals[i] = (float) v / 8.0f;
                    break;
                case DOUBLES:
                    reals[i] = (double) v / 8.0;
                    break;
                default:
                    wholes[i] = v;
                    break;
            }
        }

        long tell(int i) {
            if (kind == FLOATS) {
                return (long) ((float) reals[i] * 8.0f);
            }
            return kind == DOUBLES ? (long) (reals[i] * 8.0) : wholes[i];
        }

        int addUp() {
            int total = 0;
            for (int i = 0; i < size; i++) {
                total += (int) tell(i);
            }
            return total;
        }

        /** The first CELL that another KIND of NUMBERS can't tell just as it is; size if all can be told. */
        int firstUnfit(int newKind) {
            for (int i = 0; i < size; i++) {
                boolean fits = isRealKind(kind) ? realFits(reals[i], newKind) : wholeFits(wholes[i], newKind);
                if (!fits) {
                    return i;
                }
            }
            return size;
        }

        private static boolean wholeFits(long v, int newKind) {
            if (!isRealKind(newKind)) {
                return isWithin(v, newKind);
            }
            double nearest = newKind == FLOATS ? (double) (float) v : (double) v;
            // 2 to the 63rd is no long, but a cast would make the greatest long of it.
            return nearest < 9223372036854775808.0 && (long) nearest == v;
        }

        private static boolean realFits(double x, int newKind) {
            if (newKind == DOUBLES) {
                return true;
            }
            if (newKind == FLOATS) {
                return (double) (float) x == x;
            }
            if (x < -9223372036854775808.0 || x >= 9223372036854775808.0) {
                return false;
            }
            long whole = (long) x;
            return (double) whole == x && isWithin(whole, newKind);
        }

        private static boolean isWithin(long v, int wholeKind) {
            return wholeKind >= 0 && wholeKind < LEAST.length && wholeKind < GREATEST.length
                    && v >= LEAST[wholeKind] && v <= GREATEST[wholeKind];
        }

        /** Only behind firstUnfit(): the casts here lose nothing then. */
        void become(int newKind) {
            for (int i = 0; i < size; i++) {
                if (isRealKind(newKind) && !isRealKind(kind)) {
                    reals[i] = (double) wholes[i];
                } else if (!isRealKind(newKind) && isRealKind(kind)) {
                    wholes[i] = (long) reals[i];
                }
            }
            kind = newKind;
        }

        void becomeLike(Column other) {
            kind = other.kind;
            size = other.size;
            if (size > 0) {
                copyRun(other, 0, 0, size);
            }
        }

        /** Only behind hasRun() of both; a COLUMN may be its own source, since arraycopy copies as if laid aside. */
        void copyRun(Column source, int at, int to, int n) {
            if (isRealKind(kind)) {
                System.arraycopy(source.reals, at, reals, to, n);
            } else {
                System.arraycopy(source.wholes, at, wholes, to, n);
            }
        }

        boolean hasSameCells(Column other) {
            if (kind != other.kind || size != other.size) {
                return false;
            }
            for (int i = 0; i < size; i++) {
                boolean same = isRealKind(kind) ? reals[i] == other.reals[i] : wholes[i] == other.wholes[i];
                if (!same) {
                    return false;
                }
            }
            return true;
        }

        int countFilled() {
            int filled = 0;
            for (int i = 0; i < size; i++) {
                if (wholes[i] != EMPTY) {
                    filled++;
                }
            }
            return filled;
        }
    }

    private static final class Part {
        private final int sort;
        private final int weight;
        private int timesLaid;
        private int faultCode;

        Part(int sort, int weight) {
            this.sort = sort;
            this.weight = weight;
            timesLaid = 0;
            faultCode = NO_FAULT;
        }

        int weighed() {
            switch (sort) {
                case RIGID:
                    return weight + 3 * timesLaid;
                case SOFT:
                    return weight / 2 + (timesLaid + 1) / 2;
                default:
                    return weight;
            }
        }

        boolean mayLieOn(int shelfKind) {
            switch (shelfKind) {
                case RIGID_SHELF:
                    return sort == RIGID;
                case SOFT_SHELF:
                    return sort == SOFT;
                default:
                    return true;
            }
        }
    }
}
