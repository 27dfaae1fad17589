/** Promises 7 to 10: put, get, sum, turn. */
public final class NumbersTest {
    private static final int BAD = -1, GONE = -11, OUT = -12, OTHER = -13, CAST = -15;
    private static final int[] NO_PLACES = {-1, 24, Integer.MIN_VALUE, Integer.MAX_VALUE};
    private static final long MOST = Long.MAX_VALUE, LEAST = Long.MIN_VALUE;

    public static void main(String[] args) {
        putAndGetOfWholes();
        putAndGetOfReals();
        inTheWayOfPut();
        inTheWayOfGet();
        sum();
        inTheWayOfSum();
        turnOfWholes();
        turnToReals();
        turnFromReals();
        tellsBeyondLongs();
        inTheWayOfTurn();
        Due.end();
    }

    /** What a new COLUMN's CELL of a KIND tells once it was put. */
    private static long after(int kind, long v) {
        MappingMoves x = new MappingMoves();
        x.make(7, kind, 3);
        Due.is("put", x.put(7, 1, v), 1);
        Due.is("the cell ahead", Due.get(x, 7, 0), 0);
        Due.is("the cell behind", Due.get(x, 7, 2), 0);
        return Due.get(x, 7, 1);
    }

    private static void putAndGetOfWholes() {
        Due.is("byte", after(0, 127), 127);
        Due.is("byte", after(0, 128), -128);
        Due.is("byte", after(0, -129), 127);
        Due.is("byte", after(0, 0x1234567890L), (byte) 0x90);
        Due.is("short", after(1, 32768), -32768);
        Due.is("short", after(1, 65535), -1);
        Due.is("char", after(2, -1), 65535);
        Due.is("char", after(2, 65536), 0);
        Due.is("int", after(3, 1L << 31), Integer.MIN_VALUE);
        Due.is("int", after(3, MOST), -1);
        Due.is("long", after(4, MOST), MOST);
        Due.is("long", after(4, LEAST), LEAST);
    }

    private static void putAndGetOfReals() {
        for (int kind = 5; kind < 7; kind++) {
            Due.is("7 eighths", after(kind, 7), 7);
            Due.is("-7 eighths", after(kind, -7), -7);
            Due.is("the most", after(kind, MOST), MOST);
            Due.is("the least", after(kind, LEAST), LEAST);
        }
        Due.is("float: ties go to even", after(5, 16777217), 16777216);
        Due.is("float: ties go to even", after(5, 16777219), 16777220);
        Due.is("double holds it", after(6, 16777217), 16777217);
        Due.is("double: ties go to even", after(6, (1L << 53) + 1), 1L << 53);
        Due.is("float is got at one step, not by way of a double", after(5, (1L << 60) + (1L << 36) + 1), (1L << 60) + (1L << 37));
    }

    private static void inTheWayOfPut() {
        MappingMoves x = new MappingMoves();
        for (int place : NO_PLACES) {
            Due.is("put", x.put(place, 0, 1), BAD);
        }
        Due.is("no column", x.put(0, -1, 1), GONE);
        x.make(0, 9, 2);
        Due.is("a shelf", x.put(0, 5, 1), OTHER);
        x.let(0);
        Due.is("a shelf let go", x.put(0, 0, 1), OTHER);
        x.make(0, 1, 2);
        for (int i : new int[] {-1, 2, Integer.MIN_VALUE, Integer.MAX_VALUE}) {
            Due.is("no such cell", x.put(0, i, 1), OUT);
        }
        x.let(0);
        Due.is("let go", x.put(0, 5, 1), GONE);
    }

    private static void inTheWayOfGet() {
        MappingMoves x = new MappingMoves();
        for (int place : NO_PLACES) {
            Due.is("no such place", Due.get(x, place, -1), Due.OUT_OF_BOUNDS);
        }
        Due.is("no column", Due.get(x, 1, -1), Due.NULL_POINTER);
        x.part(0, 1);
        for (int kind = 0; kind < 10; kind++) {
            x.make(1, kind, 2);
            for (int i : new int[] {-1, 2, 40, Integer.MIN_VALUE, Integer.MAX_VALUE}) {
                Due.is("no such cell", Due.get(x, 1, i), Due.OUT_OF_BOUNDS);
            }
            x.let(1);
            Due.is("let go", Due.get(x, 1, 7), Due.NULL_POINTER);
        }
        x.make(1, 7, 2);
        x.lay(1, 1, 0);
        Due.is("an empty cell", Due.get(x, 1, 0), Due.NULL_POINTER);
        Due.is("a part's number", Due.get(x, 1, 1), 0);
        x.make(1, 3, 1);
        x.put(1, 0, -1);
        Due.is("-1 is a number there", Due.get(x, 1, 0), -1);
    }

    private static void sum() {
        MappingMoves x = new MappingMoves();
        x.make(0, 4, 3);
        Due.is("of zeros", x.sum(0, 4), 0);
        x.put(0, 0, (1L << 40) + 5);
        x.put(0, 1, Integer.MAX_VALUE);
        x.put(0, 2, 1);
        Due.is("what runs over is lost", x.sum(0, 4), Integer.MIN_VALUE + 5);
        x.make(1, 0, 40);
        for (int i = 0; i < 40; i++) {
            x.put(1, i, 127);
        }
        Due.is("bytes are added as ints", x.sum(1, 0), 40 * 127);
        x.make(2, 6, 3);
        x.put(2, 0, 3);
        x.put(2, 1, 9);
        x.put(2, 2, -1);
        Due.is("reals as they tell", x.sum(2, 6), 11);
        x.put(2, 2, MOST);
        Due.is("the greatest long's lowest bits", x.sum(2, 6), 11);
        x.make(3, 2, 0);
        Due.is("of none", x.sum(3, 2), 0);
    }

    private static void inTheWayOfSum() {
        MappingMoves x = new MappingMoves();
        for (int place : NO_PLACES) {
            Due.is("no such place", x.sum(place, 0), BAD);
        }
        Due.is("no column", x.sum(0, 0), GONE);
        for (int kind : new int[] {-1, 7, 8, 9, 10, Integer.MIN_VALUE, Integer.MAX_VALUE}) {
            Due.is("no such kind", x.sum(0, kind), BAD);
        }
        x.make(0, 7, 2);
        Due.is("a shelf's kind is none to add", x.sum(0, 7), BAD);
        Due.is("a shelf", x.sum(0, 3), CAST);
        x.make(0, 3, 2);
        Due.is("another kind", x.sum(0, 4), CAST);
        x.let(0);
        Due.is("another kind, let go", x.sum(0, 4), CAST);
        Due.is("let go", x.sum(0, 3), GONE);
    }

    /** What turn answers for a CELL 2 of a KIND, told as v, behind two CELLS of 0. */
    private static int turned(int kind, long v, int newKind) {
        MappingMoves x = new MappingMoves();
        x.make(12, kind, 4);
        x.put(12, 2, v);
        long told = Due.get(x, 12, 2);
        int answer = x.turn(12, newKind);
        Due.is("its kind", x.kind(12), answer == 1 ? newKind : kind);
        Due.is("its length", x.length(12), 4);
        Due.is("its cell 0", Due.get(x, 12, 0), 0);
        if (answer != 1) {
            Due.is("what can't turn stays", Due.get(x, 12, 2), told);
        }
        return answer;
    }

    private static void turnOfWholes() {
        long[] least = {-128, -32768, 0, Integer.MIN_VALUE, LEAST};
        long[] most = {127, 32767, 65535, Integer.MAX_VALUE, MOST};
        for (int kind = 0; kind < 4; kind++) {
            Due.is("the least of " + kind, turned(4, least[kind], kind), 1);
            Due.is("less than the least of " + kind, turned(4, least[kind] - 1, kind), -22);
            Due.is("the most of " + kind, turned(4, most[kind], kind), 1);
            Due.is("more than the most of " + kind, turned(4, most[kind] + 1, kind), -22);
            Due.is("to longs", turned(kind, most[kind], 4), 1);
        }
        for (int kind = 0; kind < 7; kind++) {
            Due.is("its own kind", turned(kind, -1, kind), 1);
            Due.is("its own kind, the most", turned(kind, MOST, kind), 1);
        }
        MappingMoves x = new MappingMoves();
        x.make(0, 3, 40);
        x.put(0, 39, 200);
        Due.is("the last can't", x.turn(0, 0), -59);
        x.put(0, 5, 128);
        Due.is("the first that can't", x.turn(0, 0), -25);
        x.put(0, 0, -129);
        Due.is("cell 0 can't", x.turn(0, 0), -20);
        x.put(0, 0, 0);
        Due.is("chars can", x.turn(0, 2), 1);
        Due.is("just as it was", Due.get(x, 0, 39), 200);
        Due.is("40 cells to reals", x.turn(0, 6), 1);
        Due.is("40 cells to wholes", x.turn(0, 1), 1);
        Due.is("just as it was", Due.get(x, 0, 39), 200);
        x.make(0, 7, 0);
        x.make(0, 4, 0);
        Due.is("no cells", x.turn(0, 0), 1);
        Due.is("no cells", x.kind(0), 0);
    }

    private static void turnToReals() {
        Due.is("int to float", turned(3, 16777216, 5), 1);
        Due.is("int to float", turned(3, 16777217, 5), -22);
        Due.is("int to float", turned(3, Integer.MAX_VALUE, 5), -22);
        Due.is("int to float", turned(3, Integer.MIN_VALUE, 5), 1);
        Due.is("int to double", turned(3, Integer.MAX_VALUE, 6), 1);
        Due.is("long to double", turned(4, 1L << 53, 6), 1);
        Due.is("long to double", turned(4, (1L << 53) + 1, 6), -22);
        Due.is("long to double", turned(4, LEAST, 6), 1);
        Due.is("long to float", turned(4, LEAST, 5), 1);
        Due.is("the greatest long is no double", turned(4, MOST, 6), -22);
        Due.is("the greatest long is no float", turned(4, MOST, 5), -22);
        Due.is("below it", turned(4, MOST - 1023, 6), 1);
        Due.is("below it", turned(4, MOST - 511, 6), -22);
        for (int kind = 0; kind < 3; kind++) {
            Due.is("small to float", turned(kind, -1, 5), 1);
            Due.is("small to double", turned(kind, -1, 6), 1);
        }
    }

    private static void turnFromReals() {
        for (int kind = 5; kind < 7; kind++) {
            for (int whole = 0; whole < 5; whole++) {
                Due.is("1 eighth", turned(kind, 1, whole), -22);
                Due.is("-1 eighth", turned(kind, -1, whole), -22);
                Due.is("15 eighths", turned(kind, 15, whole), -22);
                Due.is("16 eighths", turned(kind, 16, whole), 1);
                Due.is("-8 eighths", turned(kind, -8, whole), whole == 2 ? -22 : 1);
            }
            Due.is("127", turned(kind, 127 * 8, 0), 1);
            Due.is("128", turned(kind, 128 * 8, 0), -22);
            Due.is("-128", turned(kind, -128 * 8, 0), 1);
            Due.is("-129", turned(kind, -129 * 8, 0), -22);
            Due.is("65535", turned(kind, 65535 * 8, 2), 1);
            Due.is("65536", turned(kind, 65536 * 8, 2), -22);
            Due.is("2 to the 31st", turned(kind, 1L << 34, 3), -22);
            Due.is("2 to the 31st, less", turned(kind, -(1L << 34), 3), 1);
            Due.is("far", turned(kind, MOST, 4), 1);
        }
        Due.is("double to float", turned(6, 16777216, 5), 1);
        Due.is("double to float", turned(6, 16777217, 5), -22);
        Due.is("float to double", turned(5, 16777219, 6), 1);
        MappingMoves x = new MappingMoves();
        x.make(0, 6, 2);
        x.put(0, 0, -24);
        x.turn(0, 1);
        Due.is("v / 8 counts", Due.get(x, 0, 0), -3);
        x.turn(0, 5);
        Due.is("told times 8", Due.get(x, 0, 0), -24);
        x.put(0, 1, 5);
        x.turn(0, 6);
        Due.is("5 eighths stay", Due.get(x, 0, 1), 5);
    }

    private static void tellsBeyondLongs() {
        for (int kind = 5; kind < 7; kind++) {
            MappingMoves x = new MappingMoves();
            x.make(0, 4, 3);
            x.put(0, 0, 1L << 62);
            x.put(0, 1, LEAST);
            Due.is("turn", x.turn(0, kind), 1);
            Due.is("the greatest", Due.get(x, 0, 0), MOST);
            Due.is("the least", Due.get(x, 0, 1), LEAST);
            Due.is("sum", x.sum(0, kind), -1);
            x.make(1, 4, 3);
            x.put(1, 0, 1L << 61);
            x.put(1, 1, LEAST);
            x.turn(1, kind);
            Due.is("told alike", Due.get(x, 1, 0), MOST);
            Due.is("unlike all the same", x.like(0, 1), 0);
            Due.is("turned back", x.turn(0, 4), 1);
            Due.is("just as it was", Due.get(x, 0, 0), 1L << 62);
            Due.is("just as it was", Due.get(x, 0, 1), LEAST);
        }
    }

    private static void inTheWayOfTurn() {
        MappingMoves x = new MappingMoves();
        for (int place : NO_PLACES) {
            Due.is("no such place", x.turn(place, 0), BAD);
        }
        for (int kind : new int[] {-1, 7, 8, 9, 10, Integer.MIN_VALUE, Integer.MAX_VALUE}) {
            Due.is("no such kind", x.turn(0, kind), BAD);
        }
        Due.is("no column", x.turn(0, 0), GONE);
        x.make(0, 8, 2);
        Due.is("a shelf", x.turn(0, 0), OTHER);
        Due.is("a shelf's kind", x.turn(0, 8), BAD);
        x.let(0);
        Due.is("a shelf let go", x.turn(0, 0), OTHER);
        x.make(0, 1, 2);
        x.let(0);
        Due.is("let go", x.turn(0, 0), GONE);
        Due.is("let go, its own kind", x.turn(0, 1), GONE);
        Due.is("its kind stays", x.kind(0), 1);
    }
}
