/** Promises 17 to 21: copy, copied, move, like, told. */
public final class FromOneToAnotherTest {
    private static final int BAD = -1, GONE = -11, OUT = -12, OTHER = -13, STORE = -14;
    private static final int[] NO_PLACES = {-1, 24, Integer.MIN_VALUE, Integer.MAX_VALUE};

    public static void main(String[] args) {
        copyOfNumbers();
        copyWithinOne();
        whichKindsCopy();
        inTheWayOfCopy();
        copyOutOfBounds();
        copyOfParts();
        fullColumns();
        copied();
        move();
        moveWithinOne();
        inTheWayOfMove();
        likeOfNumbers();
        likeOfParts();
        told();
        Due.end();
    }

    private static void copyOfNumbers() {
        for (int kind = 0; kind < 7; kind++) {
            MappingMoves x = new MappingMoves();
            x.make(0, kind, 4);
            x.make(23, kind, 6);
            for (int i = 0; i < 4; i++) {
                x.put(0, i, 11 + i);
            }
            Due.is("copy", x.copy(0, 1, 23, 3, 2), 2);
            long[] due = {0, 0, 0, 12, 13, 0};
            for (int i = 0; i < 6; i++) {
                Due.is("cell " + i + " of kind " + kind, Due.get(x, 23, i), due[i]);
            }
            x.put(0, 1, 99);
            Due.is("its own cells", Due.get(x, 23, 3), 12);
        }
    }

    private static void copyWithinOne() {
        for (int kind = 0; kind < 8; kind++) {
            MappingMoves x = numbered(kind);
            Due.is("up", x.copy(0, 0, 0, 2, 4), 4);
            cellsAre(x, 0, 0, 1, 0, 1, 2, 3);
            x = numbered(kind);
            Due.is("down", x.copy(0, 2, 0, 0, 4), 4);
            cellsAre(x, 0, 2, 3, 4, 5, 4, 5);
            x = numbered(kind);
            Due.is("all", x.copy(0, 0, 0, 0, 6), 6);
            cellsAre(x, 0, 0, 1, 2, 3, 4, 5);
        }
    }

    /** A COLUMN at PLACE 0 whose 6 CELLS tell their own numbers. */
    private static MappingMoves numbered(int kind) {
        MappingMoves x = new MappingMoves();
        x.make(0, kind, 6);
        for (int i = 0; i < 6; i++) {
            x.part(0, 1);
            Due.is("set", kind < 7 ? x.put(0, i, i) : x.lay(0, i, i), 1);
        }
        return x;
    }

    private static void cellsAre(MappingMoves x, int place, long... due) {
        Due.is("length", x.length(place), due.length);
        for (int i = 0; i < due.length; i++) {
            Due.is("cell " + i, Due.get(x, place, i), due[i]);
        }
    }

    private static void whichKindsCopy() {
        for (int from = 0; from < 10; from++) {
            for (int into = 0; into < 10; into++) {
                MappingMoves x = new MappingMoves();
                x.make(2, from, 2);
                x.make(3, into, 2);
                boolean can = from == into || from > 6 && into > 6;
                Due.is("copy " + from + " to " + into, x.copy(2, 0, 3, 0, 2), can ? 2 : OTHER);
                Due.is("OTHER goes before OUT", x.copy(2, 0, 3, 0, 3), can ? OUT : OTHER);
            }
        }
    }

    private static void inTheWayOfCopy() {
        MappingMoves x = new MappingMoves();
        x.make(0, 3, 2);
        x.make(1, 4, 2);
        for (int place : NO_PLACES) {
            Due.is("from", x.copy(place, 0, 0, 0, 1), BAD);
            Due.is("into", x.copy(0, 0, place, 0, 1), BAD);
        }
        Due.is("none from", x.copy(5, -1, 0, 0, 1), GONE);
        Due.is("none into", x.copy(0, -1, 5, 0, 1), GONE);
        Due.is("none with itself", x.copy(5, 0, 5, 0, 0), GONE);
        x.let(1);
        Due.is("GONE goes before OTHER", x.copy(0, 0, 1, 0, 1), GONE);
        Due.is("GONE goes before OTHER", x.copy(1, 0, 0, 0, 1), GONE);
        Due.is("let go, with itself", x.copy(1, 0, 1, 0, 0), GONE);
    }

    private static void copyOutOfBounds() {
        int most = Integer.MAX_VALUE;
        int least = Integer.MIN_VALUE;
        for (int kind = 4; kind < 8; kind++) {
            MappingMoves x = new MappingMoves();
            x.make(0, kind, 5);
            x.make(1, kind, 3);
            int[][] out = {{0, 0, 4}, {3, 0, 3}, {0, 1, 3}, {-1, 0, 1}, {0, -1, 1}, {0, 0, -1}, {6, 0, 0}, {0, 4, 0},
                {most, 0, 1}, {0, most, 1}, {0, 0, most}, {most, most, most}, {1, 1, most}, {least, 0, 1},
                {0, least, 1}, {0, 0, least}, {least, least, least}, {most, 0, most}, {-1, -1, 0}};
            for (int[] o : out) {
                Due.is("copy " + o[0] + ", " + o[1] + ", " + o[2], x.copy(0, o[0], 1, o[1], o[2]), OUT);
            }
            Due.is("none at the ends", x.copy(0, 5, 1, 3, 0), 0);
            Due.is("the last three", x.copy(0, 2, 1, 0, 3), 3);
            Due.is("back", x.copy(1, 0, 0, 2, 3), 3);
        }
    }

    private static void copyOfParts() {
        MappingMoves x = new MappingMoves();
        x.part(0, 1);
        x.part(1, 1);
        x.part(2, 1);
        x.make(0, 7, 5);
        x.make(1, 8, 5);
        x.make(2, 9, 5);
        x.make(3, 7, 5);
        int[] laid = {1, -1, 1, 2, 1};
        for (int i = 0; i < 5; i++) {
            x.lay(0, i, laid[i]);
        }
        x.lay(1, 1, 1);
        x.lay(1, 3, 1);
        long none = Due.NULL_POINTER;
        Due.is("rigid ones alone", x.copy(0, 0, 1, 0, 5), STORE);
        Due.is("ahead of it", x.copied(), 3);
        cellsAre(x, 1, 1, none, 1, 1, none);
        Due.is("from behind it on", x.copy(0, 4, 1, 4, 1), 1);
        cellsAre(x, 1, 1, none, 1, 1, 1);
        Due.is("to soft ones", x.copy(0, 1, 2, 0, 4), STORE);
        Due.is("the empty one", x.copied(), 1);
        Due.is("to soft ones", x.copy(0, 3, 2, 2, 2), STORE);
        cellsAre(x, 2, none, none, 2, none, none);
        Due.is("rigid to soft", x.copy(1, 0, 2, 0, 1), STORE);
        Due.is("soft to rigid", x.copy(2, 2, 1, 0, 1), STORE);
        Due.is("to any", x.copy(0, 0, 3, 0, 5), 5);
        cellsAre(x, 3, 1, none, 1, 2, 1);
        Due.is("rigid to any", x.copy(1, 0, 3, 0, 5), 5);
        Due.is("soft to any", x.copy(2, 2, 3, 4, 1), 1);
        cellsAre(x, 3, 1, none, 1, 1, 2);
        x.lay(0, 0, 0);
        Due.is("plain to rigid", x.copy(0, 0, 1, 0, 1), STORE);
        Due.is("plain to soft", x.copy(0, 0, 2, 0, 1), STORE);
        Due.is("plain to any", x.copy(0, 0, 3, 0, 1), 1);
        Due.is("OUT goes before STORE", x.copy(0, 0, 1, 0, 6), OUT);
    }

    private static void fullColumns() {
        for (int kind = 0; kind < 10; kind++) {
            MappingMoves x = new MappingMoves();
            x.part(kind == 9 ? 2 : 1, 1);
            x.make(0, kind, 40);
            x.make(1, kind, 40);
            for (int i = 0; i < 40; i++) {
                Due.is("set", kind < 7 ? x.put(0, i, i) : x.lay(0, i, 0), 1);
            }
            Due.is("copy of all", x.copy(0, 0, 1, 0, 40), 40);
            Due.is("like in all", x.like(0, 1), 1);
            Due.is("moved", x.move(0, 3, rule(0, 1, 0, 1, 0, 1)), 6);
            Due.is("like in all", x.like(0, 23), 1);
            Due.is("cells in all", x.told(1), 8 * 40);
            Due.is("cells that hold", x.told(3), kind < 7 ? 0 : 8 * 40);
            if (kind > 6) {
                x.make(2, kind == 7 ? 8 : 7, 40);
                Due.is("copy of all to another shelf", x.copy(0, 0, 2, 0, 40), 40);
                x.make(2, kind == 9 ? 8 : 9, 40);
                x.lay(0, 39, -1);
                Due.is("the last can be copied", x.copy(0, 39, 2, 39, 1), 1);
                Due.is("none of the rest", x.copy(0, 38, 2, 38, 2), STORE);
            }
        }
    }

    private static void copied() {
        MappingMoves x = new MappingMoves();
        Due.is("at first", x.copied(), 0);
        x.make(0, 3, 5);
        x.make(1, 4, 5);
        x.copy(0, 0, 0, 1, 4);
        Due.is("4", x.copied(), 4);
        x.copy(24, 0, 0, 1, 4);
        Due.is("BAD does not count", x.copied(), 4);
        x.copy(0, 0, -1, 1, 4);
        Due.is("BAD does not count", x.copied(), 4);
        x.move(0, 1, 0);
        x.drop(9);
        Due.is("other calls do not count", x.copied(), 4);
        x.copy(0, 0, 5, 0, 4);
        Due.is("GONE counts", x.copied(), 0);
        x.copy(0, 0, 0, 0, 5);
        Due.is("5", x.copied(), 5);
        x.copy(0, 0, 1, 0, 2);
        Due.is("OTHER counts", x.copied(), 0);
        x.copy(0, 0, 0, 0, 3);
        x.copy(0, 0, 0, 0, 6);
        Due.is("OUT counts", x.copied(), 0);
        x.copy(0, 0, 0, 0, 3);
        x.copy(0, 0, 0, 0, 0);
        Due.is("0", x.copied(), 0);
    }

    /** A rule of six digits by 8, the first being that of FIELD 0. */
    private static int rule(int... digits) {
        int rule = 0;
        for (int f = 5; f >= 0; f--) {
            rule = rule * 8 + digits[f];
        }
        return rule;
    }

    private static void move() {
        MappingMoves x = new MappingMoves();
        x.part(1, 4);
        x.make(6, 3, 2);
        x.put(6, 1, 70);
        x.make(7, 8, 3);
        x.lay(7, 2, 0);
        x.make(8, 6, 1);
        x.put(8, 0, 3);
        x.let(8);
        x.make(10, 5, 1);
        x.put(10, 0, 13);
        for (int f = 0; f < 6; f++) {
            x.make(12 + f, 4, 1);
            x.put(12 + f, 0, 1000 + f);
        }
        Due.is("move", x.move(1, 2, rule(1, 2, 3, 6, 7, 4)), 4);
        Due.is("a shelf", x.kind(12), 8);
        cellsAre(x, 12, Due.NULL_POINTER, Due.NULL_POINTER, 0);
        Due.is("let go, too", x.kind(13), 6);
        Due.is("let go, too", x.length(13), GONE);
        Due.is("none there", x.kind(14), GONE);
        Due.is("none by 6", x.kind(15), GONE);
        cellsAre(x, 16, 1004);
        Due.is("floats", x.kind(17), 5);
        cellsAre(x, 17, 13);
        Due.is("a stays", x.kind(6), 3);
        cellsAre(x, 6, 0, 70);
        x.put(17, 0, 5);
        cellsAre(x, 10, 13);
        x.lay(12, 2, -1);
        Due.is("a's shelf stays", Due.get(x, 7, 2), 0);
        Due.is("all columns", x.told(0), 8);
        Due.is("one to all", x.move(1, 3, rule(0, 0, 0, 0, 0, 0)), 6);
        x.put(18, 0, 5);
        cellsAre(x, 19, 0, 70);
        Due.is("all let go", x.move(1, 3, rule(2, 2, 2, 2, 2, 2)), 6);
        Due.is("as it was", x.move(1, 3, 262143), 6);
        Due.is("made again", x.make(20, 6, 1), 1);
        cellsAre(x, 20, 0);
        Due.is("none", x.move(1, 3, rule(6, 6, 6, 6, 6, 6)), 0);
    }

    private static void moveWithinOne() {
        MappingMoves x = new MappingMoves();
        for (int f = 0; f < 5; f++) {
            x.make(f, f, f + 1);
            x.put(f, f, 10 + f);
        }
        Due.is("turned round", x.move(0, 0, rule(5, 4, 3, 2, 1, 0)), 5);
        Due.is("none now", x.kind(0), GONE);
        for (int f = 1; f < 6; f++) {
            Due.is("kind", x.kind(f), 5 - f);
            Due.is("cell", Due.get(x, f, 5 - f), 10 + 5 - f);
        }
        Due.is("round again", x.move(0, 0, rule(5, 0, 1, 2, 3, 4)), 5);
        Due.is("kind", x.kind(0), 0);
        Due.is("kind", x.kind(1), GONE);
        Due.is("kind", x.kind(2), 4);
        Due.is("as it was", x.move(0, 0, rule(7, 7, 7, 7, 7, 7)), 5);
        Due.is("its own", x.move(0, 0, rule(0, 1, 2, 3, 4, 5)), 5);
        Due.is("kind", x.kind(2), 4);
        Due.is("cell", Due.get(x, 2, 4), 14);
    }

    private static void inTheWayOfMove() {
        MappingMoves x = new MappingMoves();
        x.make(0, 0, 1);
        for (int mapping : new int[] {-1, 4, Integer.MIN_VALUE, Integer.MAX_VALUE}) {
            Due.is("a", x.move(mapping, 0, 0), BAD);
            Due.is("b", x.move(0, mapping, 0), BAD);
        }
        for (int rule : new int[] {-1, 262144, Integer.MIN_VALUE, Integer.MAX_VALUE}) {
            Due.is("rule", x.move(0, 1, rule), BAD);
        }
        Due.is("nothing came of it", x.told(0), 1);
    }

    private static void likeOfNumbers() {
        MappingMoves x = new MappingMoves();
        for (int place : NO_PLACES) {
            Due.is("a", x.like(place, 0), BAD);
            Due.is("b", x.like(0, place), BAD);
        }
        x.make(0, 3, 2);
        Due.is("no b", x.like(0, 1), GONE);
        Due.is("no a", x.like(1, 0), GONE);
        Due.is("none", x.like(1, 1), GONE);
        Due.is("itself", x.like(0, 0), 1);
        for (int kind = 0; kind < 7; kind++) {
            x.make(0, kind, 2);
            x.make(1, kind, 2);
            Due.is("zeros", x.like(0, 1), 1);
            x.put(1, 1, 5);
            Due.is("the last is another", x.like(0, 1), 0);
            x.put(0, 1, 5);
            Due.is("the same", x.like(0, 1), 1);
            x.put(0, 0, 6);
            Due.is("the first is another", x.like(0, 1), 0);
            x.make(0, kind, 2);
            x.make(1, kind, 3);
            Due.is("more cells", x.like(0, 1), 0);
            Due.is("fewer cells", x.like(1, 0), 0);
            x.make(1, (kind + 1) % 7, 2);
            Due.is("another kind", x.like(0, 1), 0);
            x.let(1);
            Due.is("let go", x.like(0, 1), GONE);
            Due.is("let go", x.like(1, 0), GONE);
        }
        x.make(0, 3, 0);
        x.make(1, 3, 0);
        Due.is("no cells", x.like(0, 1), 1);
        x.make(1, 4, 0);
        Due.is("no cells of another kind", x.like(0, 1), 0);
    }

    private static void likeOfParts() {
        MappingMoves x = new MappingMoves();
        x.part(1, 5);
        x.part(1, 5);
        x.make(0, 7, 2);
        x.make(1, 7, 2);
        x.make(2, 8, 2);
        Due.is("empty", x.like(0, 1), 1);
        Due.is("empty, of another kind", x.like(0, 2), 0);
        x.lay(0, 1, 0);
        Due.is("one empty", x.like(0, 1), 0);
        x.lay(1, 1, 1);
        Due.is("another part, just as heavy", x.like(0, 1), 0);
        x.lay(1, 1, 0);
        Due.is("the same", x.like(0, 1), 1);
    }

    private static void told() {
        MappingMoves x = new MappingMoves();
        for (int what : new int[] {-1, 4, Integer.MIN_VALUE, Integer.MAX_VALUE}) {
            Due.is("told " + what, x.told(what), BAD);
        }
        x.part(0, 1);
        x.part(1, 1);
        x.make(0, 3, 5);
        x.put(0, 0, 1);
        x.make(11, 7, 4);
        x.lay(11, 0, 0);
        x.lay(11, 3, 0);
        x.make(23, 8, 40);
        x.lay(23, 39, 1);
        Due.is("columns", x.told(0), 3);
        Due.is("cells", x.told(1), 49);
        Due.is("parts", x.told(2), 2);
        Due.is("cells that hold", x.told(3), 3);
        x.let(11);
        Due.is("columns", x.told(0), 3);
        Due.is("cells", x.told(1), 45);
        Due.is("cells that hold", x.told(3), 1);
        x.drop(23);
        Due.is("columns", x.told(0), 2);
        Due.is("cells", x.told(1), 5);
        Due.is("parts", x.told(2), 2);
        Due.is("cells that hold", x.told(3), 0);
    }
}
