/** Promises 1 to 6: a new object, make, let, drop, kind, length. */
public final class ColumnsTest {
    private static final int BAD = -1, GONE = -11, OUT = -12, BELOW = -16;
    private static final int[] NO_PLACES = {-1, 24, Integer.MIN_VALUE, Integer.MAX_VALUE};

    public static void main(String[] args) {
        newObject();
        make();
        makeAnew();
        let();
        drop();
        kindAndLength();
        wrongPlaces();
        Due.end();
    }

    private static void newObject() {
        MappingMoves x = new MappingMoves();
        for (int place = 0; place < 24; place++) {
            Due.is("new: kind(" + place + ")", x.kind(place), GONE);
            Due.is("new: length(" + place + ")", x.length(place), GONE);
        }
        for (int what = 0; what < 4; what++) {
            Due.is("new: told(" + what + ")", x.told(what), 0);
        }
        Due.is("new: copied()", x.copied(), 0);
        Due.is("new: part 0 is none", x.fault(0, 1), BAD);
        MappingMoves other = new MappingMoves();
        other.make(0, 0, 1);
        other.part(0, 1);
        Due.is("objects share no columns", x.kind(0), GONE);
        Due.is("objects share no parts", x.told(2), 0);
    }

    private static void make() {
        MappingMoves x = new MappingMoves();
        for (int kind = 0; kind < 10; kind++) {
            Due.is("make", x.make(kind, kind, kind * 4), kind * 4);
            Due.is("kind", x.kind(kind), kind);
            Due.is("length", x.length(kind), kind * 4);
            for (int i = 0; i < kind * 4; i++) {
                Due.is("get", Due.get(x, kind, i), kind < 7 ? 0 : Due.NULL_POINTER);
            }
        }
        Due.is("make of 40", x.make(23, 9, 40), 40);
        Due.is("make of 0", x.make(22, 6, 0), 0);
        Due.is("no cell of 0", Due.get(x, 22, 0), Due.OUT_OF_BOUNDS);
        Due.is("make of 41", x.make(23, 1, 41), BAD);
        Due.is("make of the most", x.make(23, 1, Integer.MAX_VALUE), BAD);
        Due.is("make of -1", x.make(23, 1, -1), BELOW);
        Due.is("make of the least", x.make(23, 1, Integer.MIN_VALUE), BELOW);
        Due.is("make of kind 10", x.make(23, 10, 1), BAD);
        Due.is("make of kind -1", x.make(23, -1, 1), BAD);
        Due.is("BAD goes before BELOW: kind", x.make(23, 10, -1), BAD);
        Due.is("BAD goes before BELOW: place", x.make(24, 1, -1), BAD);
        Due.is("refused, it stays", x.kind(23), 9);
        Due.is("refused, its cells stay", x.length(23), 40);
    }

    private static void makeAnew() {
        MappingMoves x = new MappingMoves();
        for (int kind = 0; kind < 7; kind++) {
            x.make(3, kind, 2);
            x.put(3, 0, 77);
            Due.is("made anew", x.make(3, kind, 3), 3);
            Due.is("made anew, 0", Due.get(x, 3, 0), 0);
        }
        x.part(0, 1);
        x.make(3, 7, 2);
        x.lay(3, 1, 0);
        x.make(3, 8, 2);
        Due.is("made anew, EMPTY", Due.get(x, 3, 1), Due.NULL_POINTER);
        x.make(3, 0, 2);
        Due.is("made anew, a number", Due.get(x, 3, 1), 0);
        x.let(3);
        Due.is("made where one was let go", x.make(3, 4, 5), 5);
        Due.is("length", x.length(3), 5);
        Due.is("one column", x.told(0), 1);
    }

    private static void let() {
        MappingMoves x = new MappingMoves();
        Due.is("let none", x.let(2), GONE);
        x.make(2, 5, 7);
        x.make(8, 9, 0);
        Due.is("let 7", x.let(2), 7);
        Due.is("let again", x.let(2), GONE);
        Due.is("let 0", x.let(8), 0);
        Due.is("let 0 again", x.let(8), GONE);
        Due.is("kind stays", x.kind(2), 5);
        Due.is("kind stays", x.kind(8), 9);
        Due.is("no length", x.length(2), GONE);
        Due.is("no cell", Due.get(x, 2, 0), Due.NULL_POINTER);
        Due.is("no cell, whichever", Due.get(x, 2, 99), Due.NULL_POINTER);
        Due.is("still columns", x.told(0), 2);
        Due.is("no cells", x.told(1), 0);
    }

    private static void drop() {
        MappingMoves x = new MappingMoves();
        Due.is("drop none", x.drop(6), 0);
        x.make(6, 1, 3);
        Due.is("drop one", x.drop(6), 1);
        Due.is("drop again", x.drop(6), 0);
        Due.is("no kind", x.kind(6), GONE);
        Due.is("no length", x.length(6), GONE);
        x.make(6, 7, 3);
        x.let(6);
        Due.is("drop one let go", x.drop(6), 1);
        Due.is("no kind", x.kind(6), GONE);
        Due.is("no columns", x.told(0), 0);
    }

    private static void kindAndLength() {
        MappingMoves x = new MappingMoves();
        x.make(0, 6, 40);
        x.make(23, 2, 1);
        Due.is("kind", x.kind(0), 6);
        Due.is("kind", x.kind(23), 2);
        Due.is("length", x.length(0), 40);
        Due.is("length", x.length(23), 1);
        Due.is("put beyond", x.put(23, 1, 1), OUT);
    }

    private static void wrongPlaces() {
        MappingMoves x = new MappingMoves();
        for (int place : NO_PLACES) {
            Due.is("make", x.make(place, 0, 1), BAD);
            Due.is("let", x.let(place), BAD);
            Due.is("drop", x.drop(place), BAD);
            Due.is("kind", x.kind(place), BAD);
            Due.is("length", x.length(place), BAD);
        }
        Due.is("nothing came of it", x.told(0), 0);
    }
}
