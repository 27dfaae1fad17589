/** Promises 11 to 16: part, lay, weigh, rigid, fault, raise. */
public final class PartsTest {
    private static final int BAD = -1, FULL = -2, GONE = -11, OUT = -12, OTHER = -13, STORE = -14, CAST = -15;
    private static final int WEIGH = 0, RIGID = 1, RAISE = 2;

    public static void main(String[] args) {
        part();
        lay();
        inTheWayOfLay();
        whichShelvesTake();
        weigh();
        rigid();
        faultAndRaise();
        for (int call = WEIGH; call <= RAISE; call++) {
            inTheWayOfLooking(call);
        }
        Due.end();
    }

    /** PARTS 0 PLAIN, 1 RIGID, 2 SOFT of one weight, and SHELVES 7, 8, 9 at the PLACES 0, 1, 2. */
    private static MappingMoves shelves(int w) {
        MappingMoves x = new MappingMoves();
        for (int k = 0; k < 3; k++) {
            Due.is("part", x.part(k, w), k);
            Due.is("make", x.make(k, 7 + k, 3), 3);
        }
        return x;
    }

    private static void part() {
        MappingMoves x = new MappingMoves();
        Due.is("sort -1", x.part(-1, 5), BAD);
        Due.is("sort 3", x.part(3, 5), BAD);
        Due.is("weight -1", x.part(0, -1), BAD);
        Due.is("weight 1001", x.part(0, 1001), BAD);
        Due.is("none came", x.told(2), 0);
        for (int k = 0; k < 40; k++) {
            Due.is("part", x.part(k % 3, k == 1 ? 1000 : 0), k);
        }
        Due.is("the 41st", x.part(0, 5), FULL);
        Due.is("BAD goes before FULL", x.part(3, 5), BAD);
        Due.is("BAD goes before FULL", x.part(0, 1001), BAD);
        Due.is("40 parts", x.told(2), 40);
        Due.is("part 39 is there", x.fault(39, 1), 1);
        Due.is("part 40 is not", x.fault(40, 1), BAD);
    }

    private static void lay() {
        MappingMoves x = shelves(10);
        Due.is("lay", x.lay(0, 2, 1), 1);
        Due.is("it holds", Due.get(x, 0, 2), 1);
        Due.is("beside it", Due.get(x, 0, 1), Due.NULL_POINTER);
        Due.is("lay over", x.lay(0, 2, 0), 1);
        Due.is("it holds", Due.get(x, 0, 2), 0);
        Due.is("the same in another", x.lay(0, 0, 0), 1);
        Due.is("none", x.lay(0, 2, -1), 1);
        Due.is("empty", Due.get(x, 0, 2), Due.NULL_POINTER);
        Due.is("none, where none was", x.lay(0, 2, -1), 1);
        Due.is("cells that hold", x.told(3), 1);
    }

    private static void inTheWayOfLay() {
        MappingMoves x = shelves(10);
        Due.is("place 24", x.lay(24, 0, 0), BAD);
        Due.is("place -1", x.lay(-1, 0, 0), BAD);
        Due.is("part 3", x.lay(0, 0, 3), BAD);
        Due.is("part -2", x.lay(0, 0, -2), BAD);
        Due.is("BAD goes before GONE", x.lay(9, 0, 3), BAD);
        Due.is("no column", x.lay(9, 0, 0), GONE);
        Due.is("no column, none", x.lay(9, 0, -1), GONE);
        x.make(9, 3, 2);
        Due.is("numbers", x.lay(9, 5, 0), OTHER);
        x.let(9);
        Due.is("numbers let go", x.lay(9, 0, 0), OTHER);
        for (int i : new int[] {-1, 3, Integer.MIN_VALUE, Integer.MAX_VALUE}) {
            Due.is("OUT goes before STORE", x.lay(1, i, 0), OUT);
            Due.is("out, none", x.lay(1, i, -1), OUT);
        }
        x.lay(1, 0, 1);
        Due.is("store", x.lay(1, 0, 2), STORE);
        Due.is("it holds what it held", Due.get(x, 1, 0), 1);
        x.let(1);
        Due.is("let go", x.lay(1, 9, 0), GONE);
        x.lay(0, 0, 1);
        Due.is("what is in the way lays nothing", x.rigid(0, 0), 2);
        x.lay(0, 1, 2);
        Due.is("STORE lays nothing", x.weigh(0, 1), 6);
        x.lay(0, 1, 2);
        Due.is("STORE laid nothing", x.weigh(0, 1), 6);
    }

    private static void whichShelvesTake() {
        for (int shelf = 0; shelf < 3; shelf++) {
            for (int part = 0; part < 3; part++) {
                MappingMoves x = shelves(4);
                boolean taken = shelf == 0 || shelf == part;
                Due.is("shelf " + (7 + shelf) + ", part " + part, x.lay(shelf, 0, part), taken ? 1 : STORE);
                Due.is("none", x.lay(shelf, 0, -1), 1);
            }
        }
    }

    private static void weigh() {
        MappingMoves x = shelves(11);
        int[] soft = {6, 6, 7, 7, 8, 8};
        for (int times = 1; times <= 6; times++) {
            for (int part = 0; part < 3; part++) {
                x.lay(0, part, part);
            }
            Due.is("plain", x.weigh(0, 0), 11);
            Due.is("rigid", x.weigh(0, 1), 11 + 3 * times);
            Due.is("soft", x.weigh(0, 2), soft[times - 1]);
        }
        x.lay(0, 0, -1);
        x.lay(0, 1, -1);
        x.copy(0, 2, 2, 0, 1);
        Due.is("copied is not laid", x.weigh(2, 0), 8);
        x.move(0, 1, 0);
        Due.is("moved is not laid", x.weigh(6, 2), 8);
        MappingMoves y = shelves(0);
        y.lay(0, 0, 2);
        Due.is("soft, of no weight", y.weigh(0, 0), 1);
        MappingMoves z = shelves(1000);
        z.lay(0, 0, 2);
        Due.is("soft, of the most weight", z.weigh(0, 0), 501);
    }

    private static void rigid() {
        MappingMoves x = shelves(5);
        x.lay(0, 0, 0);
        x.lay(0, 1, 1);
        x.lay(0, 2, 2);
        Due.is("plain", x.rigid(0, 0), CAST);
        Due.is("rigid", x.rigid(0, 1), 1);
        Due.is("soft", x.rigid(0, 2), CAST);
        x.lay(1, 2, 1);
        x.lay(1, 2, -1);
        x.lay(1, 0, 1);
        Due.is("how often", x.rigid(0, 1), 3);
        Due.is("how often", x.rigid(1, 0), 3);
    }

    private static void faultAndRaise() {
        MappingMoves x = shelves(5);
        Due.is("part 3", x.fault(3, 0), BAD);
        Due.is("part -1", x.fault(-1, 0), BAD);
        Due.is("part of the least number", x.fault(Integer.MIN_VALUE, 0), BAD);
        Due.is("part of the greatest number", x.fault(Integer.MAX_VALUE, 0), BAD);
        Due.is("code 10", x.fault(0, 10), BAD);
        Due.is("code -2", x.fault(0, -2), BAD);
        x.lay(0, 0, 0);
        x.lay(0, 1, 0);
        Due.is("no fault at first", x.raise(0, 0), GONE);
        for (int code = 0; code < 10; code++) {
            Due.is("fault", x.fault(0, code), 1);
            Due.is("raise", x.raise(0, 0), -30 - code);
            Due.is("raise again", x.raise(0, 1), -30 - code);
        }
        Due.is("a wrong code", x.fault(0, 10), BAD);
        Due.is("changes nothing", x.raise(0, 0), -39);
        Due.is("no fault", x.fault(0, -1), 1);
        Due.is("none to raise", x.raise(0, 0), GONE);
        Due.is("fault of one not laid", x.fault(2, 4), 1);
        x.lay(2, 0, 2);
        Due.is("laid then", x.raise(2, 0), -34);
    }

    private static int look(MappingMoves x, int call, int place, int i) {
        if (call == WEIGH) {
            return x.weigh(place, i);
        }
        return call == RIGID ? x.rigid(place, i) : x.raise(place, i);
    }

    private static void inTheWayOfLooking(int call) {
        MappingMoves x = shelves(5);
        x.lay(0, 0, 1);
        x.fault(1, 3);
        Due.is("place 24", look(x, call, 24, 0), BAD);
        Due.is("place -1", look(x, call, -1, 0), BAD);
        Due.is("no column", look(x, call, 5, -1), GONE);
        x.make(5, 4, 3);
        Due.is("numbers", look(x, call, 5, -1), OTHER);
        x.let(5);
        Due.is("numbers let go", look(x, call, 5, 0), OTHER);
        for (int i : new int[] {-1, 3, Integer.MIN_VALUE, Integer.MAX_VALUE}) {
            Due.is("no such cell", look(x, call, 0, i), OUT);
        }
        Due.is("empty", look(x, call, 0, 1), GONE);
        x.let(0);
        Due.is("let go", look(x, call, 0, 9), GONE);
    }
}
