/** Runs of 512 calls, each answer compared with the model's; the same runs every time. */
public final class ModelTest {
    private static final int RUNS = 1500, CALLS = 512;
    private static final int[] ODD_INTS = {-1, -2, 24, 40, 41, 10, 7, Integer.MIN_VALUE, Integer.MAX_VALUE, 262144};
    private static final long[] ODD_LONGS = {0, 1, -1, 127, 128, -128, -129, 255, 32767, 32768, -32768, 65535, 65536,
        1 << 24, (1 << 24) + 1, Integer.MAX_VALUE, Integer.MIN_VALUE, 1L << 31, 1L << 53, (1L << 53) + 1, 1L << 62,
        Long.MAX_VALUE, Long.MIN_VALUE, Long.MAX_VALUE - 1023};

    private long seed;
    /** Few PLACES make CELLS meet again; many use all of them. */
    private final int places;
    private final MappingMoves x = new MappingMoves();
    private final Model m = new Model();
    private String call;

    private ModelTest(int run) {
        seed = run * 7919L + 1;
        places = run % 3 == 0 ? 24 : run % 3 == 1 ? 4 : 8;
    }

    public static void main(String[] args) {
        for (int run = 0; run < RUNS; run++) {
            ModelTest test = new ModelTest(run);
            for (int n = 0; n < CALLS; n++) {
                test.oneCall(run, n);
            }
        }
        Due.end();
    }

    private int below(int n) {
        seed = seed * 6364136223846793005L + 1442695040888963407L;
        return (int) ((seed >>> 33) % n);
    }

    /** From least to most, and now and then another one. */
    private int number(int least, int most) {
        return below(40) == 0 ? ODD_INTS[below(ODD_INTS.length)] : least + below(most - least + 1);
    }

    private int place() {
        return number(0, places - 1);
    }

    private int cell() {
        return number(0, 5);
    }

    private int kind() {
        return below(3) == 0 ? number(7, 9) : number(0, 6);
    }

    private long value() {
        long odd = ODD_LONGS[below(ODD_LONGS.length)];
        int how = below(5);
        if (how == 0) {
            return odd * 8;
        }
        return how == 1 ? odd : how == 2 ? below(2000) - 1000 : how == 3 ? 8L * (below(600) - 300) : odd >> below(20);
    }

    private void oneCall(int run, int n) {
        call = "";
        int which = below(24);
        long[] both = n < 12 ? makeOrPart() : which < 7 ? columns(which) : which < 12 ? numbers(which)
                : which < 18 ? parts(which) : others(which);
        Due.is("run " + run + ", call " + n + ": " + call, both[0], both[1]);
    }

    private long[] answers(long got, long want, String name, long... numbers) {
        call = name + java.util.Arrays.toString(numbers);
        return new long[] {got, want};
    }

    private long[] makeOrPart() {
        int a = place();
        int k = kind();
        int c = below(6) == 0 ? number(-1, 41) : number(0, 6);
        int sort = number(0, 2);
        int w = number(0, 1000);
        return below(2) == 0 ? answers(x.make(a, k, c), m.make(a, k, c), "make", a, k, c)
                : answers(x.part(sort, w), m.part(sort, w), "part", sort, w);
    }

    private long[] columns(int which) {
        int a = place();
        switch (which) {
            case 0:
            case 1:
                return makeOrPart();
            case 2:
                return below(4) != 0 ? makeOrPart() : answers(x.let(a), m.let(a), "let", a);
            case 3:
                return below(4) != 0 ? makeOrPart() : answers(x.drop(a), m.drop(a), "drop", a);
            case 4:
                return answers(x.kind(a), m.kind(a), "kind", a);
            case 5:
                return answers(x.length(a), m.length(a), "length", a);
            default:
                int what = number(0, 3);
                return answers(x.told(what), m.told(what), "told", what);
        }
    }

    private long[] numbers(int which) {
        int a = place();
        int i = cell();
        long v = value();
        int k = number(0, 6);
        switch (which) {
            case 7:
            case 8:
                return answers(x.put(a, i, v), m.put(a, i, v), "put", a, i, v);
            case 9:
                return answers(Due.get(x, a, i), m.get(a, i), "get", a, i);
            case 10:
                int own = below(3) == 0 ? k : m.kind(a);
                return answers(x.sum(a, own), m.sum(a, own), "sum", a, own);
            default:
                return answers(x.turn(a, k), m.turn(a, k), "turn", a, k);
        }
    }

    private long[] parts(int which) {
        int a = place();
        int i = cell();
        int p = number(-1, Math.max(0, m.told(2) - 1));
        int code = number(-1, 9);
        switch (which) {
            case 12:
            case 13:
                return answers(x.lay(a, i, p), m.lay(a, i, p), "lay", a, i, p);
            case 14:
                return answers(x.weigh(a, i), m.weigh(a, i), "weigh", a, i);
            case 15:
                return answers(x.rigid(a, i), m.rigid(a, i), "rigid", a, i);
            case 16:
                return answers(x.fault(p, code), m.fault(p, code), "fault", p, code);
            default:
                return answers(x.raise(a, i), m.raise(a, i), "raise", a, i);
        }
    }

    private long[] others(int which) {
        int a = place();
        int b = place();
        int i = number(0, 3);
        int j = number(0, 3);
        int n = number(0, 4);
        int rule = below(20) == 0 ? number(0, 262143) : below(262144);
        int mappings = (places + 5) / 6;
        switch (which) {
            case 18:
            case 19:
                return answers(x.copy(a, i, b, j, n), m.copy(a, i, b, j, n), "copy", a, i, b, j, n);
            case 20:
                return answers(x.copied(), m.copied(), "copied");
            case 21:
                int from = number(0, mappings - 1);
                int into = number(0, mappings - 1);
                return below(4) != 0 ? makeOrPart() : answers(x.move(from, into, rule), m.move(from, into, rule), "move", from, into, rule);
            default:
                return answers(x.like(a, b), m.like(a, b), "like", a, b);
        }
    }
}
