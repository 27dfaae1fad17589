/** Compares answers with those that are due, and ends a test with exit code 1 if one was wrong. */
final class Due {
    static final long NULL_POINTER = Long.MIN_VALUE + 101;
    static final long OUT_OF_BOUNDS = Long.MIN_VALUE + 102;
    static final long BY_THE_MACHINE = Long.MIN_VALUE + 103;

    private static int wrong = 0;
    private static int asked = 0;

    private Due() {
    }

    static void is(String call, long got, long want) {
        asked++;
        if (got != want) {
            wrong++;
            System.out.println(call + " answered " + got + ", due is " + want);
        }
    }

    static void holds(String what, boolean so) {
        is(what, so ? 1 : 0, 1);
    }

    /** What get() answers, its exceptions told as numbers; one that the machine threw, not the class, as a third. */
    static long get(MappingMoves x, int place, int i) {
        try {
            return x.get(place, i);
        } catch (NullPointerException e) {
            return "no cells".equals(e.getMessage()) || "empty cell".equals(e.getMessage())
                    ? NULL_POINTER : BY_THE_MACHINE;
        } catch (ArrayIndexOutOfBoundsException e) {
            return "no such place".equals(e.getMessage()) || "no such cell".equals(e.getMessage())
                    ? OUT_OF_BOUNDS : BY_THE_MACHINE;
        }
    }

    static void end() {
        System.out.println(asked + " answers, " + wrong + " of them wrong");
        if (wrong != 0 || asked == 0) {
            System.exit(1);
        }
    }
}
