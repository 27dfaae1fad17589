/** The boundary cases of the promises 7 to 10, a method for each sentence. */
public final class EdgesOfNumbersTest {
    private static final long[] LEAST = {-128, -32768, 0, Integer.MIN_VALUE, Long.MIN_VALUE};
    private static final long[] MOST = {127, 32767, 65535, Integer.MAX_VALUE, Long.MAX_VALUE};

    public static void main(String[] args) {
        putOfEachCell();
        putInTheWay();
        getOfAShelf();
        getGone();
        getOut();
        sumOfNone();
        sumRunsOver();
        sumOfRealsAsTheyTell();
        sumOfFullColumns();
        sumInTheWay();
        turnOfWholes();
        turnToFloats();
        turnToDoubles();
        turnOfRealsToWholes();
        turnOfRealsAtTheEndsOfInts();
        turnOfRealsToLongs();
        turnOfDoublesToFloats();
        turnOfFloatsToDoubles();
        turnToItsOwn();
        turnTellsTheFirstThatCannot();
        turnOfNoCells();
        turnCountsTheNumbersThemselves();
        turnInTheWay();
        Due.end();
    }

    private static void putOfEachCell() {
        for (int kind = 0; kind < 7; kind++) {
            Run run = Run.of("put: A CELL of a COLUMN of NUMBERS becomes v: 1", "make 6 " + kind + " 40 = 40");
            for (int i = 0; i < 40; i++) {
                run.row("put 6 " + i + " " + (i + 1), 1);
            }
            for (int i = 0; i < 40; i++) {
                run.row("get 6 " + i, i + 1);
            }
        }
    }

    private static void putInTheWay() {
        for (int shelf = 7; shelf < 10; shelf++) {
            Run.of("put: GONE: no COLUMN; OTHER: a SHELF; GONE: LET GO; OUT", "put 0 0 1 = GONE", "put 0 -1 1 = GONE", "put 0 40 1 = GONE",
                    "make 0 " + shelf + " 2 = 2", "put 0 0 1 = OTHER", "put 0 2 1 = OTHER", "put 0 -1 1 = OTHER", "get 0 0 = NULL",
                    "let 0 = 2", "put 0 0 1 = OTHER", "put 0 2 1 = OTHER", "drop 0 = 1", "put 0 0 1 = GONE");
        }
        for (int kind = 0; kind < 7; kind++) {
            Run.of("put: GONE: LET GO; OUT", "make 0 " + kind + " 2 = 2", "put 0 1 5 = 1", "put 0 2 1 = OUT", "put 0 -1 1 = OUT",
                    "put 0 39 1 = OUT", "put 0 40 1 = OUT", "put 0 min 1 = OUT", "put 0 max 1 = OUT", "get 0 0 = 0", "get 0 1 = 5",
                    "let 0 = 2", "put 0 0 1 = GONE", "put 0 2 1 = GONE", "put 0 -1 1 = GONE", "put 24 2 1 = BAD",
                    "make 0 " + kind + " 0 = 0", "put 0 0 1 = OUT");
        }
    }

    private static void getOfAShelf() {
        Run run = Run.of("get: of a SHELF the PART's number", "make 0 7 40 = 40");
        for (int part = 0; part < 40; part++) {
            run.row("part " + part % 3 + " " + (1000 - part), part).row("lay 0 " + (39 - part) + " " + part, 1);
        }
        for (int part = 0; part < 40; part++) {
            run.row("get 0 " + (39 - part), part);
        }
    }

    private static void getGone() {
        for (int kind = 0; kind < 10; kind++) {
            Run.of("get: NullPointerException: for what GONE is told", "get 0 0 = NULL", "get 0 -1 = NULL", "get 0 max = NULL",
                    "make 0 " + kind + " 2 = 2", "get 0 1 = " + (kind < 7 ? "0" : "NULL"), "let 0 = 2", "get 0 0 = NULL", "get 0 2 = NULL",
                    "get 0 -1 = NULL", "drop 0 = 1", "get 0 2 = NULL");
        }
        Run.of("get: an EMPTY CELL is GONE, a number -1 is none", "part 0 1 = 0", "make 0 7 1 = 1", "get 0 0 = NULL", "lay 0 0 0 = 1",
                "get 0 0 = 0", "lay 0 0 -1 = 1", "get 0 0 = NULL", "make 0 4 1 = 1", "put 0 0 -1 = 1", "get 0 0 = -1");
    }

    private static void getOut() {
        for (int kind = 0; kind < 10; kind++) {
            Run.of("get: ArrayIndexOutOfBoundsException: OUT; also no such PLACE, first of all", "make 0 " + kind + " 40 = 40",
                    "get 0 40 = BOUNDS", "get 0 -1 = BOUNDS", "get 0 max = BOUNDS", "get 0 min = BOUNDS", "make 0 " + kind + " 1 = 1",
                    "get 0 1 = BOUNDS", "make 0 " + kind + " 0 = 0", "get 0 0 = BOUNDS", "get -1 0 = BOUNDS", "get 24 0 = BOUNDS",
                    "get 24 -1 = BOUNDS", "get min 0 = BOUNDS", "get max max = BOUNDS");
        }
    }

    private static void sumOfNone() {
        for (int kind = 0; kind < 7; kind++) {
            Run.of("sum: All CELLS: of none", "make 0 " + kind + " 0 = 0", "sum 0 " + kind + " = 0", "make 0 " + kind + " 40 = 40",
                    "sum 0 " + kind + " = 0");
        }
    }

    private static void sumRunsOver() {
        Run.of("sum: what runs over is lost: ints", "make 0 3 3 = 3", "put 0 0 max = 1", "sum 0 3 = max", "put 0 2 1 = 1", "sum 0 3 = min",
                "put 0 2 max = 1", "sum 0 3 = -2", "put 0 0 min = 1", "put 0 2 -1 = 1", "sum 0 3 = max", "put 0 2 min = 1", "sum 0 3 = 0");
        Run.of("sum: their lowest 32 bits: longs", "make 0 4 2 = 2", "put 0 0 MAX = 1", "sum 0 4 = -1", "put 0 1 MAX = 1", "sum 0 4 = -2",
                "put 0 0 MIN = 1", "sum 0 4 = -1", "put 0 1 MIN = 1", "sum 0 4 = 0", "put 0 0 4294967296 = 1", "sum 0 4 = 0",
                "put 0 0 2147483648 = 1", "sum 0 4 = min", "put 0 1 -1 = 1", "sum 0 4 = max");
    }

    private static void sumOfRealsAsTheyTell() {
        for (int kind = 5; kind < 7; kind++) {
            Run.of("sum: as they tell", "make 0 " + kind + " 3 = 3", "put 0 0 3 = 1", "put 0 1 6 = 1", "put 0 2 -17 = 1",
                    "sum 0 " + kind + " = -8", "put 0 0 2147483648 = 1", "put 0 1 0 = 1", "put 0 2 0 = 1", "sum 0 " + kind + " = min",
                    "put 0 1 -8 = 1", "sum 0 " + kind + " = 2147483640", "put 0 0 MAX = 1", "put 0 1 0 = 1", "sum 0 " + kind + " = -1",
                    "put 0 1 MAX = 1", "put 0 2 MAX = 1", "sum 0 " + kind + " = -3", "put 0 0 MIN = 1", "sum 0 " + kind + " = -2");
        }
    }

    private static void sumOfFullColumns() {
        int[] most = {40 * 127, 40 * 32767, 40 * 65535, -40, -40, -40, -40};
        for (int kind = 0; kind < 7; kind++) {
            long v = kind < 5 ? MOST[kind] : Long.MAX_VALUE;
            Run run = Run.of("sum: All CELLS, added as ints", "make 0 " + kind + " 40 = 40");
            for (int i = 0; i < 40; i++) {
                run.row("put 0 " + i + " " + v, 1);
            }
            run.row("sum 0 " + kind, most[kind]);
        }
    }

    private static void sumInTheWay() {
        String sentence = "sum: BAD; GONE: no COLUMN; CAST: it is of another KIND; GONE";
        Run.of(sentence, "sum 24 0 = BAD", "sum -1 0 = BAD", "sum 24 7 = BAD", "sum 0 -1 = BAD", "sum 0 7 = BAD", "sum 0 0 = GONE",
                "sum 0 6 = GONE");
        for (int of = 0; of < 10; of++) {
            Run run = Run.of(sentence, "make 0 " + of + " 1 = 1");
            for (int kind = 0; kind < 7; kind++) {
                run.rows("sum 0 " + kind + (kind == of ? " = 0" : " = CAST"));
            }
            for (String kind : new String[] {"-1", "7", "8", "9", "10"}) {
                run.rows("sum 0 " + kind + " = BAD");
            }
            run.rows("let 0 = 1");
            for (int kind = 0; kind < 7; kind++) {
                run.rows("sum 0 " + kind + (kind == of ? " = GONE" : " = CAST"));
            }
            run.rows("drop 0 = 1", "sum 0 0 = GONE");
        }
    }

    /** A COLUMN of 3 CELLS with one number in the middle, turned: 1, and it tells what is due then; or -21, and stays. */
    private static void turned(String sentence, int kind, long put, int newKind, boolean can, long told) {
        Run run = Run.of(sentence, "make 4 " + kind + " 3 = 3", "put 4 1 " + put + " = 1");
        long before = run.answer("get 4 1");
        run.row("turn 4 " + newKind, can ? 1 : -21).row("kind 4", can ? newKind : kind).row("get 4 1", can ? told : before);
        run.rows("length 4 = 3", "get 4 0 = 0", "get 4 2 = 0");
    }

    private static void turnOfWholes() {
        for (int kind = 0; kind < 5; kind++) {
            for (int newKind = 0; newKind < 5; newKind++) {
                for (long end : new long[] {LEAST[newKind], MOST[newKind], LEAST[kind], MOST[kind]}) {
                    for (long v = end - 1; v != end + 2; v++) {
                        if (v >= LEAST[kind] && v <= MOST[kind]) {
                            turned("turn: numbers at the ends of " + kind + " and " + newKind, kind, v, newKind,
                                    v >= LEAST[newKind] && v <= MOST[newKind], v);
                        }
                    }
                }
            }
        }
    }

    private static void turnToFloats() {
        String sentence = "turn: 0 .. 4 to 5: v as a float is v just";
        long[] can = {0, 1, -1, 16777215, 16777216, 16777218, 33554432, 33554436, 2147483520L, 2147483648L, 1L << 53, 1L << 59};
        long[] cannot = {16777217, 16777219, 33554433, 33554434, 2147483521L, 2147483647L, (1L << 53) - 1, (1L << 59) + 1, (1L << 59) - 1};
        for (int sign = -1; sign < 2; sign += 2) {
            for (long v : can) {
                turned(sentence, 4, sign * v, 5, true, 8 * sign * v);
            }
            for (long v : cannot) {
                turned(sentence, 4, sign * v, 5, false, 0);
            }
        }
        turned(sentence, 3, 16777217, 5, false, 0);
        turned(sentence, 3, Integer.MAX_VALUE, 5, false, 0);
        turned(sentence, 3, Integer.MIN_VALUE, 5, true, -8L << 31);
        turned(sentence, 4, Long.MAX_VALUE, 5, false, 0);
        turned(sentence, 4, Long.MAX_VALUE - (1L << 39) + 1, 5, true, Long.MAX_VALUE);
        turned(sentence, 4, Long.MAX_VALUE - (1L << 38) + 1, 5, false, 0);
        turned(sentence, 4, Long.MIN_VALUE, 5, true, Long.MIN_VALUE);
        turned(sentence, 4, Long.MIN_VALUE + 1, 5, false, 0);
        for (int kind = 0; kind < 3; kind++) {
            turned(sentence, kind, LEAST[kind], 5, true, 8 * LEAST[kind]);
            turned(sentence, kind, MOST[kind], 5, true, 8 * MOST[kind]);
        }
    }

    private static void turnToDoubles() {
        String sentence = "turn: 0 .. 4 to 6: v as a double is v just";
        for (int kind = 0; kind < 4; kind++) {
            turned(sentence, kind, LEAST[kind], 6, true, 8 * LEAST[kind]);
            turned(sentence, kind, MOST[kind], 6, true, 8 * MOST[kind]);
        }
        long edge = 1L << 53;
        for (int sign = -1; sign < 2; sign += 2) {
            turned(sentence, 4, sign * (edge - 1), 6, true, 8 * sign * (edge - 1));
            turned(sentence, 4, sign * edge, 6, true, 8 * sign * edge);
            turned(sentence, 4, sign * (edge + 1), 6, false, 0);
            turned(sentence, 4, sign * (edge + 2), 6, true, 8 * sign * (edge + 2));
            turned(sentence, 4, sign * (edge + 3), 6, false, 0);
        }
        turned(sentence, 4, Long.MAX_VALUE, 6, false, 0);
        turned(sentence, 4, Long.MAX_VALUE - 1023, 6, true, Long.MAX_VALUE);
        turned(sentence, 4, Long.MAX_VALUE - 1022, 6, false, 0);
        turned(sentence, 4, Long.MAX_VALUE - 511, 6, false, 0);
        turned(sentence, 4, Long.MIN_VALUE, 6, true, Long.MIN_VALUE);
        turned(sentence, 4, Long.MIN_VALUE + 1, 6, false, 0);
        turned(sentence, 4, Long.MIN_VALUE + 1024, 6, true, Long.MIN_VALUE);
    }

    private static void turnOfRealsToWholes() {
        String sentence = "turn: KINDS 5, 6 to 0 .. 4: wholes within these";
        for (int kind = 5; kind < 7; kind++) {
            for (int newKind = 0; newKind < 5; newKind++) {
                for (int eighths = 1; eighths < 8; eighths++) {
                    turned(sentence, kind, eighths, newKind, false, 0);
                    turned(sentence, kind, -eighths, newKind, false, 0);
                }
                turned(sentence, kind, 8, newKind, true, 1);
                turned(sentence, kind, -8, newKind, newKind != 2, -1);
            }
            for (int newKind = 0; newKind < 3; newKind++) {
                for (long end : new long[] {LEAST[newKind], MOST[newKind]}) {
                    for (long eighths = 8 * end - 8; eighths <= 8 * end + 8; eighths++) {
                        boolean can = eighths % 8 == 0 && eighths / 8 >= LEAST[newKind] && eighths / 8 <= MOST[newKind];
                        turned(sentence, kind, eighths, newKind, can, eighths / 8);
                    }
                }
            }
        }
    }

    private static void turnOfRealsAtTheEndsOfInts() {
        String sentence = "turn: KINDS 5, 6 to 3: wholes within these";
        long edge = 1L << 31;
        for (long eighths = 8 * edge - 16; eighths <= 8 * edge + 8; eighths++) {
            turned(sentence, 6, eighths, 3, eighths % 8 == 0 && eighths / 8 < edge, eighths / 8);
            turned(sentence, 6, -eighths, 3, eighths % 8 == 0 && eighths / 8 <= edge, -eighths / 8);
        }
        turned(sentence, 5, 8 * (edge - 128), 3, true, edge - 128);
        turned(sentence, 5, 8 * edge, 3, false, 0);
        turned(sentence, 5, -8 * edge, 3, true, -edge);
        turned(sentence, 5, -8 * (edge + 256), 3, false, 0);
    }

    private static void turnOfRealsToLongs() {
        String sentence = "turn: KINDS 5, 6 to 4: all their wholes are longs";
        for (int kind = 5; kind < 7; kind++) {
            turned(sentence, kind, Long.MAX_VALUE, 4, true, 1L << 60);
            turned(sentence, kind, Long.MIN_VALUE, 4, true, -(1L << 60));
            Run.of(sentence, "make 0 4 2 = 2", "put 0 0 MIN = 1", "put 0 1 4611686018427387904 = 1", "turn 0 " + kind + " = 1",
                    "turn 0 4 = 1", "get 0 0 = MIN", "get 0 1 = 4611686018427387904", "turn 0 " + kind + " = 1", "turn 0 3 = -20");
        }
        Run.of(sentence, "make 0 4 1 = 1", "put 0 0 " + (Long.MAX_VALUE - 1023) + " = 1", "turn 0 6 = 1", "get 0 0 = MAX", "turn 0 4 = 1",
                "get 0 0 = " + (Long.MAX_VALUE - 1023));
    }

    private static void turnOfDoublesToFloats() {
        String sentence = "turn: 6 to 5: the float is that just";
        long[] can = {0, 1, 7, 16777215, 16777216, 16777218, 1L << 53, Long.MAX_VALUE};
        long[] cannot = {16777217, 16777219, 33554434, (1L << 53) - 1, (1L << 60) + (1L << 36)};
        for (long v : can) {
            turned(sentence, 6, v, 5, true, v);
            turned(sentence, 6, -v, 5, true, v == Long.MAX_VALUE ? Long.MIN_VALUE : -v);
        }
        for (long v : cannot) {
            turned(sentence, 6, v, 5, false, 0);
            turned(sentence, 6, -v, 5, false, 0);
        }
    }

    private static void turnOfFloatsToDoubles() {
        long[] told = {16777217, 16777216, 16777219, 16777220, 1, 1, -5, -5, Long.MAX_VALUE, Long.MAX_VALUE,
            Long.MIN_VALUE, Long.MIN_VALUE};
        for (int k = 0; k < told.length; k += 2) {
            turned("turn: 5 to 6: each CELL just as it is", 5, told[k], 6, true, told[k + 1]);
        }
    }

    private static void turnToItsOwn() {
        for (int kind = 0; kind < 7; kind++) {
            for (String v : new String[] {"0", "-1", "3", "MAX", "MIN", "16777217"}) {
                Run run = Run.of("turn: or its own", "make 0 " + kind + " 1 = 1", "put 0 0 " + v + " = 1");
                long told = run.answer("get 0 0");
                run.row("turn 0 " + kind, 1).row("kind 0", kind).row("get 0 0", told);
            }
        }
    }

    private static void turnTellsTheFirstThatCannot() {
        for (int first = 0; first < 40; first++) {
            Run run = Run.of("turn: else -20 less the first that can't", "make 0 3 40 = 40", "put 0 39 256 = 1",
                    "put 0 " + first + " 128 = 1");
            run.row("turn 0 0", -20 - first).row("kind 0", 3).row("get 0 " + first, 128).row("sum 0 3", first == 39 ? 128 : 384);
            run.rows("turn 0 6 = 1", "put 0 " + first + " 3 = 1").row("turn 0 4", -20 - first).row("kind 0", 6);
        }
    }

    private static void turnOfNoCells() {
        for (int kind = 0; kind < 7; kind++) {
            for (int newKind = 0; newKind < 7; newKind++) {
                Run.of("turn: each CELL of none", "make 0 " + kind + " 0 = 0", "turn 0 " + newKind + " = 1", "kind 0 = " + newKind,
                        "length 0 = 0");
            }
        }
    }

    private static void turnCountsTheNumbersThemselves() {
        Run.of("turn: The numbers themselves (v / 8 in 5 and 6) count, not how they are told", "make 0 5 2 = 2", "put 0 0 1024 = 1",
                "turn 0 0 = -20", "put 0 0 1016 = 1", "turn 0 0 = 1", "get 0 0 = 127", "turn 0 6 = 1", "get 0 0 = 1016",
                "put 0 1 -1024 = 1", "turn 0 0 = 1", "get 0 1 = -128", "turn 0 2 = -21", "turn 0 5 = 1", "get 0 1 = -1024");
        for (int kind = 5; kind < 7; kind++) {
            Run.of("turn: not how they are told", "make 0 4 1 = 1", "make 1 4 1 = 1", "put 0 0 1152921504606846976 = 1",
                    "put 1 0 2305843009213693952 = 1", "turn 0 " + kind + " = 1", "turn 1 " + kind + " = 1", "get 0 0 = MAX",
                    "get 1 0 = MAX", "turn 0 4 = 1", "turn 1 4 = 1", "get 0 0 = 1152921504606846976", "get 1 0 = 2305843009213693952");
        }
    }

    private static void turnInTheWay() {
        String sentence = "turn: BAD; GONE: no COLUMN; OTHER: a SHELF; GONE";
        for (String kind : new String[] {"-1", "7", "8", "9", "10", "min", "max"}) {
            Run.of(sentence, "turn 0 " + kind + " = BAD", "make 0 7 1 = 1", "turn 0 " + kind + " = BAD", "make 0 3 1 = 1",
                    "turn 0 " + kind + " = BAD", "let 0 = 1", "turn 0 " + kind + " = BAD", "kind 0 = 3", "turn 24 " + kind + " = BAD");
        }
        for (int kind = 0; kind < 7; kind++) {
            for (int shelf = 7; shelf < 10; shelf++) {
                Run.of(sentence, "turn 24 " + kind + " = BAD", "turn 0 " + kind + " = GONE", "make 0 " + shelf + " 0 = 0",
                        "turn 0 " + kind + " = OTHER", "let 0 = 0", "turn 0 " + kind + " = OTHER", "kind 0 = " + shelf, "drop 0 = 1",
                        "turn 0 " + kind + " = GONE");
            }
            for (int of = 0; of < 7; of++) {
                Run.of(sentence, "make 0 " + of + " 1 = 1", "let 0 = 1", "turn 0 " + kind + " = GONE", "kind 0 = " + of);
            }
        }
    }
}
