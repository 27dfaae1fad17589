/** The boundary cases that the document names in its 'Terms', a method for each sentence. */
public final class EdgesOfTermsTest {
    private static final String[] OUTSIDE = {"-1", "24", "min", "max"};

    public static void main(String[] args) {
        placesTaken();
        placesRefused();
        placesAreApart();
        sixPlacesForEachMapping();
        noColumnAtFirst();
        cells();
        letGo();
        kinds();
        lowestBits();
        nearestFloat();
        nearestDouble();
        behindThePoint();
        beyondAllLongs();
        partsNumberedAsTheyCome();
        weights();
        rigidWeighed();
        softWeighed();
        faults();
        onePartInMany();
        Due.end();
    }

    private static void placesTaken() {
        for (int place : new int[] {0, 23}) {
            String p = " " + place;
            Run.of("PLACES are 0 .. 23: the ends are taken", "part 1 5 = 0", "make" + p + " 3 2 = 2", "make 11 3 2 = 2",
                    "kind" + p + " = 3", "length" + p + " = 2", "put" + p + " 0 7 = 1", "get" + p + " 0 = 7", "sum" + p + " 3 = 7",
                    "like" + p + " 11 = 0", "like 11" + p + " = 0", "copy" + p + " 0 11 0 1 = 1", "like" + p + " 11 = 1",
                    "copy 11 0" + p + " 1 1 = 1", "get" + p + " 1 = 7", "turn" + p + " 4 = 1", "kind" + p + " = 4", "let" + p + " = 2",
                    "drop" + p + " = 1", "drop" + p + " = 0", "make" + p + " 8 1 = 1", "lay" + p + " 0 0 = 1", "weigh" + p + " 0 = 8",
                    "rigid" + p + " 0 = 1", "fault 0 2 = 1", "raise" + p + " 0 = -32", "get" + p + " 0 = 0");
        }
    }

    private static void placesRefused() {
        String[] calls = {"make P 0 1", "let P", "drop P", "kind P", "length P", "put P 0 1", "sum P 3", "turn P 3", "lay P 0 0",
                "weigh P 0", "rigid P 0", "raise P 0", "copy P 0 11 0 1", "copy 11 0 P 0 1", "like P 11", "like 11 P"};
        for (String place : OUTSIDE) {
            Run run = Run.of("PLACES are 0 .. 23: the next are refused", "part 1 5 = 0", "make 11 3 2 = 2");
            for (String call : calls) {
                run.rows(call.replace("P", place) + " = BAD");
            }
            run.rows("get " + place + " 0 = BOUNDS", "told 0 = 1", "told 1 = 2");
        }
    }

    private static void placesAreApart() {
        Run run = new Run("PLACES are 0 .. 23: each is one of its own");
        for (int place = 0; place < 24; place++) {
            run.row("make " + place + " 3 " + (place + 1), place + 1);
            run.row("put " + place + " " + place + " " + (100 + place), 1);
        }
        for (int place = 0; place < 24; place++) {
            run.row("length " + place, place + 1);
            run.row("get " + place + " " + place, 100 + place);
        }
        for (int place = 0; place < 24; place++) {
            run.row("told 0", 24 - place);
            run.row("drop " + place, 1);
        }
    }

    private static void sixPlacesForEachMapping() {
        for (int a = 0; a < 4; a++) {
            for (int b = 0; b < 4; b++) {
                Run run = new Run("6 for each of four MAPPINGS (6 * MAPPING + its FIELD): " + a + " to " + b);
                for (int place = 0; place < 24; place++) {
                    run.row("make " + place + " 0 " + place, place);
                }
                run.row("move " + a + " " + b + " o543210", 6);
                for (int place = 0; place < 24; place++) {
                    run.row("length " + place, place / 6 == b ? 6 * a + place % 6 : place);
                }
            }
        }
    }

    private static void noColumnAtFirst() {
        Run run = new Run("A PLACE has no COLUMN at first");
        for (int place = 0; place < 24; place++) {
            run.rows("kind " + place + " = GONE", "length " + place + " = GONE", "get " + place + " 0 = NULL", "drop " + place + " = 0");
        }
    }

    private static void cells() {
        for (int kind = 0; kind < 10; kind++) {
            for (int n : new int[] {0, 1, 39, 40}) {
                Run run = new Run("0 .. 40 CELLS, numbered from 0: " + n + " of KIND " + kind);
                run.row("part " + (kind == 9 ? 2 : 1) + " 5", 0).row("make 3 " + kind + " " + n, n).row("length 3", n);
                String set = kind < 7 ? "put 3 " : "lay 3 ";
                for (int i = 0; i < n; i++) {
                    run.rows("get 3 " + i + " = " + (kind < 7 ? "0" : "NULL"), set + i + " 0 = 1", "get 3 " + i + " = 0");
                }
                for (String i : new String[] {"-1", "" + n, "min", "max"}) {
                    run.rows(set + i + " 0 = OUT", "get 3 " + i + " = BOUNDS");
                }
            }
            Run.of("0 .. 40 CELLS: no others", "make 3 " + kind + " -1 = BELOW", "make 3 " + kind + " min = BELOW",
                    "make 3 " + kind + " 41 = BAD", "make 3 " + kind + " max = BAD", "kind 3 = GONE");
        }
    }

    private static void letGo() {
        for (int kind = 0; kind < 10; kind++) {
            for (int n : new int[] {0, 1, 40}) {
                Run.of("it may be LET GO: its KIND stays, its CELLS are gone", "make 3 " + kind + " " + n + " = " + n, "let 3 = " + n,
                        "kind 3 = " + kind, "length 3 = GONE", "get 3 0 = NULL", "let 3 = GONE", "told 0 = 1", "told 1 = 0", "told 3 = 0");
            }
        }
    }

    private static void kinds() {
        for (int kind = 0; kind < 10; kind++) {
            Run.of("KINDS: 0 .. 9", "make 3 " + kind + " 1 = 1", "kind 3 = " + kind);
        }
        for (String kind : new String[] {"-1", "10", "min", "max"}) {
            Run.of("KINDS: 0 .. 9, no others", "make 3 " + kind + " 1 = BAD", "kind 3 = GONE", "make 3 0 1 = 1", "sum 3 " + kind + " = BAD",
                    "turn 3 " + kind + " = BAD", "kind 3 = 0");
        }
    }

    /** What a CELL of a KIND tells that was put: pairs of both. */
    private static void told(String sentence, int kind, long... pairs) {
        for (int k = 0; k < pairs.length; k += 2) {
            Run.of(sentence, "make 5 " + kind + " 3 = 3", "put 5 1 " + pairs[k] + " = 1", "get 5 1 = " + pairs[k + 1], "get 5 0 = 0",
                    "get 5 2 = 0");
        }
    }

    private static void lowestBits() {
        long most = Long.MAX_VALUE;
        long least = Long.MIN_VALUE;
        told("BYTES: the lowest 8 bits, with sign", 0, 0, 0, 127, 127, 128, -128, 129, -127, 255, -1, 256, 0, -1, -1,
                -128, -128, -129, 127, -256, 0, 0x123456789ABCDE7FL, 127, 0x123456789ABCDE80L, -128, most, -1, least, 0);
        told("SHORTS: the lowest 16 bits, with sign", 1, 32767, 32767, 32768, -32768, 65535, -1, 65536, 0, -1, -1,
                -32768, -32768, -32769, 32767, 0x123456789ABC7FFFL, 32767, 0x123456789ABC8000L, -32768, most, -1, least, 0);
        told("CHARS: the lowest 16 bits, without sign", 2, 32767, 32767, 32768, 32768, 65535, 65535, 65536, 0, 65537, 1,
                -1, 65535, -32768, 32768, -65536, 0, 0x123456789ABCFFFFL, 65535, most, 65535, least, 0);
        told("INTS: the lowest 32 bits", 3, 2147483647L, 2147483647L, 2147483648L, -2147483648L, 4294967295L, -1,
                4294967296L, 0, -2147483648L, -2147483648L, -2147483649L, 2147483647L, most, -1, least, 0);
        told("LONGS: all 64 bits", 4, most, most, least, least, -1, -1, 1L << 32, 1L << 32, most - 1, most - 1, least + 1, least + 1);
    }

    private static void nearestFloat() {
        String sentence = "one of 5 gets v as a float (the nearest one)";
        told(sentence, 5, 16777215, 16777215, 16777216, 16777216, 16777217, 16777216, 16777218, 16777218, 16777219, 16777220,
                -16777217, -16777216, -16777219, -16777220, 33554434, 33554432, 33554435, 33554436);
        told(sentence + ", not by way of a double", 5, (1L << 60) + (1L << 36) + 1, (1L << 60) + (1L << 37),
                -(1L << 60) - (1L << 36) - 1, -(1L << 60) - (1L << 37), (1L << 60) + (1L << 36), 1L << 60);
        told(sentence + " near the ends", 5, Long.MAX_VALUE, Long.MAX_VALUE, Long.MIN_VALUE, Long.MIN_VALUE,
                Long.MAX_VALUE - (1L << 38), Long.MAX_VALUE - (1L << 39) + 1, Long.MAX_VALUE - (1L << 38) + 1, Long.MAX_VALUE);
    }

    private static void nearestDouble() {
        String sentence = "one of 6 gets v as a double";
        long edge = 1L << 53;
        told(sentence, 6, edge - 1, edge - 1, edge, edge, edge + 1, edge, edge + 2, edge + 2, edge + 3, edge + 4,
                -edge - 1, -edge, -edge - 3, -edge - 4, 16777217, 16777217);
        told(sentence + " near the ends", 6, Long.MAX_VALUE, Long.MAX_VALUE, Long.MIN_VALUE, Long.MIN_VALUE,
                Long.MAX_VALUE - 512, Long.MAX_VALUE - 1023, Long.MAX_VALUE - 511, Long.MAX_VALUE,
                Long.MIN_VALUE + 512, Long.MIN_VALUE, Long.MIN_VALUE + 513, Long.MIN_VALUE + 1024);
    }

    private static void behindThePoint() {
        for (int kind = 5; kind < 7; kind++) {
            for (long v = -17; v < 18; v++) {
                told("they tell themselves times 8", kind, v, v);
            }
        }
    }

    private static void beyondAllLongs() {
        long eighth = 1L << 60;
        for (int kind = 5; kind < 7; kind++) {
            long below = kind == 5 ? 1L << 36 : 128;
            long above = 2 * below;
            long[][] pairs = {{eighth, Long.MAX_VALUE}, {eighth - below, Long.MAX_VALUE - 8 * below + 1},
                {eighth + above, Long.MAX_VALUE}, {1L << 62, Long.MAX_VALUE}, {-eighth, Long.MIN_VALUE},
                {-eighth + below, Long.MIN_VALUE + 8 * below}, {-eighth - above, Long.MIN_VALUE},
                {Long.MIN_VALUE, Long.MIN_VALUE}};
            for (long[] pair : pairs) {
                Run.of("what is beyond all longs as the greatest or least one", "make 2 4 1 = 1", "put 2 0 " + pair[0] + " = 1",
                        "turn 2 " + kind + " = 1", "get 2 0 = " + pair[1], "turn 2 4 = 1", "get 2 0 = " + pair[0]);
            }
        }
    }

    private static void partsNumberedAsTheyCome() {
        Run run = new Run("PARTS 0 .. 39, numbered as they come");
        run.rows("make 0 7 1 = 1", "lay 0 0 0 = BAD", "fault 0 0 = BAD");
        for (int part = 0; part < 40; part++) {
            run.rows("part 3 0 = BAD", "part 0 -1 = BAD", "part " + part % 3 + " " + part + " = " + part, "lay 0 0 " + part + " = 1",
                    "get 0 0 = " + part, "lay 0 0 " + (part + 1) + " = BAD", "fault " + part + " 0 = 1", "fault " + (part + 1) + " 0 = BAD",
                    "get 0 0 = " + part);
        }
        run.rows("part 0 0 = FULL", "told 2 = 40", "lay 0 0 39 = 1", "lay 0 0 40 = BAD", "lay 0 0 -2 = BAD", "lay 0 0 min = BAD",
                "lay 0 0 max = BAD", "fault -1 0 = BAD", "get 0 0 = 39");
    }

    private static void weights() {
        int[] taken = {0, 1, 999, 1000};
        for (int sort = 0; sort < 3; sort++) {
            for (int w : taken) {
                int weighed = sort == 0 ? w : sort == 1 ? w + 3 : w / 2 + 1;
                Run.of("a WEIGHT w (0 .. 1000)", "part " + sort + " " + w + " = 0", "make 0 7 1 = 1", "lay 0 0 0 = 1",
                        "weigh 0 0 = " + weighed);
            }
            for (String w : new String[] {"-1", "1001", "min", "max"}) {
                Run.of("a WEIGHT w (0 .. 1000): no other", "part " + sort + " " + w + " = BAD", "told 2 = 0");
            }
        }
    }

    private static void rigidWeighed() {
        Run run = Run.of("RIGID: w and 3 for each time it was LAID", "part 1 1000 = 0", "make 0 7 40 = 40", "make 1 8 40 = 40");
        for (int times = 1; times <= 80; times++) {
            int i = (times - 1) / 2;
            run.row("lay " + times % 2 + " " + i + " 0", 1);
            run.row("weigh " + times % 2 + " " + i, 1000 + 3 * times);
        }
    }

    private static void softWeighed() {
        for (int w : new int[] {0, 1, 2, 3, 999, 1000}) {
            Run run = Run.of("SOFT: half of w, and 1 for each odd time it was LAID", "part 2 " + w + " = 0", "make 0 9 1 = 1",
                    "make 1 7 1 = 1");
            int odd = 0;
            for (int times = 1; times <= 9; times++) {
                odd += times % 2;
                run.row("lay " + times % 2 + " 0 0", 1).row("weigh " + times % 2 + " 0", w / 2 + odd);
            }
            run.rows("lay 0 0 -1 = 1");
            run.row("weigh 1 0", w / 2 + odd).row("lay 0 0 0", 1).row("weigh 1 0", w / 2 + odd);
        }
    }

    private static void faults() {
        Run run = Run.of("a FAULT, a code 0 .. 9", "part 0 1 = 0", "make 0 7 1 = 1", "lay 0 0 0 = 1", "raise 0 0 = GONE");
        for (int code = 0; code < 10; code++) {
            run.row("fault 0 " + code, 1).row("raise 0 0", -30 - code);
        }
        for (String code : new String[] {"-2", "10", "min", "max"}) {
            run.rows("fault 0 " + code + " = BAD", "raise 0 0 = -39");
        }
    }

    private static void onePartInMany() {
        Run run = Run.of("one PART may lie in many", "part 1 7 = 0", "make 0 7 40 = 40", "lay 0 0 0 = 1");
        for (int i = 1; i < 40; i++) {
            run.row("copy 0 0 0 " + i + " 1", 1);
        }
        for (int mapping = 0; mapping < 4; mapping++) {
            run.row("move 0 " + mapping + " 0", 6);
        }
        for (int place = 0; place < 24; place++) {
            run.rows("get " + place + " 0 = 0", "get " + place + " 39 = 0", "weigh " + place + " 39 = 10");
        }
        run.rows("told 1 = 960", "told 2 = 1", "told 3 = 960", "fault 0 4 = 1", "raise 0 0 = -34", "raise 23 39 = -34");
    }
}
