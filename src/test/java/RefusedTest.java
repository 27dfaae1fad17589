import java.util.Arrays;

/**
 * 'What is in the way changes nothing (but for copy(), where CELLS ahead of it stay copied, and what copied() tells)',
 * and of two things in the way at once the one is told that the promise names first.
 */
public final class RefusedTest {
    /**
     * PLACES 0 .. 6: NUMBERS of each KIND; 7 .. 9: SHELVES of each KIND; 10: INTS LET GO; 11: a SHELF LET GO;
     * 12, 13: INTS and a SHELF without CELLS; 14: none; 23: 40 LONGS. PARTS 0 PLAIN, 1 RIGID with a FAULT, 2 SOFT.
     */
    private static final String[] STATE = {"part 0 1000 = 0", "part 1 0 = 1", "part 2 7 = 2", "fault 1 9 = 1", "make 0 0 3 = 3",
            "put 0 0 127 = 1", "put 0 1 -128 = 1", "make 1 1 3 = 3", "put 1 1 32767 = 1", "make 2 2 3 = 3", "put 2 2 65535 = 1",
            "make 3 3 3 = 3", "put 3 1 128 = 1", "put 3 2 16777217 = 1", "make 4 4 3 = 3", "put 4 0 MIN = 1", "put 4 1 MAX = 1",
            "make 5 5 3 = 3", "put 5 0 16777216 = 1", "put 5 1 -3 = 1", "make 6 6 3 = 3", "put 6 0 8 = 1", "put 6 1 16777217 = 1",
            "make 7 7 3 = 3", "lay 7 0 1 = 1", "lay 7 2 0 = 1", "make 8 8 3 = 3", "lay 8 1 1 = 1", "make 9 9 3 = 3", "lay 9 2 2 = 1",
            "make 10 3 2 = 2", "let 10 = 2", "make 11 8 2 = 2", "let 11 = 2", "make 12 3 0 = 0", "make 13 7 0 = 0", "make 23 4 40 = 40",
            "put 23 39 5 = 1", "copy 23 38 23 37 2 = 2"};

    public static void main(String[] args) {
        Twins twins = new Twins(STATE);
        columns(twins);
        numbers(twins);
        parts(twins);
        fromOneToAnother(twins);
        everyCallThatOnlyTells(twins);
        full();
        storeLeavesTheRest();
        Due.end();
    }

    private static void columns(Twins twins) {
        twins.changesNothing("make: BAD: also n is above 40; BELOW", "make 24 3 2 = BAD", "make -1 3 2 = BAD", "make 3 10 2 = BAD",
                "make 3 -1 2 = BAD", "make 3 4 41 = BAD", "make 3 4 max = BAD", "make 3 4 -1 = BELOW", "make 14 4 -1 = BELOW",
                "make 10 4 min = BELOW", "make 24 3 -1 = BAD", "make 3 10 -1 = BAD");
        twins.changesNothing("let: BAD; GONE: also it was so", "let 24 = BAD", "let -1 = BAD", "let 14 = GONE", "let 10 = GONE",
                "let 11 = GONE");
        twins.changesNothing("drop: 0 if it had none. BAD", "drop 14 = 0", "drop 24 = BAD", "drop -1 = BAD");
        twins.changesNothing("kind, length: BAD; GONE", "kind 24 = BAD", "kind 14 = GONE", "length 24 = BAD", "length 14 = GONE",
                "length 10 = GONE");
    }

    private static void numbers(Twins twins) {
        twins.changesNothing("put: BAD; GONE: no COLUMN; OTHER: a SHELF; GONE: LET GO; OUT", "put 24 0 1 = BAD", "put -1 -1 1 = BAD",
                "put 14 0 1 = GONE", "put 14 -1 1 = GONE", "put 7 0 1 = OTHER", "put 8 3 1 = OTHER", "put 11 0 1 = OTHER",
                "put 11 9 1 = OTHER", "put 10 0 1 = GONE", "put 10 -1 1 = GONE", "put 3 3 1 = OUT", "put 3 -1 1 = OUT", "put 12 0 1 = OUT",
                "put 23 40 1 = OUT");
        twins.changesNothing("get: NullPointerException; ArrayIndexOutOfBoundsException", "get 24 0 = BOUNDS", "get -1 0 = BOUNDS",
                "get 14 0 = NULL", "get 14 -1 = NULL", "get 10 0 = NULL", "get 10 2 = NULL", "get 11 9 = NULL", "get 7 1 = NULL",
                "get 3 3 = BOUNDS", "get 7 3 = BOUNDS", "get 12 0 = BOUNDS", "get 13 -1 = BOUNDS", "get 23 40 = BOUNDS");
        twins.changesNothing("sum: BAD; GONE: no COLUMN; CAST: it is of another KIND; GONE", "sum 24 3 = BAD", "sum 3 7 = BAD",
                "sum 7 7 = BAD", "sum 14 10 = BAD", "sum 14 3 = GONE", "sum 3 4 = CAST", "sum 7 3 = CAST", "sum 10 4 = CAST",
                "sum 11 0 = CAST", "sum 10 3 = GONE");
        twins.changesNothing("turn: BAD; GONE: no COLUMN; OTHER: a SHELF; GONE", "turn 24 3 = BAD", "turn 3 7 = BAD", "turn 14 -1 = BAD",
                "turn 7 7 = BAD", "turn 10 8 = BAD", "turn 14 3 = GONE", "turn 7 3 = OTHER", "turn 11 3 = OTHER", "turn 10 3 = GONE",
                "turn 10 4 = GONE");
        twins.changesNothing("turn: else -20 less the first that can't", "turn 0 2 = -21", "turn 1 0 = -21", "turn 2 1 = -22",
                "turn 3 0 = -21", "turn 3 5 = -22", "turn 4 3 = -20", "turn 4 5 = -21", "turn 4 6 = -21", "turn 5 4 = -21",
                "turn 6 4 = -21", "turn 6 5 = -21");
    }

    private static void parts(Twins twins) {
        twins.changesNothing("part: BAD", "part -1 5 = BAD", "part 3 5 = BAD", "part 0 -1 = BAD", "part 0 1001 = BAD");
        twins.changesNothing("lay: BAD; GONE: no COLUMN; OTHER: no SHELF; GONE: LET GO; OUT; STORE", "lay 24 0 0 = BAD", "lay 7 0 3 = BAD",
                "lay 7 0 -2 = BAD", "lay 14 0 3 = BAD", "lay 3 0 3 = BAD", "lay 11 0 3 = BAD", "lay 7 3 3 = BAD", "lay 14 0 0 = GONE",
                "lay 14 -1 -1 = GONE", "lay 3 0 1 = OTHER", "lay 3 3 -1 = OTHER", "lay 10 0 1 = OTHER", "lay 11 0 0 = GONE",
                "lay 11 2 1 = GONE", "lay 11 0 -1 = GONE", "lay 8 3 0 = OUT", "lay 8 -1 1 = OUT", "lay 8 3 -1 = OUT", "lay 13 0 0 = OUT",
                "lay 8 1 0 = STORE", "lay 8 0 2 = STORE", "lay 9 2 0 = STORE", "lay 9 0 1 = STORE");
        for (String call : new String[] {"weigh", "rigid", "raise"}) {
            twins.changesNothing(call + ": BAD; GONE: no COLUMN; OTHER: no SHELF; GONE: LET GO; OUT; GONE: EMPTY", call + " 24 0 = BAD",
                    call + " -1 -1 = BAD", call + " 14 0 = GONE", call + " 14 -1 = GONE", call + " 3 0 = OTHER", call + " 3 3 = OTHER",
                    call + " 10 0 = OTHER", call + " 11 0 = GONE", call + " 11 2 = GONE", call + " 7 3 = OUT", call + " 7 -1 = OUT",
                    call + " 13 0 = OUT", call + " 7 1 = GONE");
        }
        twins.changesNothing("rigid: CAST: it is not RIGID", "rigid 7 2 = CAST", "rigid 9 2 = CAST");
        twins.changesNothing("raise: GONE: also it has none", "raise 7 2 = GONE", "raise 9 2 = GONE");
        twins.changesNothing("fault: BAD", "fault 3 0 = BAD", "fault -1 0 = BAD", "fault 1 10 = BAD", "fault 1 -2 = BAD",
                "fault 3 10 = BAD");
    }

    private static void fromOneToAnother(Twins twins) {
        twins.changesNothing("copy: BAD: PLACES alone", "copy 24 0 3 0 1 = BAD", "copy 3 0 24 0 1 = BAD", "copy -1 -1 14 0 1 = BAD");
        twins.changesNothing("copy: GONE; OTHER; OUT", "copy 14 0 3 0 1 = GONE", "copy 3 0 14 0 1 = GONE", "copy 10 0 3 0 1 = GONE",
                "copy 3 0 10 0 1 = GONE", "copy 11 0 3 0 1 = GONE", "copy 7 0 10 -1 1 = GONE", "copy 3 0 4 0 1 = OTHER",
                "copy 5 0 6 0 3 = OTHER", "copy 1 0 2 0 3 = OTHER", "copy 3 0 7 0 1 = OTHER", "copy 7 0 3 0 1 = OTHER",
                "copy 7 -1 3 0 9 = OTHER", "copy 23 0 4 0 4 = OUT", "copy 4 0 23 38 3 = OUT", "copy 4 -1 23 0 1 = OUT",
                "copy 4 0 23 -1 1 = OUT", "copy 4 0 23 0 -1 = OUT", "copy 7 0 9 0 4 = OUT", "copy 7 0 9 1 3 = OUT", "copy 4 0 4 1 3 = OUT");
        twins.changesNothing("copy: STORE at the very first", "copy 7 0 9 0 3 = STORE", "copy 7 2 8 0 1 = STORE", "copy 8 1 9 1 2 = STORE",
                "copy 9 2 8 1 1 = STORE");
        twins.changesNothing("move: BAD", "move 4 0 o666666 = BAD", "move -1 0 o666666 = BAD", "move 0 4 0 = BAD", "move 0 -1 0 = BAD",
                "move 0 1 -1 = BAD", "move 0 1 262144 = BAD");
        twins.changesNothing("move: 7: as it was", "move 0 0 o777777 = 6", "move 1 0 o777777 = 6", "move 3 1 o777777 = 6",
                "move 0 0 o543210 = 6", "move 1 1 o543210 = 6");
        twins.changesNothing("like: BAD; GONE", "like 24 3 = BAD", "like 3 24 = BAD", "like 24 14 = BAD", "like 3 14 = GONE",
                "like 14 3 = GONE", "like 3 10 = GONE", "like 11 8 = GONE");
        twins.changesNothing("told: BAD", "told -1 = BAD", "told 4 = BAD");
    }

    private static void everyCallThatOnlyTells(Twins twins) {
        twins.changesNothing("calls that tell change nothing", "kind 3 = 3", "kind 10 = 3", "length 23 = 40", "length 12 = 0",
                "get 4 0 = MIN", "get 5 1 = -3", "get 7 0 = 1", "sum 3 3 = 16777345", "sum 6 6 = 16777225", "weigh 7 0 = 6",
                "weigh 9 2 = 4", "rigid 8 1 = 2", "raise 7 0 = -39", "copied = 2", "like 3 3 = 1", "like 3 4 = 0", "like 7 8 = 0",
                "told 0 = 15", "told 1 = 70", "told 2 = 3", "told 3 = 4");
    }

    private static void full() {
        String[] ahead = new String[42];
        for (int part = 0; part < 40; part++) {
            ahead[part] = "part " + part % 3 + " " + 25 * part + " = " + part;
        }
        ahead[40] = "make 5 7 1 = 1";
        ahead[41] = "lay 5 0 39 = 1";
        new Twins(ahead).changesNothing("part: BAD; FULL", "part 0 0 = FULL", "part 2 1000 = FULL", "part 3 0 = BAD", "part -1 0 = BAD",
                "part 0 -1 = BAD", "part 0 1001 = BAD", "fault 40 1 = BAD", "lay 5 0 40 = BAD", "lay 5 1 39 = OUT");
    }

    /** copy() up to what is in the way changes what a copy of the CELLS ahead of it changes, and nothing else. */
    private static void storeLeavesTheRest() {
        String[] ahead = {"part 0 1 = 0", "part 1 1 = 1", "part 2 1 = 2", "make 0 7 4 = 4", "make 1 8 4 = 4", "lay 0 0 1 = 1",
                "lay 0 2 2 = 1", "lay 0 3 1 = 1", "lay 1 1 1 = 1", "lay 1 2 1 = 1"};
        new Twins(with(ahead, "copy 0 0 1 0 2 = 2")).sameAs("copy: CELLS ahead of it stay copied", with(ahead, "copy 0 0 1 0 4 = STORE"));
        Run.of("copy: CELLS ahead of it stay copied", ahead).rows("copy 0 0 1 0 4 = STORE", "copied = 2", "get 1 0 = 1", "get 1 1 = NULL",
                "get 1 2 = 1", "get 1 3 = NULL", "get 0 0 = 1", "get 0 1 = NULL", "get 0 2 = 2", "get 0 3 = 1", "rigid 0 0 = 4",
                "weigh 0 2 = 1", "told 3 = 5");
    }

    private static String[] with(String[] rows, String last) {
        String[] all = Arrays.copyOf(rows, rows.length + 1);
        all[rows.length] = last;
        return all;
    }
}
