/** An object is used for at most 512 calls: each call as the 512th, behind 511 that may have filled all that can be filled. */
public final class LastCallTest {
    public static void main(String[] args) {
        laidToTheLast();
        softLaidToTheLast();
        columnsToTheLast();
        refusedToTheLast();
        numbersToTheLast();
        turnedToTheLast();
        partsToTheLast();
        copiedToTheLast();
        movedToTheLast();
        thrownToTheLast();
        Due.end();
    }

    /** Rows ahead, then one row over and over up to the 511th call, then the last one. */
    private static void last(String sentence, String[] ahead, String again, String last) {
        Run run = Run.of("the 512th call: " + sentence, ahead);
        run.times(run.callsLeft() - 1, again).rows(last);
        Due.is(sentence + ": calls left", run.callsLeft(), 0);
    }

    private static String[] ahead(String... rows) {
        return rows;
    }

    private static void laidToTheLast() {
        String[] ahead = ahead("part 1 1000 = 0", "fault 0 9 = 1", "make 23 8 40 = 40");
        last("lay", ahead, "lay 23 39 0 = 1", "lay 23 39 0 = 1");
        last("rigid", ahead, "lay 23 39 0 = 1", "rigid 23 39 = 508");
        last("weigh", ahead, "lay 23 39 0 = 1", "weigh 23 39 = 2524");
        last("raise", ahead, "lay 23 39 0 = 1", "raise 23 39 = -39");
        last("get of a part", ahead, "lay 23 39 0 = 1", "get 23 39 = 0");
        last("told", ahead, "lay 23 39 0 = 1", "told 3 = 1");
        last("lay of none", ahead, "lay 23 39 0 = 1", "lay 23 39 -1 = 1");
    }

    private static void softLaidToTheLast() {
        last("weigh of SOFT, laid 508 times", ahead("part 2 1000 = 0", "make 0 7 1 = 1", "drop 1 = 0"), "lay 0 0 0 = 1", "weigh 0 0 = 754");
        last("weigh of SOFT, laid 509 times", ahead("part 2 1000 = 0", "make 0 7 1 = 1"), "lay 0 0 0 = 1", "weigh 0 0 = 755");
        last("weigh of SOFT, laid once", ahead("part 2 1 = 0", "make 0 9 1 = 1", "lay 0 0 0 = 1"), "lay 0 0 -2 = BAD", "weigh 0 0 = 1");
    }

    private static void columnsToTheLast() {
        last("make", ahead(), "make 23 9 40 = 40", "make 23 0 40 = 40");
        last("let", ahead(), "make 23 9 40 = 40", "let 23 = 40");
        last("drop", ahead(), "make 23 9 40 = 40", "drop 23 = 1");
        last("kind", ahead(), "make 23 9 40 = 40", "kind 23 = 9");
        last("length", ahead(), "make 23 9 40 = 40", "length 23 = 40");
        last("told of columns", ahead("make 22 0 1 = 1"), "make 23 9 40 = 40", "told 0 = 2");
        last("told of cells", ahead("make 22 0 1 = 1"), "make 23 9 40 = 40", "told 1 = 41");
        Run run = new Run("the 512th call: made and let go over and over");
        for (int k = 0; k < 127; k++) {
            run.rows("make 0 " + k % 10 + " 40 = 40", "let 0 = 40", "drop 0 = 1", "drop 0 = 0");
        }
        run.rows("make 0 3 40 = 40", "put 0 39 7 = 1", "sum 0 3 = 7", "told 1 = 40");
        Due.is("calls left", run.callsLeft(), 0);
    }

    private static void refusedToTheLast() {
        last("the first make", ahead(), "make 0 0 41 = BAD", "make 0 0 40 = 40");
        last("the first part", ahead(), "part 0 1001 = BAD", "part 0 1000 = 0");
        last("none was made", ahead(), "make 0 0 -1 = BELOW", "kind 0 = GONE");
        last("what is in the way counted for nothing", ahead("part 1 0 = 0", "make 0 8 1 = 1", "make 1 9 1 = 1", "lay 0 0 0 = 1"),
                "lay 1 0 0 = STORE", "rigid 0 0 = 1");
    }

    private static void numbersToTheLast() {
        String[] ahead = ahead("make 0 4 40 = 40", "put 0 0 MAX = 1", "copy 0 0 0 1 1 = 1", "copy 0 0 0 2 2 = 2", "copy 0 0 0 4 4 = 4",
                "copy 0 0 0 8 8 = 8", "copy 0 0 0 16 16 = 16", "copy 0 0 0 32 8 = 8");
        last("put", ahead, "sum 0 4 = -40", "put 0 39 MIN = 1");
        last("get", ahead, "put 0 39 MIN = 1", "get 0 39 = MIN");
        last("sum", ahead, "put 0 39 MIN = 1", "sum 0 4 = -39");
        last("like", ahead, "put 0 39 MIN = 1", "like 0 0 = 1");
    }

    private static void turnedToTheLast() {
        Run run = Run.of("the 512th call: turn, over and over", "make 0 0 40 = 40", "put 0 39 -128 = 1");
        for (int k = 0; k < 84; k++) {
            run.rows("turn 0 1 = 1", "turn 0 3 = 1", "turn 0 5 = 1", "turn 0 6 = 1", "turn 0 4 = 1", "turn 0 0 = 1");
        }
        run.rows("get 0 39 = -128", "sum 0 0 = -128", "turn 0 6 = 1", "get 0 39 = -1024", "turn 0 2 = -59", "turn 0 0 = 1");
        Due.is("calls left", run.callsLeft(), 0);
    }

    private static void partsToTheLast() {
        Run run = new Run("the 512th call: part");
        for (int part = 0; part < 40; part++) {
            run.row("part 1 1000", part);
        }
        run.times(471, "part 1 1000 = FULL").rows("part 1 1000 = FULL");
        Due.is("calls left", run.callsLeft(), 0);
        last("fault", ahead("part 0 0 = 0"), "fault 0 9 = 1", "fault 0 -1 = 1");
        last("raise of another fault", ahead("part 0 0 = 0", "make 0 7 1 = 1", "lay 0 0 0 = 1", "fault 0 0 = 1"), "raise 0 0 = -30",
                "raise 0 0 = -30");
        last("told of parts", ahead("part 0 0 = 0"), "part 0 1001 = BAD", "told 2 = 1");
    }

    private static void copiedToTheLast() {
        String[] ahead = ahead("part 1 1 = 0", "part 0 1 = 1", "make 0 7 40 = 40", "make 1 8 40 = 40", "lay 0 0 0 = 1", "lay 0 39 1 = 1");
        last("copy", ahead, "copy 0 0 1 0 40 = STORE", "copy 0 0 1 1 39 = 39");
        last("copied", ahead, "copy 0 0 1 0 40 = STORE", "copied = 39");
        last("copied, none of them BAD", ahead("make 0 3 40 = 40", "copy 0 0 0 1 39 = 39"), "copy 0 0 24 0 1 = BAD", "copied = 39");
        last("what was copied", ahead, "copy 0 0 1 39 1 = 1", "rigid 1 39 = 1");
    }

    private static void movedToTheLast() {
        String[] ahead = ahead("make 0 6 40 = 40", "put 0 39 7 = 1", "put 0 0 -1 = 1");
        last("move", ahead, "move 0 0 o432105 = 1", "move 0 3 o444444 = 6");
        // 508 times round: 508 is 4 more than 84 times 6.
        last("a column moved round", ahead, "move 0 0 o432105 = 1", "get 4 39 = 7");
        last("its kind", ahead, "move 0 0 o432105 = 1", "kind 4 = 6");
        last("none where it began", ahead, "move 0 0 o432105 = 1", "kind 0 = GONE");
        last("full mappings", ahead("make 0 6 40 = 40", "move 0 0 0 = 6", "move 0 1 0 = 6", "move 0 2 0 = 6"), "move 2 3 0 = 6",
                "told 1 = 960");
    }

    private static void thrownToTheLast() {
        last("get: NullPointerException", ahead(), "get 0 0 = NULL", "get 0 0 = NULL");
        last("get: ArrayIndexOutOfBoundsException", ahead(), "get 24 0 = BOUNDS", "get -1 0 = BOUNDS");
        last("get behind throws", ahead("make 0 3 1 = 1", "put 0 0 9 = 1"), "get 0 1 = BOUNDS", "get 0 0 = 9");
    }
}
