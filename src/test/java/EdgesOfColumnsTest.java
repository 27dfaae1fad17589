/** The boundary cases of the promises 1 to 6, a method for each sentence. */
public final class EdgesOfColumnsTest {
    public static void main(String[] args) {
        newObject();
        newObjectsAreApart();
        makeAnswersN();
        makeOfZerosOrEmpty();
        makeInPlaceOfWhatItHad();
        makeAboveForty();
        makeBelow();
        makeBadFirst();
        letAnswersHowMany();
        letOfNone();
        dropAnswers();
        kindLetGoToo();
        kindOfNone();
        lengthGone();
        Due.end();
    }

    private static void newObject() {
        Run.of("No COLUMNS, no PARTS", "told 0 = 0", "told 1 = 0", "told 2 = 0", "told 3 = 0", "copied = 0", "fault 0 0 = BAD",
                "part 0 0 = 0");
        Run run = new Run("No COLUMNS: each call tells so");
        for (int place = 0; place < 24; place++) {
            String p = " " + place;
            run.rows("let" + p + " = GONE", "put" + p + " 0 1 = GONE", "sum" + p + " 0 = GONE", "turn" + p + " 0 = GONE",
                    "lay" + p + " 0 -1 = GONE", "weigh" + p + " 0 = GONE", "rigid" + p + " 0 = GONE", "raise" + p + " 0 = GONE",
                    "copy" + p + " 0" + p + " 0 0 = GONE", "like" + p + p + " = GONE", "get" + p + " 0 = NULL");
        }
        run.rows("move 0 1 o543210 = 0", "move 3 3 o777777 = 0", "told 0 = 0", "copied = 0");
    }

    private static void newObjectsAreApart() {
        Run first = Run.of("a new object is one of its own", "make 0 7 40 = 40", "part 0 5 = 0", "lay 0 0 0 = 1", "copy 0 0 0 1 1 = 1");
        Run second = Run.of("a new object is one of its own", "told 0 = 0", "told 2 = 0", "copied = 0", "part 1 9 = 0", "make 0 8 2 = 2");
        first.rows("kind 0 = 7", "length 0 = 40", "weigh 0 0 = 5", "told 3 = 2", "copied = 1");
        second.rows("lay 0 1 0 = 1", "weigh 0 1 = 12", "told 3 = 1");
    }

    private static void makeAnswersN() {
        for (int n = 0; n <= 40; n++) {
            Run run = new Run("make: n");
            for (int kind = 0; kind < 10; kind++) {
                run.row("make " + kind + " " + kind + " " + n, n).row("length " + kind, n).row("kind " + kind, kind);
            }
            run.row("told 1", 10 * n);
        }
    }

    private static void makeOfZerosOrEmpty() {
        for (int kind = 0; kind < 10; kind++) {
            Run run = Run.of("make: n CELLS (0, or EMPTY)", "make 0 " + kind + " 40 = 40");
            for (int i = 0; i < 40; i++) {
                run.rows("get 0 " + i + " = " + (kind < 7 ? "0" : "NULL"));
            }
        }
    }

    /** A full COLUMN of each KIND, then one of each KIND in its place: nothing of the old CELLS is left. */
    private static void makeInPlaceOfWhatItHad() {
        for (int old = 0; old < 10; old++) {
            for (int kind = 0; kind < 10; kind++) {
                Run run = Run.of("make: in place of what it had", "part " + (old == 9 ? 2 : 1) + " 1 = 0", "make 9 " + old + " 40 = 40");
                for (int i = 0; i < 40; i++) {
                    run.rows((old < 7 ? "put 9 " + i + " 77" : "lay 9 " + i + " 0") + " = 1");
                }
                run.rows("make 9 " + kind + " 2 = 2", "kind 9 = " + kind, "length 9 = 2", "get 9 2 = BOUNDS", "told 0 = 1", "told 1 = 2",
                        "told 3 = 0", "make 9 " + kind + " 40 = 40");
                for (int i = 0; i < 40; i++) {
                    run.rows("get 9 " + i + " = " + (kind < 7 ? "0" : "NULL"));
                }
                run.rows("let 9 = 40", "make 9 " + kind + " 1 = 1", "length 9 = 1", "drop 9 = 1", "make 9 " + kind + " 1 = 1",
                        "get 9 0 = " + (kind < 7 ? "0" : "NULL"));
            }
        }
    }

    private static void makeAboveForty() {
        Run.of("make: BAD: also n is above 40", "make 0 4 40 = 40", "put 0 39 5 = 1", "make 0 3 41 = BAD", "make 0 3 42 = BAD",
                "make 0 3 max = BAD", "kind 0 = 4", "length 0 = 40", "get 0 39 = 5");
    }

    private static void makeBelow() {
        Run.of("make: BELOW", "make 0 4 0 = 0", "make 0 3 -1 = BELOW", "make 0 3 -2 = BELOW", "make 0 3 min = BELOW", "kind 0 = 4",
                "make 1 3 -1 = BELOW", "kind 1 = GONE", "let 0 = 0", "make 0 3 -1 = BELOW", "kind 0 = 4", "length 0 = GONE");
    }

    private static void makeBadFirst() {
        Run.of("make: BAD goes before BELOW", "make -1 0 -1 = BAD", "make 24 0 -1 = BAD", "make 0 -1 -1 = BAD", "make 0 10 -1 = BAD",
                "make 24 10 -1 = BAD", "make 24 10 41 = BAD", "make min min min = BAD", "make 0 9 -1 = BELOW", "make 23 0 -1 = BELOW",
                "told 0 = 0");
    }

    private static void letAnswersHowMany() {
        for (int n = 0; n <= 40; n++) {
            Run.of("let: how many CELLS it had", "make 23 7 " + n + " = " + n, "make 22 7 1 = 1", "let 23 = " + n, "let 23 = GONE",
                    "length 22 = 1", "told 1 = 1", "told 0 = 2");
        }
    }

    private static void letOfNone() {
        Run.of("let: GONE: also it was so", "let 0 = GONE", "make 0 6 3 = 3", "let 0 = 3", "let 0 = GONE", "let 0 = GONE", "kind 0 = 6",
                "drop 0 = 1", "let 0 = GONE", "make 0 6 3 = 3", "let 0 = 3", "make 0 5 2 = 2", "let 0 = 2", "kind 0 = 5");
    }

    private static void dropAnswers() {
        Run.of("drop: 1, 0 if it had none", "drop 0 = 0", "make 0 0 0 = 0", "drop 0 = 1", "drop 0 = 0", "make 0 9 40 = 40",
                "make 1 0 1 = 1", "drop 0 = 1", "kind 0 = GONE", "length 0 = GONE", "get 0 0 = NULL", "kind 1 = 0", "told 0 = 1",
                "let 1 = 1", "drop 1 = 1", "kind 1 = GONE", "drop 1 = 0", "told 0 = 0");
    }

    private static void kindLetGoToo() {
        for (int kind = 0; kind < 10; kind++) {
            Run.of("kind: The KIND at a PLACE (LET GO, too)", "make 12 " + kind + " 0 = 0", "kind 12 = " + kind, "let 12 = 0",
                    "kind 12 = " + kind, "kind 12 = " + kind, "drop 12 = 1", "kind 12 = GONE");
        }
    }

    private static void kindOfNone() {
        Run.of("kind: BAD; GONE: there is no COLUMN", "kind 0 = GONE", "kind 23 = GONE", "kind -1 = BAD", "kind 24 = BAD");
    }

    private static void lengthGone() {
        Run.of("length: BAD; GONE", "length 0 = GONE", "length 24 = BAD", "length -1 = BAD", "make 0 0 0 = 0", "length 0 = 0",
                "make 0 8 40 = 40", "length 0 = 40", "let 0 = 40", "length 0 = GONE", "drop 0 = 1", "length 0 = GONE");
    }
}
