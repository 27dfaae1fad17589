/** The boundary cases of the promises 17 to 21, a method for each sentence. */
public final class EdgesOfMovesTest {
    private static final String[] NO_PLACES = {"-1", "24", "min", "max"};

    public static void main(String[] args) {
        copyOfFullColumns();
        copyAsIfLaidAside();
        copyOfNone();
        copyBad();
        copyGone();
        copyOther();
        copyOut();
        copyStore();
        copyStoreAtEachCell();
        copyStoreOnlyBetweenUnlikeKinds();
        copyOfFullShelvesOfUnlikeKinds();
        copiedAtFirst();
        copiedOfTheLatestNotBad();
        moveOfEachDigit();
        moveLetGoToo();
        moveAsItWas();
        moveOfFullMappings();
        moveMakesColumnsOfTheirOwn();
        moveBad();
        likeOfTheSameCells();
        likeOfUnlikeKinds();
        likeOfTheNumbersThemselves();
        likeOfParts();
        likeInTheWay();
        toldAtItsMost();
        toldOfLetGo();
        toldOfFilledCells();
        toldBad();
        Due.end();
    }

    /** A full COLUMN whose CELLS tell 1 .. 40, or hold PARTS 0 .. 39. */
    private static Run full(String sentence, int place, int kind) {
        Run run = new Run(sentence).row("make " + place + " " + kind + " 40", 40);
        for (int i = 0; i < 40; i++) {
            if (kind < 7) {
                run.row("put " + place + " " + i + " " + (i + 1), 1);
            } else {
                run.row("part " + (kind == 9 ? 2 : 1) + " " + i, i).row("lay " + place + " " + i + " " + i, 1);
            }
        }
        return run;
    }

    private static int toldBy(int kind, int i) {
        return kind < 7 ? i + 1 : i;
    }

    private static void copyOfFullColumns() {
        for (int kind = 0; kind < 10; kind++) {
            Run run = full("copy: n CELLS: all of 40", 0, kind).rows("make 23 " + kind + " 40 = 40", "copy 0 0 23 0 40 = 40", "copied = 40",
                    "like 0 23 = 1");
            for (int i = 0; i < 40; i++) {
                run.row("get 23 " + i, toldBy(kind, i));
            }
            run.rows("copy 0 0 23 0 41 = OUT", "copied = 0", "make 1 " + kind + " 1 = 1",
                    "copy 0 39 1 0 1 = 1").row("get 1 0", toldBy(kind, 39));
            run.rows("copy 0 39 1 0 2 = OUT", "copy 0 40 1 0 1 = OUT", "copy 1 0 23 39 1 = 1", "copy 1 0 23 40 1 = OUT",
                    "copy 0 0 1 0 2 = OUT");
        }
    }

    private static void copyAsIfLaidAside() {
        for (int kind = 0; kind < 10; kind++) {
            Run up = full("copy: the same, as if by a copy laid aside: up", 5, kind).rows("copy 5 0 5 1 39 = 39");
            Run down = full("copy: the same, as if by a copy laid aside: down", 5, kind).rows("copy 5 1 5 0 39 = 39");
            Run over = full("copy: the same, as if by a copy laid aside: over itself", 5, kind).rows("copy 5 0 5 0 40 = 40");
            for (int i = 0; i < 40; i++) {
                up.row("get 5 " + i, toldBy(kind, Math.max(0, i - 1)));
                down.row("get 5 " + i, toldBy(kind, Math.min(39, i + 1)));
                over.row("get 5 " + i, toldBy(kind, i));
            }
        }
    }

    private static void copyOfNone() {
        for (int kind = 0; kind < 10; kind++) {
            Run.of("copy: n CELLS: none", "make 0 " + kind + " 3 = 3", "make 1 " + kind + " 0 = 0", "copy 0 0 1 0 0 = 0", "copied = 0",
                    "copy 0 3 1 0 0 = 0", "copy 1 0 0 3 0 = 0", "copy 1 0 1 0 0 = 0", "copy 0 4 1 0 0 = OUT", "copy 0 0 1 1 0 = OUT",
                    "copy 1 0 0 4 0 = OUT", "copy 1 1 0 0 0 = OUT", "copy 0 0 1 0 1 = OUT", "copy 1 0 0 0 1 = OUT", "copy 0 -1 1 0 0 = OUT",
                    "copy 0 0 1 -1 0 = OUT");
        }
    }

    private static void copyBad() {
        for (String place : NO_PLACES) {
            Run.of("copy: BAD: PLACES alone", "make 0 3 2 = 2", "copy 0 0 0 1 1 = 1", "copy " + place + " 0 0 0 1 = BAD",
                    "copy 0 0 " + place + " 0 1 = BAD", "copy " + place + " -1 " + place + " -1 -1 = BAD",
                    "copy " + place + " 0 5 0 1 = BAD", "copy 5 0 " + place + " 0 1 = BAD", "copied = 1", "copy 0 -1 0 0 1 = OUT",
                    "copy 0 0 0 -1 1 = OUT", "copy 0 0 0 0 -1 = OUT", "copy 0 99 0 0 1 = OUT");
        }
    }

    private static void copyGone() {
        Run.of("copy: GONE: either is none, or LET GO", "make 0 3 2 = 2", "make 1 7 2 = 2", "make 2 3 2 = 2", "let 2 = 2", "make 3 7 2 = 2",
                "let 3 = 2", "copy 0 0 9 0 1 = GONE", "copy 9 0 0 0 1 = GONE", "copy 9 0 9 0 0 = GONE", "copy 0 0 2 0 1 = GONE",
                "copy 2 0 0 0 1 = GONE", "copy 2 0 2 0 0 = GONE", "copy 1 0 3 0 1 = GONE", "copy 3 0 1 0 1 = GONE",
                "copy 2 0 9 0 0 = GONE");
        Run.of("copy: GONE goes before OTHER and OUT", "make 0 3 2 = 2", "make 1 7 2 = 2", "let 1 = 2", "make 2 4 2 = 2", "let 2 = 2",
                "copy 0 0 1 0 1 = GONE", "copy 1 0 0 0 1 = GONE", "copy 0 0 2 0 1 = GONE", "copy 2 0 0 0 1 = GONE",
                "copy 0 -1 9 0 1 = GONE", "copy 0 0 9 0 -1 = GONE", "copy 9 0 0 99 1 = GONE", "copy 1 -1 0 -1 -1 = GONE");
    }

    private static void copyOther() {
        for (int from = 0; from < 10; from++) {
            for (int into = 0; into < 10; into++) {
                boolean done = from == into || from > 6 && into > 6;
                String other = done ? "OUT" : "OTHER";
                Run.of("copy: OTHER: one is a SHELF, the other none, or NUMBERS of unlike KINDS; then OUT", "make 0 " + from + " 2 = 2",
                        "make 1 " + into + " 2 = 2", "copy 0 0 1 0 2 = " + (done ? "2" : "OTHER"),
                        "copy 0 0 1 0 0 = " + (done ? "0" : "OTHER"), "copy 0 0 1 0 3 = " + other, "copy 0 -1 1 0 1 = " + other,
                        "copy 0 0 1 -1 1 = " + other, "copy 0 0 1 0 -1 = " + other, "copy 0 2 1 0 1 = " + other);
            }
        }
    }

    private static void copyOut() {
        String[] out = {"-1 0 1", "0 -1 1", "0 0 -1", "-1 -1 -1", "min 0 1", "0 min 1", "0 0 min", "min min min", "max 0 1", "0 max 1",
                "0 0 max", "max max max", "max 0 max", "1 1 max", "max 1 1", "1 max 1", "0 0 4", "1 0 5", "5 0 1", "6 0 0", "0 3 1",
                "0 4 0", "3 0 3", "0 1 3", "2 2 2", "4 0 2", "0 0 41"};
        for (int kind = 0; kind < 10; kind++) {
            Run run = Run.of("copy: OUT: n, at, to are below 0, or there are not so many in either", "make 0 " + kind + " 5 = 5",
                    "make 1 " + kind + " 3 = 3");
            for (String numbers : out) {
                String[] n = numbers.split(" ");
                run.rows("copy 0 " + n[0] + " 1 " + n[1] + " " + n[2] + " = OUT", "copied = 0");
            }
            run.rows("copy 0 2 1 0 3 = 3", "copy 0 4 1 2 1 = 1", "copy 0 5 1 3 0 = 0", "copy 1 0 0 2 3 = 3", "copy 1 0 0 3 3 = OUT",
                    "copy 0 0 0 1 4 = 4", "copy 0 0 0 1 5 = OUT", "copy 0 1 0 0 5 = OUT");
        }
        Run.of("copy: OUT goes before STORE", "part 0 1 = 0", "make 0 7 3 = 3", "make 1 8 3 = 3", "lay 0 0 0 = 1", "copy 0 0 1 0 4 = OUT",
                "copy 0 0 1 1 3 = OUT", "copy 0 0 1 -1 1 = OUT", "copy 0 0 1 0 1 = STORE", "copy 0 0 1 0 0 = 0");
    }

    private static void copyStore() {
        Run.of("copy: STORE: at the first PART that is none of those; CELLS ahead of it are copied", "part 0 1 = 0", "part 1 1 = 1",
                "part 2 1 = 2", "part 1 1 = 3", "make 0 7 5 = 5", "make 1 8 5 = 5", "lay 0 0 1 = 1", "lay 0 2 3 = 1", "lay 0 3 2 = 1",
                "lay 0 4 1 = 1", "lay 1 1 1 = 1", "lay 1 3 3 = 1", "lay 1 4 3 = 1", "copy 0 0 1 0 5 = STORE", "copied = 3", "get 1 0 = 1",
                "get 1 1 = NULL", "get 1 2 = 3", "get 1 3 = 3", "get 1 4 = 3", "told 3 = 8", "copy 0 3 1 0 2 = STORE", "copied = 0",
                "get 1 0 = 1", "copy 0 2 1 3 2 = STORE", "copied = 1", "get 1 3 = 3", "get 1 4 = 3", "copy 0 0 1 2 3 = 3", "get 1 3 = NULL",
                "get 1 4 = 3");
        for (int from = 7; from < 10; from++) {
            for (int into = 7; into < 10; into++) {
                for (int sort = 0; sort < 3; sort++) {
                    if (from == 7 || from - 7 == sort) {
                        boolean taken = into == 7 || into - 7 == sort;
                        Run.of("copy: STORE: those the other SHELF is for", "part " + sort + " 1 = 0", "make 0 " + from + " 2 = 2",
                                "make 1 " + into + " 2 = 2", "lay 0 1 0 = 1", "copy 0 0 1 0 2 = " + (taken ? "2" : "STORE"),
                                "copied = " + (taken ? "2" : "1"), "get 1 1 = " + (taken ? "0" : "NULL"));
                    }
                }
            }
        }
    }

    private static void copyStoreAtEachCell() {
        for (int stop = 0; stop < 40; stop++) {
            Run run = Run.of("copy: STORE: CELLS ahead of it stay copied", "part 1 1 = 0", "part 0 1 = 1", "part 1 1 = 2",
                    "make 0 7 40 = 40", "make 1 8 40 = 40");
            for (int i = 0; i < 40; i++) {
                run.row("lay 0 " + i + " " + (i == stop || i == 39 ? 1 : 0), 1).row("lay 1 " + i + " 2", 1);
            }
            run.row("copy 0 0 1 0 40", -14).row("copied", stop);
            for (int i = 0; i < 40; i++) {
                run.row("get 1 " + i, i < stop ? 0 : 2);
            }
        }
    }

    private static void copyStoreOnlyBetweenUnlikeKinds() {
        Run.of("copy: STORE: between SHELVES of unlike KINDS", "part 0 1 = 0", "part 1 1 = 1", "part 2 1 = 2", "make 0 7 3 = 3",
                "make 1 7 3 = 3", "lay 0 0 0 = 1", "lay 0 1 1 = 1", "lay 0 2 2 = 1", "copy 0 0 1 0 3 = 3", "like 0 1 = 1", "make 2 8 3 = 3",
                "make 3 9 3 = 3", "copy 2 0 3 0 3 = 3", "copy 3 0 2 0 3 = 3", "copied = 3", "copy 0 0 2 0 0 = 0", "copy 0 1 2 0 1 = 1",
                "copy 2 0 3 0 3 = STORE", "copied = 0", "copy 2 1 3 0 2 = 2", "copy 2 0 0 0 3 = 3", "get 0 0 = 1", "get 0 1 = NULL",
                "get 0 2 = NULL");
    }

    private static void copyOfFullShelvesOfUnlikeKinds() {
        for (int kind = 8; kind < 10; kind++) {
            full("copy: between SHELVES of unlike KINDS: all of 40", 0, kind).rows("make 1 7 40 = 40", "copy 0 0 1 0 40 = 40",
                    "copied = 40", "get 1 0 = 0", "get 1 39 = 39", "make 2 " + kind + " 40 = 40", "copy 1 0 2 0 40 = 40", "like 0 2 = 1",
                    "copy 1 39 2 0 1 = 1", "get 2 0 = 39", "copy 1 40 2 40 0 = 0", "make 3 " + (17 - kind) + " 40 = 40",
                    "copy 1 39 3 39 1 = STORE", "copied = 0", "copy 3 0 2 0 40 = 40", "told 3 = 80", "copy 3 0 1 1 39 = 39", "told 3 = 41");
        }
    }

    private static void copiedAtFirst() {
        Run.of("copied: at first, and behind BAD ones alone", "copied = 0", "copy 24 0 0 0 1 = BAD", "copied = 0", "copy 0 0 -1 0 1 = BAD",
                "copied = 0");
    }

    private static void copiedOfTheLatestNotBad() {
        Run.of("copied: How many CELLS the latest copy() that was not BAD copied", "part 2 1 = 0", "make 0 7 40 = 40", "make 1 8 40 = 40",
                "make 2 3 2 = 2", "lay 0 39 0 = 1", "copy 0 0 0 0 40 = 40", "copied = 40", "copied = 40", "copy 24 0 0 0 1 = BAD",
                "copied = 40", "copy 0 0 24 0 1 = BAD", "copied = 40", "copy 0 0 1 0 40 = STORE", "copied = 39", "copy -1 0 0 0 1 = BAD",
                "copied = 39", "copy 0 0 9 0 1 = GONE", "copied = 0", "copy 0 0 0 1 2 = 2", "copied = 2", "copy 0 0 2 0 1 = OTHER",
                "copied = 0", "copy 0 0 0 1 2 = 2", "copy 0 0 0 1 40 = OUT", "copied = 0", "copy 0 0 0 1 2 = 2", "copy 0 0 0 0 0 = 0",
                "copied = 0", "copy 2 0 2 1 1 = 1", "copied = 1", "make 2 3 2 = 2", "drop 0 = 1", "move 1 0 0 = 0", "copied = 1");
    }

    /** FIELDS of MAPPING 1: COLUMNS of 1 .. 5 CELLS, and none; those of MAPPING 2 have 11 .. 16. */
    private static Run twoMappings(String sentence) {
        Run run = new Run(sentence);
        for (int field = 0; field < 6; field++) {
            if (field < 5) {
                run.row("make " + (6 + field) + " " + field + " " + (field + 1), field + 1);
            }
            run.row("make " + (12 + field) + " 6 " + (11 + field), 11 + field);
        }
        return run;
    }

    private static void moveOfEachDigit() {
        for (int field = 0; field < 6; field++) {
            for (int digit = 0; digit < 8; digit++) {
                int rule = 262143 - ((7 - digit) << 3 * field);
                Run run = twoMappings("move: digit f (by 8, the lowest first): field " + field + ", digit " + digit);
                run.row("move 1 2 " + rule, digit == 5 || digit == 6 ? 5 : 6);
                for (int f = 0; f < 6; f++) {
                    int due = f != field || digit == 7 ? 11 + f : digit > 4 ? -11 : digit + 1;
                    run.row("length " + (12 + f), due).row("kind " + (12 + f), due == -11 ? -11 : due > 10 ? 6 : digit);
                    run.row("length " + (6 + f), f < 5 ? f + 1 : -11);
                }
            }
        }
        twoMappings("move: 6: none").rows("move 1 2 o666666 = 0", "told 0 = 5", "move 2 1 o777777 = 5", "move 2 1 o543210 = 0",
                "told 0 = 0");
        twoMappings("move: 0 .. 5: or none").rows("move 1 2 o555555 = 0", "told 0 = 5", "told 1 = 15");
        twoMappings("move: each from another").rows("move 1 2 o012345 = 5", "kind 12 = GONE", "length 13 = 5", "length 17 = 1");
    }

    private static void moveLetGoToo() {
        for (int kind = 0; kind < 10; kind++) {
            Run.of("move: LET GO, too", "make 0 " + kind + " 2 = 2", "let 0 = 2", "make 6 3 2 = 2", "move 0 1 o777770 = 1",
                    "kind 6 = " + kind, "length 6 = GONE", "let 6 = GONE", "move 0 1 o777777 = 1", "kind 6 = " + kind, "length 6 = GONE",
                    "get 6 0 = NULL", "told 0 = 2", "told 1 = 0", "make 6 " + kind + " 1 = 1", "length 0 = GONE");
        }
    }

    private static void moveAsItWas() {
        Run run = new Run("move: of MAPPING a as it was: within one");
        for (int field = 0; field < 6; field++) {
            run.row("make " + (18 + field) + " 4 " + (field + 1), field + 1);
            run.row("put " + (18 + field) + " " + field + " " + (100 + field), 1);
        }
        int[] at = {0, 1, 2, 3, 4, 5};
        int[][] digits = {{5, 0, 1, 2, 3, 4}, {1, 0, 3, 2, 5, 4}, {7, 0, 0, 7, 3, 3}, {1, 2, 3, 4, 5, 0}, {5, 4, 3, 2, 1, 0}};
        for (int[] d : digits) {
            int rule = 0;
            int[] next = new int[6];
            for (int f = 5; f >= 0; f--) {
                rule = rule * 8 + d[f];
                next[f] = d[f] == 7 ? at[f] : at[d[f]];
            }
            at = next;
            run.row("move 3 3 " + rule, 6);
            for (int f = 0; f < 6; f++) {
                run.row("length " + (18 + f), at[f] + 1).row("get " + (18 + f) + " " + at[f], 100 + at[f]);
            }
        }
        Run.of("move: as it was: none, too", "make 0 0 1 = 1", "make 1 1 2 = 2", "move 0 0 o765450 = 1", "kind 0 = 0", "kind 1 = GONE",
                "move 0 0 o555501 = 1", "kind 0 = GONE", "kind 1 = 0");
    }

    private static void moveOfFullMappings() {
        for (int kind = 0; kind < 10; kind++) {
            Run run = full("move: KIND, CELLS: all of 40", 3, kind);
            for (int mapping = 0; mapping < 4; mapping++) {
                run.row("move 0 " + mapping + " o333333", 6);
            }
            run.rows("told 0 = 24", "told 1 = 960").row("told 3", kind < 7 ? 0 : 960);
            for (int place = 0; place < 24; place++) {
                run.row("kind " + place, kind).row("get " + place + " 0", toldBy(kind, 0)).row("get " + place + " 39", toldBy(kind, 39));
                run.row("like 3 " + place, 1);
            }
        }
    }

    private static void moveMakesColumnsOfTheirOwn() {
        for (int kind = 0; kind < 10; kind++) {
            String set = kind < 7 ? "put " : "lay ";
            Run.of("move: a COLUMN like that: one of its own", "part " + (kind == 9 ? 2 : 1) + " 1 = 0", "make 0 " + kind + " 2 = 2",
                    "move 0 1 0 = 6", set + "0 0 0 = 1", set + "6 1 0 = 1", "get 7 0 = " + (kind < 7 ? "0" : "NULL"), "let 0 = 2",
                    "length 6 = 2", "let 6 = 2", "length 7 = 2", "drop 7 = 1", "length 8 = 2", "told 0 = 6");
        }
        Run.of("move: its numbers of its own", "make 0 6 2 = 2", "put 0 1 5 = 1", "move 0 0 o000000 = 6", "put 0 1 9 = 1", "get 1 1 = 5",
                "put 1 1 7 = 1", "get 0 1 = 9", "get 2 1 = 5", "move 0 3 o777777 = 0", "move 0 3 o210210 = 6", "get 18 1 = 9",
                "get 19 1 = 7", "get 20 1 = 5", "get 21 1 = 9");
    }

    private static void moveBad() {
        for (String mapping : new String[] {"-1", "4", "min", "max"}) {
            Run.of("move: BAD: MAPPINGS", "make 0 3 2 = 2", "move " + mapping + " 0 o666666 = BAD", "move 0 " + mapping + " 0 = BAD",
                    "move " + mapping + " " + mapping + " 0 = BAD", "move " + mapping + " 0 -1 = BAD",
                    "move " + mapping + " 0 o777777 = BAD", "told 0 = 1", "length 0 = 2");
        }
        for (String rule : new String[] {"-1", "262144", "min", "max"}) {
            Run.of("move: BAD: rule is not 0 .. 262143", "make 0 3 2 = 2", "move 0 0 " + rule + " = BAD", "move 0 3 " + rule + " = BAD",
                    "move 3 0 " + rule + " = BAD", "told 0 = 1", "length 0 = 2");
        }
        Run.of("move: rule 0 .. 262143: the ends are taken", "make 0 3 2 = 2", "move 0 3 262143 = 0", "move 0 3 0 = 6",
                "move 3 3 262143 = 6", "move 3 0 262142 = 0", "kind 0 = GONE", "kind 3 = GONE");
    }

    private static void likeOfTheSameCells() {
        for (int kind = 0; kind < 10; kind++) {
            for (int i : new int[] {0, 1, 39}) {
                String set = kind < 7 ? "put " : "lay ";
                Run.of("like: with the same CELLS", "part " + (kind == 9 ? 2 : 1) + " 1 = 0", "part " + (kind == 9 ? 2 : 1) + " 1 = 1",
                        "make 0 " + kind + " 40 = 40", "make 23 " + kind + " 40 = 40", "like 0 23 = 1", set + "0 " + i + " 1 = 1",
                        "like 0 23 = 0", "like 23 0 = 0", set + "23 " + i + " 1 = 1", "like 0 23 = 1", set + "23 " + i + " 0 = 1",
                        "like 0 23 = 0", "like 0 0 = 1", "like 23 23 = 1", "make 23 " + kind + " 39 = 39", "make 0 " + kind + " 40 = 40",
                        "like 0 23 = 0", "like 23 0 = 0", "make 0 " + kind + " 0 = 0", "like 0 23 = 0", "like 23 0 = 0",
                        "make 23 " + kind + " 0 = 0", "like 0 23 = 1");
            }
        }
    }

    private static void likeOfUnlikeKinds() {
        for (int a = 0; a < 10; a++) {
            for (int b = 0; b < 10; b++) {
                String due = a == b ? "1" : "0";
                Run.of("like: COLUMNS of one KIND", "make 0 " + a + " 0 = 0", "make 1 " + b + " 0 = 0", "like 0 1 = " + due,
                        "make 0 " + a + " 40 = 40", "make 1 " + b + " 40 = 40", "like 0 1 = " + due, "like 1 0 = " + due);
            }
        }
    }

    private static void likeOfTheNumbersThemselves() {
        for (int kind = 5; kind < 7; kind++) {
            Run.of("like: the numbers themselves, not how they are told", "make 0 4 1 = 1", "make 1 4 1 = 1",
                    "put 0 0 1152921504606846976 = 1", "put 1 0 2305843009213693952 = 1", "turn 0 " + kind + " = 1",
                    "turn 1 " + kind + " = 1", "get 0 0 = MAX", "get 1 0 = MAX", "like 0 1 = 0", "put 1 0 MAX = 1", "like 0 1 = 1",
                    "put 0 0 MIN = 1", "make 1 4 1 = 1", "put 1 0 MIN = 1", "turn 1 " + kind + " = 1", "get 0 0 = MIN", "get 1 0 = MIN",
                    "like 0 1 = 0");
        }
        Run.of("like: the nearest float", "make 0 5 1 = 1", "make 1 5 1 = 1", "put 0 0 16777216 = 1", "put 1 0 16777217 = 1",
                "like 0 1 = 1", "put 1 0 16777218 = 1", "like 0 1 = 0");
        Run.of("like: longs to their last bit", "make 0 4 1 = 1", "make 1 4 1 = 1", "put 0 0 MAX = 1", "put 1 0 9223372036854775806 = 1",
                "like 0 1 = 0", "put 0 0 1 = 1", "put 1 0 4294967297 = 1", "like 0 1 = 0");
        Run.of("like: the lowest bits", "make 0 0 1 = 1", "make 1 0 1 = 1", "put 0 0 128 = 1", "put 1 0 -128 = 1", "like 0 1 = 1",
                "put 1 0 127 = 1", "like 0 1 = 0");
        Run.of("like: whichever way a number came", "make 0 3 1 = 1", "put 0 0 5 = 1", "turn 0 6 = 1", "make 1 6 1 = 1", "put 1 0 40 = 1",
                "like 0 1 = 1", "turn 0 5 = 1", "like 0 1 = 0", "turn 1 5 = 1", "like 0 1 = 1", "turn 0 0 = 1", "turn 1 0 = 1",
                "like 0 1 = 1");
    }

    private static void likeOfParts() {
        Run.of("like: PARTS", "part 0 5 = 0", "part 0 5 = 1", "make 0 7 2 = 2", "make 1 7 2 = 2", "lay 0 0 0 = 1", "like 0 1 = 0",
                "lay 1 1 0 = 1", "like 0 1 = 0", "lay 1 0 0 = 1", "lay 0 1 1 = 1", "like 0 1 = 0", "lay 1 1 1 = 1", "like 0 1 = 1",
                "fault 0 1 = 1", "like 0 1 = 1");
    }

    private static void likeInTheWay() {
        for (String place : NO_PLACES) {
            Run.of("like: BAD, first", "like " + place + " 0 = BAD", "like 0 " + place + " = BAD", "make 0 3 1 = 1",
                    "like " + place + " 0 = BAD", "like 0 " + place + " = BAD", "like " + place + " " + place + " = BAD");
        }
        Run.of("like: GONE: one is none, or LET GO", "like 0 1 = GONE", "like 0 0 = GONE", "make 0 3 1 = 1", "like 0 1 = GONE",
                "like 1 0 = GONE", "make 1 3 1 = 1", "like 0 1 = 1", "let 1 = 1", "like 0 1 = GONE", "like 1 0 = GONE", "like 1 1 = GONE",
                "let 0 = 1", "like 0 1 = GONE", "make 1 7 1 = 1", "like 0 1 = GONE", "drop 1 = 1", "like 0 1 = GONE");
    }

    private static void toldAtItsMost() {
        Run run = new Run("told: 0 COLUMNS, 1 CELLS in all");
        for (int place = 0; place < 24; place++) {
            run.row("told 0", place).row("told 1", 40 * place).row("make " + place + " " + place % 10 + " 40", 40);
        }
        run.rows("told 0 = 24", "told 1 = 960", "told 2 = 0", "told 3 = 0");
        Run parts = new Run("told: 2 PARTS");
        for (int part = 0; part < 40; part++) {
            parts.row("told 2", part).row("part 1 5", part);
        }
        parts.rows("told 2 = 40", "part 1 5 = FULL", "told 2 = 40", "told 3 = 0");
    }

    private static void toldOfLetGo() {
        Run.of("told: 0 COLUMNS (LET GO ones, too), 1 CELLS in all", "make 0 3 5 = 5", "make 1 7 0 = 0", "make 23 9 40 = 40", "told 0 = 3",
                "told 1 = 45", "let 0 = 5", "told 0 = 3", "told 1 = 40", "let 1 = 0", "told 0 = 3", "drop 0 = 1", "told 0 = 2",
                "drop 1 = 1", "told 0 = 1", "let 23 = 40", "told 1 = 0", "drop 23 = 1", "told 0 = 0");
    }

    private static void toldOfFilledCells() {
        Run.of("told: 3 CELLS that hold a PART", "part 1 5 = 0", "make 0 7 40 = 40", "make 23 8 2 = 2", "make 1 4 3 = 3", "put 1 0 5 = 1",
                "told 3 = 0", "lay 0 0 0 = 1", "told 3 = 1", "lay 0 39 0 = 1", "told 3 = 2", "lay 23 1 0 = 1", "told 3 = 3",
                "lay 0 39 0 = 1", "told 3 = 3", "lay 0 0 -1 = 1", "told 3 = 2", "let 0 = 40", "told 3 = 1", "make 23 8 2 = 2", "told 3 = 0",
                "told 2 = 1");
    }

    private static void toldBad() {
        Run.of("told: BAD", "told -1 = BAD", "told 4 = BAD", "told 5 = BAD", "told min = BAD", "told max = BAD", "told 0 = 0",
                "told 3 = 0");
    }
}
