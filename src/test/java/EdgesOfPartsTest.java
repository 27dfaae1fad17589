/** The boundary cases of the promises 11 to 16, a method for each sentence. */
public final class EdgesOfPartsTest {
    /** PARTS 0 PLAIN, 1 RIGID, 2 SOFT, and SHELVES 7, 8, 9 at the PLACES 7, 8, 9. */
    private static final String[] SHELVES = {"part 0 10 = 0", "part 1 10 = 1", "part 2 11 = 2", "make 7 7 3 = 3", "make 8 8 3 = 3",
            "make 9 9 3 = 3"};
    private static final String[] NO_CELLS_OF_3 = {"-1", "3", "39", "40", "min", "max"};

    public static void main(String[] args) {
        partSorts();
        partBad();
        partFull();
        layOnWhichShelf();
        layNone();
        layCountsOnceMore();
        layOver();
        layOnFullShelves();
        layBad();
        layInTheWay();
        layStore();
        weighWhatWasCopiedOrMoved();
        for (String call : new String[] {"weigh", "rigid", "raise"}) {
            lookingInTheWay(call);
            lookingIntoEachCell(call);
        }
        rigidCast();
        rigidHowOften();
        faultTaken();
        faultBad();
        raiseOfNone();
        Due.end();
    }

    private static void partSorts() {
        Run.of("part: sort 0 PLAIN, 1 RIGID, 2 SOFT", "part 0 9 = 0", "part 1 9 = 1", "part 2 9 = 2", "make 0 7 3 = 3", "lay 0 0 0 = 1",
                "lay 0 1 1 = 1", "lay 0 2 2 = 1", "weigh 0 0 = 9", "weigh 0 1 = 12", "weigh 0 2 = 5", "rigid 0 0 = CAST", "rigid 0 1 = 1",
                "rigid 0 2 = CAST");
    }

    private static void partBad() {
        for (String sort : new String[] {"-1", "3", "min", "max"}) {
            Run.of("part: BAD: a sort", "part " + sort + " 0 = BAD", "part " + sort + " 1001 = BAD", "told 2 = 0", "part 0 0 = 0");
        }
        for (String w : new String[] {"-1", "1001", "min", "max"}) {
            Run.of("part: BAD: a WEIGHT", "part 0 " + w + " = BAD", "part 2 " + w + " = BAD", "told 2 = 0", "part 2 1000 = 0",
                    "part 0 0 = 1");
        }
    }

    private static void partFull() {
        Run run = new Run("part: FULL");
        for (int part = 0; part < 39; part++) {
            run.row("part 0 5", part);
        }
        run.rows("told 2 = 39", "fault 39 1 = BAD", "part 1 1000 = 39", "told 2 = 40", "fault 39 1 = 1", "part 0 5 = FULL",
                "part 1 0 = FULL", "part 2 1000 = FULL", "told 2 = 40", "make 0 8 1 = 1", "lay 0 0 39 = 1", "weigh 0 0 = 1003",
                "raise 0 0 = -31", "fault 40 1 = BAD");
        run.rows("part 3 5 = BAD", "part -1 5 = BAD", "part 0 1001 = BAD", "part 0 -1 = BAD", "part 0 0 = FULL");
    }

    private static void layOnWhichShelf() {
        for (int shelf = 7; shelf < 10; shelf++) {
            for (int part = 0; part < 3; part++) {
                boolean taken = shelf == 7 || shelf == 8 && part == 1 || shelf == 9 && part == 2;
                Run.of("7 SHELVES of any PARTS, 8 of RIGID ones, 9 of SOFT ones", SHELVES).rows(
                        "lay " + shelf + " 1 " + part + " = " + (taken ? "1" : "STORE"),
                        "get " + shelf + " 1 = " + (taken ? "" + part : "NULL"), "told 3 = " + (taken ? 1 : 0));
            }
        }
    }

    private static void layNone() {
        for (int shelf = 7; shelf < 10; shelf++) {
            int part = shelf == 9 ? 2 : 1;
            Run.of("lay: or (NONE of them: part -1) is EMPTY: 1", SHELVES).rows("lay " + shelf + " 0 -1 = 1",
                    "lay " + shelf + " 0 " + part + " = 1", "told 3 = 1", "lay " + shelf + " 0 -1 = 1", "get " + shelf + " 0 = NULL",
                    "told 3 = 0", "lay " + shelf + " 0 -1 = 1");
        }
        Run.of("lay: EMPTY is no PART, with no PARTS at all", "make 0 7 1 = 1", "lay 0 0 -1 = 1", "lay 0 0 0 = BAD", "weigh 0 0 = GONE");
    }

    private static void layCountsOnceMore() {
        Run.of("lay: the PART was LAID once more then", SHELVES).rows("lay 7 0 1 = 1", "rigid 7 0 = 1", "lay 7 0 1 = 1", "rigid 7 0 = 2",
                "lay 8 2 1 = 1", "rigid 7 0 = 3", "lay 7 0 -1 = 1", "rigid 8 2 = 3", "lay 7 0 0 = 1", "rigid 8 2 = 3", "lay 7 3 1 = OUT",
                "lay 9 0 1 = STORE", "lay 0 0 1 = GONE", "rigid 8 2 = 3");
    }

    private static void layOver() {
        Run.of("lay: A CELL holds a PART: the latest", SHELVES).rows("lay 7 0 0 = 1", "lay 7 0 1 = 1", "get 7 0 = 1", "lay 7 0 2 = 1",
                "get 7 0 = 2", "told 3 = 1", "get 7 1 = NULL");
    }

    private static void layOnFullShelves() {
        Run run = Run.of("lay: a SHELF that is full", "part 1 0 = 0", "part 1 1 = 1", "make 0 8 40 = 40");
        for (int i = 0; i < 40; i++) {
            run.row("lay 0 " + i + " 0", 1).row("told 3", i + 1);
        }
        run.rows("lay 0 40 0 = OUT", "told 3 = 40", "rigid 0 39 = 40", "weigh 0 0 = 120", "lay 0 39 1 = 1", "told 3 = 40", "rigid 0 39 = 1",
                "rigid 0 38 = 40");
    }

    private static void layBad() {
        for (String part : new String[] {"-2", "3", "40", "min", "max"}) {
            Run.of("lay: BAD: PART (there is none such), first", SHELVES).rows("make 0 3 1 = 1", "make 1 7 1 = 1", "let 1 = 1",
                    "lay 7 0 " + part + " = BAD", "lay 24 0 " + part + " = BAD", "lay 2 0 " + part + " = BAD", "lay 0 0 " + part + " = BAD",
                    "lay 1 0 " + part + " = BAD", "lay 7 3 " + part + " = BAD", "lay 8 -1 " + part + " = BAD", "told 3 = 0");
        }
        Run.of("lay: BAD: PLACE, first", SHELVES).rows("lay 24 0 0 = BAD", "lay -1 -1 -1 = BAD", "lay min 0 1 = BAD", "lay max 0 1 = BAD");
    }

    private static void layInTheWay() {
        for (String part : new String[] {"-1", "0", "1", "2"}) {
            Run.of("lay: GONE: no COLUMN; OTHER: no SHELF; GONE: LET GO; OUT; STORE", SHELVES).rows("lay 0 0 " + part + " = GONE",
                    "lay 0 -1 " + part + " = GONE", "lay 0 40 " + part + " = GONE", "make 0 4 2 = 2", "lay 0 0 " + part + " = OTHER",
                    "lay 0 2 " + part + " = OTHER", "lay 0 -1 " + part + " = OTHER", "get 0 0 = 0", "let 0 = 2",
                    "lay 0 0 " + part + " = OTHER", "lay 0 2 " + part + " = OTHER", "drop 0 = 1", "lay 0 0 " + part + " = GONE");
            for (int shelf = 7; shelf < 10; shelf++) {
                Run run = Run.of("lay: GONE: LET GO; OUT; STORE", SHELVES);
                for (String i : NO_CELLS_OF_3) {
                    run.rows("lay " + shelf + " " + i + " " + part + " = OUT");
                }
                run.rows("let " + shelf + " = 3", "lay " + shelf + " 0 " + part + " = GONE", "lay " + shelf + " 3 " + part + " = GONE",
                        "lay " + shelf + " -1 " + part + " = GONE", "make " + shelf + " " + shelf + " 0 = 0",
                        "lay " + shelf + " 0 " + part + " = OUT");
            }
        }
    }

    private static void layStore() {
        Run.of("lay: STORE changes nothing", SHELVES).rows("lay 8 0 1 = 1", "lay 9 0 2 = 1", "lay 8 0 0 = STORE", "lay 8 0 2 = STORE",
                "lay 9 0 0 = STORE", "lay 9 0 1 = STORE", "get 8 0 = 1", "get 9 0 = 2", "rigid 8 0 = 1", "weigh 9 0 = 6", "lay 9 0 2 = 1",
                "weigh 9 0 = 6", "lay 8 1 0 = STORE", "get 8 1 = NULL", "told 3 = 2");
    }

    private static void weighWhatWasCopiedOrMoved() {
        Run.of("WEIGHED: for each time it was LAID: by lay() alone", SHELVES).rows("lay 7 0 1 = 1", "lay 7 1 2 = 1", "copy 7 0 8 0 1 = 1",
                "copy 7 1 9 0 1 = 1", "copy 7 0 7 1 1 = 1", "move 1 3 o543210 = 3", "move 1 1 o210543 = 3", "rigid 19 0 = 1",
                "weigh 19 0 = 13", "weigh 21 0 = 6", "rigid 20 0 = 1");
    }

    private static void lookingInTheWay(String call) {
        String sentence = call + ": GONE: no COLUMN; OTHER: no SHELF; GONE: LET GO; OUT; GONE: EMPTY";
        for (String place : new String[] {"-1", "24", "min", "max"}) {
            Run.of(sentence, SHELVES).rows(call + " " + place + " 0 = BAD", call + " " + place + " -1 = BAD");
        }
        Run.of(sentence, call + " 0 0 = GONE", call + " 0 -1 = GONE", call + " 0 40 = GONE");
        for (int kind = 0; kind < 7; kind++) {
            Run.of(sentence, "make 0 " + kind + " 2 = 2", call + " 0 0 = OTHER", call + " 0 2 = OTHER", call + " 0 -1 = OTHER", "let 0 = 2",
                    call + " 0 0 = OTHER", call + " 0 2 = OTHER", "drop 0 = 1", call + " 0 0 = GONE");
        }
        for (int shelf = 7; shelf < 10; shelf++) {
            Run run = Run.of(sentence, SHELVES).rows("lay " + shelf + " 1 " + (shelf == 9 ? 2 : 1) + " = 1",
                    call + " " + shelf + " 0 = GONE", call + " " + shelf + " 2 = GONE");
            for (String i : NO_CELLS_OF_3) {
                run.rows(call + " " + shelf + " " + i + " = OUT");
            }
            run.rows("lay " + shelf + " 1 -1 = 1", call + " " + shelf + " 1 = GONE", "let " + shelf + " = 3",
                    call + " " + shelf + " 1 = GONE", call + " " + shelf + " 3 = GONE", call + " " + shelf + " -1 = GONE",
                    "make " + shelf + " " + shelf + " 0 = 0", call + " " + shelf + " 0 = OUT");
        }
    }

    private static void lookingIntoEachCell(String call) {
        Run run = Run.of(call + ": the PART in a CELL", "part 1 100 = 0", "part 1 200 = 1", "fault 0 8 = 1", "fault 1 9 = 1",
                "make 0 8 40 = 40");
        for (int i = 0; i < 40; i++) {
            run.row("lay 0 " + i + " " + (i == 0 || i == 39 ? 1 : 0), 1);
        }
        int due = call.equals("weigh") ? 206 : call.equals("rigid") ? 2 : -39;
        int dueBeside = call.equals("weigh") ? 100 + 3 * 38 : call.equals("rigid") ? 38 : -38;
        for (int i = 0; i < 40; i++) {
            run.row(call + " 0 " + i, i == 0 || i == 39 ? due : dueBeside);
        }
    }

    private static void rigidCast() {
        Run.of("rigid: CAST: it is not RIGID (an EMPTY CELL is GONE)", SHELVES).rows("lay 7 0 0 = 1", "lay 7 1 2 = 1", "lay 9 0 2 = 1",
                "rigid 7 0 = CAST", "rigid 7 1 = CAST", "rigid 9 0 = CAST", "rigid 9 1 = GONE", "rigid 7 2 = GONE", "rigid 8 0 = GONE",
                "rigid 7 3 = OUT");
    }

    private static void rigidHowOften() {
        Run run = Run.of("rigid: How often the RIGID PART in a CELL was LAID", SHELVES).rows("part 1 10 = 3", "lay 7 0 3 = 1");
        for (int times = 1; times < 100; times++) {
            run.row("lay 8 " + times % 3 + " 1", 1).row("rigid 8 " + times % 3, times);
        }
        run.rows("rigid 7 0 = 1", "weigh 8 0 = 307", "weigh 7 0 = 13");
    }

    private static void faultTaken() {
        for (int part = 0; part < 3; part++) {
            Run run = Run.of("fault: A PART gets a FAULT (code 0 .. 9), or has none (-1): 1", SHELVES).rows("lay 7 0 0 = 1",
                    "lay 7 1 1 = 1", "lay 7 2 2 = 1");
            run.rows("fault " + part + " -1 = 1", "raise 7 " + part + " = GONE", "fault " + part + " 0 = 1", "raise 7 " + part + " = -30",
                    "fault " + part + " 9 = 1", "raise 7 " + part + " = -39", "raise 7 " + part + " = -39",
                    "raise 7 " + (part + 1) % 3 + " = GONE", "raise 7 " + (part + 2) % 3 + " = GONE", "fault " + part + " -1 = 1",
                    "raise 7 " + part + " = GONE");
        }
    }

    private static void faultBad() {
        Run run = Run.of("fault: BAD", "fault 0 0 = BAD", "fault 0 -1 = BAD", "part 0 1 = 0", "fault 0 7 = 1", "make 0 7 1 = 1",
                "lay 0 0 0 = 1");
        for (String code : new String[] {"-2", "10", "min", "max"}) {
            run.rows("fault 0 " + code + " = BAD", "fault 1 " + code + " = BAD", "raise 0 0 = -37");
        }
        for (String part : new String[] {"-1", "1", "39", "40", "min", "max"}) {
            run.rows("fault " + part + " 3 = BAD", "fault " + part + " -1 = BAD", "raise 0 0 = -37");
        }
    }

    private static void raiseOfNone() {
        Run.of("raise: GONE: also it has none", SHELVES).rows("lay 7 0 0 = 1", "raise 7 0 = GONE", "fault 1 5 = 1", "raise 7 0 = GONE",
                "lay 7 0 1 = 1", "raise 7 0 = -35", "copy 7 0 8 0 1 = 1", "raise 8 0 = -35", "fault 1 -1 = 1", "raise 7 0 = GONE",
                "raise 8 0 = GONE", "weigh 7 0 = 13");
    }
}
