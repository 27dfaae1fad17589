/**
 * Runs of calls on one new object, written as texts: "put 0 3 1 = OUT" is a call and the answer that is due.
 * min and max are the least and greatest int, MIN and MAX the least and greatest long, o543210 a rule's digits by 8.
 */
final class Run {
    private static final int MOST_CALLS = 512;

    private final String sentence;
    private final MappingMoves x = new MappingMoves();
    private int calls = 0;

    /** The sentence of the document that a wrong answer breaks. */
    Run(String sentence) {
        this.sentence = sentence;
    }

    static Run of(String sentence, String... rows) {
        return new Run(sentence).rows(rows);
    }

    Run rows(String... rows) {
        for (String row : rows) {
            int equals = row.indexOf(" = ");
            String call = row.substring(0, equals);
            Due.is(sentence + " [" + (calls + 1) + "] " + call, answer(call), due(row.substring(equals + 3)));
        }
        return this;
    }

    Run row(String call, long due) {
        Due.is(sentence + " [" + (calls + 1) + "] " + call, answer(call), due);
        return this;
    }

    Run times(int n, String row) {
        for (int k = 0; k < n; k++) {
            rows(row);
        }
        return this;
    }

    int callsLeft() {
        return MOST_CALLS - calls;
    }

    /** What a call answers, an exception of get() told as Due tells it. */
    long answer(String call) {
        calls++;
        if (calls > MOST_CALLS) {
            throw new IllegalStateException("a test of more than 512 calls: " + sentence);
        }
        String[] words = call.split(" ");
        long[] a = new long[words.length - 1];
        for (int k = 0; k < a.length; k++) {
            a[k] = number(words[k + 1]);
        }
        return answer(words[0], a);
    }

    private long answer(String name, long[] a) {
        switch (name) {
            case "make": return x.make(whole(a, 0), whole(a, 1), whole(a, 2));
            case "let": return x.let(whole(a, 0));
            case "drop": return x.drop(whole(a, 0));
            case "kind": return x.kind(whole(a, 0));
            case "length": return x.length(whole(a, 0));
            case "put": return x.put(whole(a, 0), whole(a, 1), a[2]);
            case "get": return Due.get(x, whole(a, 0), whole(a, 1));
            case "sum": return x.sum(whole(a, 0), whole(a, 1));
            case "turn": return x.turn(whole(a, 0), whole(a, 1));
            case "part": return x.part(whole(a, 0), whole(a, 1));
            case "lay": return x.lay(whole(a, 0), whole(a, 1), whole(a, 2));
            case "weigh": return x.weigh(whole(a, 0), whole(a, 1));
            case "rigid": return x.rigid(whole(a, 0), whole(a, 1));
            case "fault": return x.fault(whole(a, 0), whole(a, 1));
            case "raise": return x.raise(whole(a, 0), whole(a, 1));
            case "copy": return x.copy(whole(a, 0), whole(a, 1), whole(a, 2), whole(a, 3), whole(a, 4));
            case "copied": return x.copied();
            case "move": return x.move(whole(a, 0), whole(a, 1), whole(a, 2));
            case "like": return x.like(whole(a, 0), whole(a, 1));
            case "told": return x.told(whole(a, 0));
            default: throw new IllegalArgumentException(name);
        }
    }

    private static int whole(long[] a, int k) {
        return Math.toIntExact(a[k]);
    }

    private static long number(String word) {
        switch (word) {
            case "min": return Integer.MIN_VALUE;
            case "max": return Integer.MAX_VALUE;
            case "MIN": return Long.MIN_VALUE;
            case "MAX": return Long.MAX_VALUE;
            default: return word.startsWith("o") ? Long.parseLong(word.substring(1), 8) : Long.parseLong(word);
        }
    }

    private static long due(String word) {
        switch (word) {
            case "BAD": return -1;
            case "FULL": return -2;
            case "GONE": return -11;
            case "OUT": return -12;
            case "OTHER": return -13;
            case "STORE": return -14;
            case "CAST": return -15;
            case "BELOW": return -16;
            case "NULL": return Due.NULL_POINTER;
            case "BOUNDS": return Due.OUT_OF_BOUNDS;
            default: return number(word);
        }
    }
}
