import java.lang.reflect.Array;
import java.math.BigDecimal;

/**
 * The document once more, by other means: real arrays of each kind, whose own exceptions tell what was in the way,
 * and decimals for what is exact. It shares no code with the class.
 */
final class Model {
    static class Part {
        int number, w, laid, fault = -1;

        int weighed() {
            return w;
        }
    }

    static final class Rigid extends Part {
        @Override
        int weighed() {
            return w + 3 * laid;
        }
    }

    static final class Soft extends Part {
        int odd;

        @Override
        int weighed() {
            return w / 2 + odd;
        }
    }

    private static final Class<?>[] TYPES = {byte.class, short.class, char.class, int.class, long.class,
        float.class, double.class, Part.class, Rigid.class, Soft.class};

    private final int[] kinds = new int[24];
    private final Object[] cells = new Object[24];
    private final Part[] parts = new Part[40];
    private int count = 0;
    private int copied = 0;

    Model() {
        java.util.Arrays.fill(kinds, -1);
    }

    private static boolean within(int v, int least, int most) {
        return least <= v && v <= most;
    }

    int make(int place, int kind, int n) {
        if (!within(place, 0, 23) || !within(kind, 0, 9) || n > 40) {
            return -1;
        }
        try {
            cells[place] = Array.newInstance(TYPES[kind], n);
        } catch (NegativeArraySizeException e) {
            return -16;
        }
        kinds[place] = kind;
        return n;
    }

    int let(int place) {
        if (!within(place, 0, 23)) {
            return -1;
        }
        if (cells[place] == null) {
            return -11;
        }
        int had = Array.getLength(cells[place]);
        cells[place] = null;
        return had;
    }

    int drop(int place) {
        if (!within(place, 0, 23)) {
            return -1;
        }
        int had = kinds[place] == -1 ? 0 : 1;
        kinds[place] = -1;
        cells[place] = null;
        return had;
    }

    int kind(int place) {
        return !within(place, 0, 23) ? -1 : kinds[place] == -1 ? -11 : kinds[place];
    }

    int length(int place) {
        return !within(place, 0, 23) ? -1 : cells[place] == null ? -11 : Array.getLength(cells[place]);
    }

    int put(int place, int i, long v) {
        if (!within(place, 0, 23)) {
            return -1;
        }
        if (kinds[place] == -1) {
            return -11;
        }
        if (kinds[place] > 6) {
            return -13;
        }
        try {
            switch (kinds[place]) {
                case 0 -> ((byte[]) cells[place])[i] = (byte) v;
                case 1 -> ((short[]) cells[place])[i] = (short) v;
                case 2 -> ((char[]) cells[place])[i] = (char) v;
                case 3 -> ((int[]) cells[place])[i] = (int) v;
                case 4 -> ((long[]) cells[place])[i] = v;
                case 5 -> ((float[]) cells[place])[i] = (float) v / 8.0f;
                default -> ((double[]) cells[place])[i] = (double) v / 8.0;
            }
        } catch (NullPointerException e) {
            return -11;
        } catch (ArrayIndexOutOfBoundsException e) {
            return -12;
        }
        return 1;
    }

    private static long tell(Object column, int i) {
        if (column instanceof byte[] c) {
            return c[i];
        } else if (column instanceof short[] c) {
            return c[i];
        } else if (column instanceof char[] c) {
            return c[i];
        } else if (column instanceof int[] c) {
            return c[i];
        } else if (column instanceof long[] c) {
            return c[i];
        } else if (column instanceof float[] c) {
            return (long) (c[i] * 8.0f);
        } else if (column instanceof double[] c) {
            return (long) (c[i] * 8.0);
        }
        return ((Part[]) column)[i].number;
    }

    long get(int place, int i) {
        if (!within(place, 0, 23)) {
            return Due.OUT_OF_BOUNDS;
        }
        try {
            return tell(cells[place], i);
        } catch (NullPointerException e) {
            return Due.NULL_POINTER;
        } catch (ArrayIndexOutOfBoundsException e) {
            return Due.OUT_OF_BOUNDS;
        }
    }

    int sum(int place, int kind) {
        if (!within(place, 0, 23) || !within(kind, 0, 6)) {
            return -1;
        }
        if (kinds[place] == -1) {
            return -11;
        }
        if (kinds[place] != kind) {
            return -15;
        }
        if (cells[place] == null) {
            return -11;
        }
        long all = 0;
        for (int i = 0; i < Array.getLength(cells[place]); i++) {
            all += tell(cells[place], i);
        }
        return (int) all;
    }

    private static BigDecimal exact(Object column, int i) {
        if (column instanceof float[] c) {
            return new BigDecimal((double) c[i]);
        } else if (column instanceof double[] c) {
            return new BigDecimal(c[i]);
        }
        return BigDecimal.valueOf(tell(column, i));
    }

    private static void set(Object column, int i, BigDecimal number) {
        if (column instanceof byte[] c) {
            c[i] = number.byteValue();
        } else if (column instanceof short[] c) {
            c[i] = number.shortValue();
        } else if (column instanceof char[] c) {
            c[i] = (char) number.intValue();
        } else if (column instanceof int[] c) {
            c[i] = number.intValue();
        } else if (column instanceof long[] c) {
            c[i] = number.longValue();
        } else if (column instanceof float[] c) {
            c[i] = number.floatValue();
        } else if (column instanceof double[] c) {
            c[i] = number.doubleValue();
        }
    }

    int turn(int place, int kind) {
        if (!within(place, 0, 23) || !within(kind, 0, 6)) {
            return -1;
        }
        if (kinds[place] == -1) {
            return -11;
        }
        if (kinds[place] > 6) {
            return -13;
        }
        if (cells[place] == null) {
            return -11;
        }
        int n = Array.getLength(cells[place]);
        Object turned = Array.newInstance(TYPES[kind], n);
        for (int i = 0; i < n; i++) {
            BigDecimal number = exact(cells[place], i);
            set(turned, i, number);
            if (exact(turned, i).compareTo(number) != 0) {
                return -20 - i;
            }
        }
        cells[place] = turned;
        kinds[place] = kind;
        return 1;
    }

    int part(int sort, int w) {
        if (!within(sort, 0, 2) || !within(w, 0, 1000)) {
            return -1;
        }
        if (count == 40) {
            return -2;
        }
        Part part = sort == 0 ? new Part() : sort == 1 ? new Rigid() : new Soft();
        part.number = count;
        part.w = w;
        parts[count++] = part;
        return part.number;
    }

    private int shelf(int place) {
        return !within(place, 0, 23) ? -1 : kinds[place] == -1 ? -11 : kinds[place] < 7 ? -13 : cells[place] == null ? -11 : 0;
    }

    int lay(int place, int i, int part) {
        if (!within(part, -1, count - 1)) {
            return -1;
        }
        if (shelf(place) != 0) {
            return shelf(place);
        }
        Part laid = part == -1 ? null : parts[part];
        try {
            ((Part[]) cells[place])[i] = laid;
        } catch (ArrayIndexOutOfBoundsException e) {
            return -12;
        } catch (ArrayStoreException e) {
            return -14;
        }
        if (laid != null) {
            laid.laid++;
        }
        if (laid instanceof Soft soft && soft.laid % 2 == 1) {
            soft.odd++;
        }
        return 1;
    }

    /** call 0 weigh, 1 rigid, 2 raise. */
    private int look(int place, int i, int call) {
        if (shelf(place) != 0) {
            return shelf(place);
        }
        try {
            Part part = ((Part[]) cells[place])[i];
            if (call == 1) {
                return ((Rigid) part).laid;
            }
            return call == 0 ? part.weighed() : part.fault == -1 ? -11 : -30 - part.fault;
        } catch (ArrayIndexOutOfBoundsException e) {
            return -12;
        } catch (NullPointerException e) {
            return -11;
        } catch (ClassCastException e) {
            return -15;
        }
    }

    int weigh(int place, int i) {
        return look(place, i, 0);
    }

    int rigid(int place, int i) {
        return look(place, i, 1);
    }

    int raise(int place, int i) {
        return look(place, i, 2);
    }

    int fault(int part, int code) {
        if (!within(part, 0, count - 1) || !within(code, -1, 9)) {
            return -1;
        }
        parts[part].fault = code;
        return 1;
    }

    int copy(int from, int at, int into, int to, int n) {
        if (!within(from, 0, 23) || !within(into, 0, 23)) {
            return -1;
        }
        copied = 0;
        if (cells[from] == null || cells[into] == null) {
            return -11;
        }
        boolean partsOfBoth = kinds[from] > 6 && kinds[into] > 6;
        // The machine tells unlike arrays and an unlike part by one exception; they are told apart by where it threw.
        try {
            System.arraycopy(cells[from], at, cells[into], to, n);
        } catch (ArrayStoreException e) {
            if (!partsOfBoth) {
                return -13;
            }
            while (TYPES[kinds[into]].isInstance(Array.get(cells[from], at + copied)) || Array.get(cells[from], at + copied) == null) {
                copied++;
            }
            return -14;
        } catch (IndexOutOfBoundsException e) {
            return -12;
        }
        copied = n;
        return n;
    }

    int copied() {
        return copied;
    }

    private static Object copyOf(Object column) {
        if (column == null) {
            return null;
        }
        int n = Array.getLength(column);
        Object copy = Array.newInstance(column.getClass().getComponentType(), n);
        System.arraycopy(column, 0, copy, 0, n);
        return copy;
    }

    int move(int a, int b, int rule) {
        if (!within(a, 0, 3) || !within(b, 0, 3) || !within(rule, 0, 262143)) {
            return -1;
        }
        int[] oldKinds = kinds.clone();
        Object[] oldCells = cells.clone();
        int there = 0;
        for (int f = 0; f < 6; f++) {
            int digit = rule >> 3 * f & 7;
            if (digit < 6) {
                kinds[6 * b + f] = oldKinds[6 * a + digit];
                cells[6 * b + f] = copyOf(oldCells[6 * a + digit]);
            } else if (digit == 6) {
                drop(6 * b + f);
            }
            there += kinds[6 * b + f] == -1 ? 0 : 1;
        }
        return there;
    }

    int like(int a, int b) {
        if (!within(a, 0, 23) || !within(b, 0, 23)) {
            return -1;
        }
        if (cells[a] == null || cells[b] == null) {
            return -11;
        }
        boolean same = kinds[a] == kinds[b] && Array.getLength(cells[a]) == Array.getLength(cells[b]);
        for (int i = 0; same && i < Array.getLength(cells[a]); i++) {
            same = java.util.Objects.equals(Array.get(cells[a], i), Array.get(cells[b], i));
        }
        return same ? 1 : 0;
    }

    int told(int what) {
        int columns = 0;
        int all = 0;
        int filled = 0;
        for (int place = 0; place < 24; place++) {
            columns += kinds[place] == -1 ? 0 : 1;
            for (int i = 0; cells[place] != null && i < Array.getLength(cells[place]); i++) {
                all++;
                filled += cells[place] instanceof Part[] shelf && shelf[i] != null ? 1 : 0;
            }
        }
        return what == 0 ? columns : what == 1 ? all : what == 2 ? count : what == 3 ? filled : -1;
    }
}
