import java.io.IOException;
import java.lang.reflect.Constructor;
import java.lang.reflect.Field;
import java.lang.reflect.Member;
import java.lang.reflect.Method;
import java.lang.reflect.Modifier;
import java.nio.file.Files;
import java.nio.file.Path;
import java.util.Arrays;
import java.util.HashSet;
import java.util.Set;
import java.util.TreeSet;

/** The public face, and those rules of LANGUAGE.md that can be read off the class or its text. */
public final class FaceTest {
    private static final String[] FACE = {
        "int make(int,int,int)", "int let(int)", "int drop(int)", "int kind(int)", "int length(int)",
        "int put(int,int,long)", "long get(int,int)", "int sum(int,int)", "int turn(int,int)",
        "int part(int,int)", "int lay(int,int,int)", "int weigh(int,int)", "int rigid(int,int)",
        "int fault(int,int)", "int raise(int,int)",
        "int copy(int,int,int,int,int)", "int copied()", "int move(int,int,int)", "int like(int,int)", "int told(int)",
    };

    public static void main(String[] args) throws IOException, NoSuchMethodException {
        constants();
        methods();
        nothingElseCanBeSeen();
        String text = Files.readString(Path.of("src/main/java/MappingMoves.java"));
        words(text);
        sections(text);
        throwsStandInGetAlone(text);
        Due.end();
    }

    private static void constants() {
        Due.is("BAD", MappingMoves.BAD, -1);
        Due.is("FULL", MappingMoves.FULL, -2);
        Due.is("GONE", MappingMoves.GONE, -11);
        Due.is("OUT", MappingMoves.OUT, -12);
        Due.is("OTHER", MappingMoves.OTHER, -13);
        Due.is("STORE", MappingMoves.STORE, -14);
        Due.is("CAST", MappingMoves.CAST, -15);
        Due.is("BELOW", MappingMoves.BELOW, -16);
    }

    private static void methods() throws NoSuchMethodException {
        Set<String> seen = new TreeSet<>();
        Set<String> publicNames = new HashSet<>();
        for (Method method : MappingMoves.class.getDeclaredMethods()) {
            if (Modifier.isPublic(method.getModifiers())) {
                StringBuilder told = new StringBuilder();
                told.append(method.getReturnType()).append(' ').append(method.getName()).append('(');
                for (Class<?> type : method.getParameterTypes()) {
                    told.append(told.charAt(told.length() - 1) == '(' ? "" : ",").append(type);
                }
                seen.add(told.append(')').toString());
                publicNames.add(method.getName());
                Due.holds(method + " belongs to the object", !Modifier.isStatic(method.getModifiers()));
            }
        }
        Due.holds("the public methods are the document's: " + seen, seen.equals(new TreeSet<>(Arrays.asList(FACE))));
        for (Method method : MappingMoves.class.getDeclaredMethods()) {
            boolean namesake = !Modifier.isPublic(method.getModifiers()) && publicNames.contains(method.getName());
            Due.holds(method + " bears no public method's name", !namesake);
        }
        Class<?>[] thrown = MappingMoves.class.getMethod("get", int.class, int.class).getExceptionTypes();
        Due.holds("get names its exceptions", Arrays.asList(thrown)
                .equals(Arrays.asList(NullPointerException.class, ArrayIndexOutOfBoundsException.class)));
    }

    private static void nothingElseCanBeSeen() {
        int modifiers = MappingMoves.class.getModifiers();
        Due.holds("the class is public and final", Modifier.isPublic(modifiers) && Modifier.isFinal(modifiers));
        Due.is("public fields", MappingMoves.class.getFields().length, 8);
        for (Field field : MappingMoves.class.getDeclaredFields()) {
            publicOrPrivate(field);
            boolean still = !Modifier.isStatic(field.getModifiers()) || Modifier.isFinal(field.getModifiers());
            Due.holds(field + " is final if it is static", still);
        }
        for (Method method : MappingMoves.class.getDeclaredMethods()) {
            publicOrPrivate(method);
        }
        Constructor<?>[] constructors = MappingMoves.class.getDeclaredConstructors();
        Due.is("constructors", constructors.length, 1);
        Due.holds("the constructor is public, without parameters",
                Modifier.isPublic(constructors[0].getModifiers()) && constructors[0].getParameterCount() == 0);
        for (Class<?> inside : MappingMoves.class.getDeclaredClasses()) {
            int of = inside.getModifiers();
            Due.holds(inside + " is static, and not public",
                    Modifier.isStatic(of) && !Modifier.isPublic(of) && !Modifier.isProtected(of));
        }
    }

    private static void publicOrPrivate(Member member) {
        int of = member.getModifiers();
        Due.holds(member + " is public or private", Modifier.isPublic(of) || Modifier.isPrivate(of));
    }

    private static void words(String text) {
        for (String word : new String[] {"catch", "try", "finally", "import", "package", "synchronized", "assert", "Exact"}) {
            Due.holds("the text has no word " + word, !text.matches("(?s).*\\b\\w*" + word + "\\b.*"));
        }
        for (String sign : new String[] {"->", "::", "Math.", "Double.", "Float."}) {
            Due.holds("the text has no " + sign, !text.contains(sign));
        }
        Due.holds("the text is of characters 0 to 127", text.chars().allMatch(c -> c < 128));
    }

    /** 'Ahead of the calls .. the interface says: ---- ..': the heads and the calls in the document's order. */
    private static void sections(String text) {
        String[] order = {"// ---- columns", "make", "let", "drop", "kind", "length", "// ---- numbers", "put", "get", "sum", "turn",
            "// ---- parts", "part", "lay", "weigh", "rigid", "fault", "raise",
            "// ---- from one to another", "copy", "copied", "move", "like", "told"};
        int behind = 0;
        for (String next : order) {
            String type = next.equals("get") ? "long " : "int ";
            int at = text.indexOf(next.startsWith("//") ? next + "\n" : "public " + type + next + "(", behind);
            Due.holds(next + " stands where the document has it", at >= 0);
            behind = Math.max(at, behind);
        }
    }

    private static void throwsStandInGetAlone(String text) {
        int first = text.indexOf("public long get(");
        int end = text.indexOf("public int sum(");
        String get = text.substring(first, end);
        Due.is("throws in get()", get.split("throw new ", -1).length - 1, 4);
        Due.is("throws in all", text.split("\\bthrow\\b", -1).length - 1, 4);
    }
}
