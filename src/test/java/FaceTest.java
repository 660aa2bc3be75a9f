import java.lang.reflect.Constructor;
import java.lang.reflect.Field;
import java.lang.reflect.Member;
import java.lang.reflect.Method;
import java.lang.reflect.Modifier;
import java.util.Arrays;
import java.util.Map;
import java.util.TreeMap;
import java.util.TreeSet;

/** The class has the face of the document: its constants, its constructor, its methods, and nothing else that is not private. */
final class FaceTest {
    private static final Check check = new Check();

    private static final String[] METHODS = {
        "int feed(int,int,int,int,int)", "int load(int)", "int errorPosition()", "int count(int)", "int undoCount()",
        "int named(int,int)", "int getSetting(int)", "int regionAround(int)!", "int regionOf(int)!", "int wardsIn(int)!",
        "int depthOf(int)!", "int boxProperty(int,int)!", "int placeOf(int)!", "int papers(int,int)!",
        "boolean isSealGood(int)!", "int ledgerSize(int)!", "int ledger(int,int)!", "int boxAt(int)!", "int slipOf(int)!",
        "int counted(int,int,int)!", "int countedAt(int,int)!", "int wouldCount(int,int,int)!", "boolean isConfirmed(int)!",
        "int result(int,int)!", "int surplus(int)!", "boolean isOff(int)!", "int wardVotes(int,int)!", "int leader(int)!",
        "int margin(int)!", "boolean isClose(int)!", "int whyNot(int)!", "int toCount()", "int countsLeft(int)!",
        "int rightTable(int)!", "int nextWard()", "int declaredCount()", "int declared(int)",
        "boolean isRegionDeclared(int)!", "int regionVotes(int,int)!", "int regionSeats(int,int)!",
        "boolean isDecided(int)!", "int misplaced()", "int worstTable()", "int bring(int)", "int open(int,int)",
        "int countBox(int)", "int seal(int)", "int tamper(int,int)", "int accept(int)", "int declare()", "int work()",
        "int setSetting(int,int)", "int undo()", "int write(int)!", "int outputAt(int)",
    };

    public static void main(String[] args) throws ReflectiveOperationException {
        constants();
        methods();
        constructors();
        privateNames();
        check.end();
    }

    private static boolean isPrivate(Member member) {
        return Modifier.isPrivate(member.getModifiers());
    }

    private static void constants() throws ReflectiveOperationException {
        Map<String, Integer> due = new TreeMap<>();
        due.put("AWAY", -3);
        due.put("HALL", -4);
        due.put("TRIGGER", 0);
        due.put("TOLERANCE", 1);
        due.put("NOT_FOUND", -1);
        due.put("BAD_VALUE", -2);
        due.put("FULL", -5);
        due.put("NOT_ALLOWED", -6);
        due.put("BAD_SEAL", -7);
        due.put("SYNTAX_ERROR", -11);
        due.put("RANGE_ERROR", -12);
        due.put("NAME_ERROR", -13);
        due.put("DUPLICATE_ERROR", -14);
        due.put("COUNT_ERROR", -15);
        Map<String, Integer> got = new TreeMap<>();
        for (Field field : CountHall.class.getDeclaredFields()) {
            if (!isPrivate(field)) {
                check.holds(field + " is a constant", Modifier.toString(field.getModifiers()).equals("public static final"));
                got.put(field.getName(), field.getInt(null));
            }
        }
        check.holds("constants " + got, got.equals(due));
    }

    private static void methods() {
        TreeSet<String> got = new TreeSet<>();
        for (Method method : CountHall.class.getDeclaredMethods()) {
            if (!isPrivate(method)) {
                StringBuilder text = new StringBuilder(method.getReturnType() + " " + method.getName() + "(");
                for (Class<?> type : method.getParameterTypes()) {
                    text.append(text.charAt(text.length() - 1) == '(' ? "" : ",").append(type);
                }
                boolean throwing = Arrays.equals(method.getExceptionTypes(), new Class<?>[] {IndexOutOfBoundsException.class});
                got.add(text + ")" + (throwing ? "!" : ""));
                check.due(method + " is public", method.getModifiers(), Modifier.PUBLIC);
            }
        }
        check.holds("methods " + got, got.equals(new TreeSet<>(Arrays.asList(METHODS))));
    }

    private static void constructors() {
        Constructor<?>[] constructors = CountHall.class.getDeclaredConstructors();
        check.due("constructors", constructors.length, 1);
        check.due("parameters", constructors[0].getParameterCount(), 0);
        check.due("modifiers", constructors[0].getModifiers(), Modifier.PUBLIC);
        check.due("the class", CountHall.class.getModifiers(), Modifier.PUBLIC | Modifier.FINAL);
    }

    /** LANGUAGE.md, rule 1: no private method bears the name of a public one. */
    private static void privateNames() {
        TreeSet<String> face = new TreeSet<>();
        for (String method : METHODS) {
            face.add(method.substring(method.indexOf(' ') + 1, method.indexOf('(')));
        }
        for (Method method : CountHall.class.getDeclaredMethods()) {
            check.fails(method.toString(), isPrivate(method) && face.contains(method.getName()));
        }
        for (Class<?> inside : CountHall.class.getDeclaredClasses()) {
            check.holds(inside + " is private and static", Modifier.toString(inside.getModifiers()).equals("private static final"));
            for (Method method : inside.getDeclaredMethods()) {
                check.fails(method.toString(), face.contains(method.getName()));
            }
        }
    }
}
