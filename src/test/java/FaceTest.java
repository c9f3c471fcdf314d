import java.lang.reflect.Constructor;
import java.lang.reflect.Field;
import java.lang.reflect.Method;
import java.lang.reflect.Modifier;
import java.util.Map;
import java.util.Set;
import java.util.TreeMap;
import java.util.TreeSet;

/** The public face is the document's, and rules 1, 5 and 11 of LANGUAGE.md as far as the machine tells them. */
public final class FaceTest {
    private static final String[] METHODS = {
        "int addHouse(int,int,int)", "int set(int,int)", "int power(boolean)", "int pass(int)", "int type(char)",
        "int clearText()", "int readProgram(int)", "int start(int)", "int stop(int)", "int bail(int)",
        "int openDoor(int)", "int closeDoor(int)", "int haggle(int,int,int,int,int)", "int undo()", "int keep()",
        "int restore()", "int house(int,int)", "int washer(int,int)", "int phase(int,int,int)", "int boiler(int)",
        "int heatNext(int)", "int lease(int,int)", "int ask(int,int)", "int overIn(int)", "int freeIn(int)",
        "int count(int)"
    };

    public static void main(String[] args) throws IllegalAccessException {
        constants();
        methods();
        members();
        classesInside();
        Check.end();
    }

    private static void constants() throws IllegalAccessException {
        Map<String, Integer> due = new TreeMap<>();
        due.put("UNKNOWN", -1);
        due.put("BAD_VALUE", -2);
        due.put("FULL", -3);
        due.put("NOT_POSSIBLE", -4);
        due.put("NONE", -5);
        int found = 0;
        for (Field field : HaggleWash.class.getDeclaredFields()) {
            if (Modifier.isPublic(field.getModifiers())) {
                found++;
                Check.holds(field + " is due", due.containsKey(field.getName()));
                Check.due(field.getName(), field.getInt(null), due.getOrDefault(field.getName(), 0));
            }
        }
        Check.due("constants", found, due.size());
    }

    private static String signature(Method method) {
        StringBuilder all = new StringBuilder();
        all.append(method.getReturnType()).append(' ').append(method.getName()).append('(');
        String between = "";
        for (Class<?> type : method.getParameterTypes()) {
            all.append(between).append(type.getName());
            between = ",";
        }
        return all.append(')').toString();
    }

    private static void methods() {
        Set<String> due = new TreeSet<>(Set.of(METHODS));
        Set<String> found = new TreeSet<>();
        for (Method method : HaggleWash.class.getDeclaredMethods()) {
            if (Modifier.isPublic(method.getModifiers())) {
                found.add(signature(method));
                Check.holds(method + " is of the object", !Modifier.isStatic(method.getModifiers()));
            }
        }
        Check.holds("methods " + found, found.equals(due));
    }

    private static void members() {
        Check.due("class", HaggleWash.class.getModifiers(), Modifier.PUBLIC | Modifier.FINAL);
        Constructor<?>[] constructors = HaggleWash.class.getDeclaredConstructors();
        Check.due("constructors", constructors.length, 1);
        Check.holds("constructor", Modifier.isPublic(constructors[0].getModifiers())
                && constructors[0].getParameterCount() == 0);
        for (Method method : HaggleWash.class.getDeclaredMethods()) {
            int is = method.getModifiers();
            Check.holds(method + " is public or private", Modifier.isPublic(is) || Modifier.isPrivate(is));
            Check.holds(method + " bears no public name", Modifier.isPublic(is) || !isPublicName(method.getName()));
        }
        for (Field field : HaggleWash.class.getDeclaredFields()) {
            int is = field.getModifiers();
            Check.holds(field + " is public or private", Modifier.isPublic(is) || Modifier.isPrivate(is));
        }
    }

    private static boolean isPublicName(String name) {
        for (String method : METHODS) {
            if (method.startsWith("int " + name + "(")) {
                return true;
            }
        }
        return false;
    }

    private static void classesInside() {
        Class<?>[] inside = HaggleWash.class.getDeclaredClasses();
        Check.holds("at most twelve classes", inside.length < 12);
        checkFields(HaggleWash.class);
        for (Class<?> type : inside) {
            int is = type.getModifiers();
            Check.holds(type + " is static", Modifier.isStatic(is));
            Check.holds(type + " is not seen", !Modifier.isPublic(is) && !Modifier.isProtected(is));
            checkFields(type);
            for (Method method : type.getDeclaredMethods()) {
                Check.holds(method + " bears no public name", !isPublicName(method.getName()));
                Check.holds(method + " has few parameters", method.getParameterCount() <= 7);
            }
        }
    }

    private static void checkFields(Class<?> type) {
        int ofObjects = 0;
        for (Field field : type.getDeclaredFields()) {
            int is = field.getModifiers();
            if (Modifier.isStatic(is)) {
                Class<?> of = field.getType();
                Check.holds(field + " is final", Modifier.isFinal(is));
                Check.holds(field + " is a constant", of.isPrimitive() || of == String.class || of == int[].class);
            } else {
                ofObjects++;
            }
        }
        Check.holds(type + " has some twenty fields", ofObjects <= 20);
    }
}
