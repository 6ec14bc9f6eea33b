import java.lang.reflect.Constructor;
import java.lang.reflect.Field;
import java.lang.reflect.Method;
import java.lang.reflect.Modifier;
import java.util.Set;
import java.util.TreeSet;

/** The face: the class has the document's constants, constructor and methods, and no other open member. */
public final class FaceTest {
    private static final String INDEX = " IndexOutOfBoundsException";
    private static final String ARGUMENT = " IllegalArgumentException";
    private static final String STATE = " IllegalStateException";
    private static final Set<String> FACE = Set.of(
        "int SYNTAX_ERROR -2", "int OUT_OF_RANGE -3", "int DUPLICATE -4", "int TOO_MANY -5", "int TOO_DEEP -6",
        "MultiwayCut()", "int append(int,int,int,int,int)", "int load(int)" + ARGUMENT, "int errorOffset()", "int size()",
        "int edgeCount()", "int terminals()", "int burden(int)" + INDEX, "int edge(int,int)" + INDEX + ARGUMENT,
        "int cutCost(int)" + ARGUMENT, "boolean separates(int)" + ARGUMENT, "int isolatingValue(int)" + ARGUMENT,
        "int isolatingSet(int)" + ARGUMENT, "int lowerBound()", "int dearest()" + STATE, "int unionCut()" + STATE,
        "int unionCost()" + STATE, "int rounds()", "int fixed(int)" + INDEX, "int exactCost()", "int exact(int)" + INDEX,
        "int price(int)" + ARGUMENT, "int nearest(int)" + INDEX, "int distance(int)" + INDEX, "int label(int)" + INDEX,
        "int cost()", "int cut()", "float ratio()", "float meanCost()", "int bestMove(int)" + ARGUMENT,
        "int setLabel(int,int)" + INDEX + ARGUMENT + STATE, "int useNearest()", "int useUnion()" + STATE, "int useExact()",
        "int improve(int)" + ARGUMENT, "int setWeight(int,int)" + INDEX + ARGUMENT,
        "int addEdge(int,int,int)" + INDEX + ARGUMENT + STATE, "int removeEdge(int)" + INDEX,
        "int setTerminal(int,boolean)" + INDEX + STATE, "int undo()", "long checksum()");

    public static void main(String[] args) throws IllegalAccessException {
        Set<String> open = new TreeSet<>();
        Set<String> names = new TreeSet<>();
        for (Field field : MultiwayCut.class.getDeclaredFields()) {
            if (!Modifier.isPrivate(field.getModifiers())) {
                open.add(field.getType().getSimpleName() + " " + field.getName() + " " + field.get(null));
            }
        }
        for (Constructor<?> maker : MultiwayCut.class.getDeclaredConstructors()) {
            open.add(maker.getDeclaringClass().getSimpleName() + types(maker.getParameterTypes()) + thrown(maker.getExceptionTypes()));
        }
        for (Method method : MultiwayCut.class.getDeclaredMethods()) {
            if (!Modifier.isPrivate(method.getModifiers())) {
                names.add(method.getName());
                open.add(method.getReturnType().getSimpleName() + " " + method.getName() + types(method.getParameterTypes())
                    + thrown(method.getExceptionTypes()));
            }
        }
        Check.sameText("the face", open.toString(), new TreeSet<>(FACE).toString());
        Check.sameLong("the class is public and final", MultiwayCut.class.getModifiers(), Modifier.PUBLIC | Modifier.FINAL);
        checkMembers(MultiwayCut.class, names);
        for (Class<?> inside : MultiwayCut.class.getDeclaredClasses()) {
            Check.sameLong(inside + " is static", inside.getModifiers() & Modifier.STATIC, Modifier.STATIC);
            checkMembers(inside, names);
        }
        Check.end();
    }

    /** What LANGUAGE.md asks of static fields, of the number of fields, and of the names of private methods. */
    private static void checkMembers(Class<?> type, Set<String> publicNames) {
        int fields = 0;
        for (Field field : type.getDeclaredFields()) {
            boolean constant = Modifier.isStatic(field.getModifiers());
            fields += constant ? 0 : 1;
            Check.sameLong(field + " is final", constant && !Modifier.isFinal(field.getModifiers()) ? 1 : 0, 0);
        }
        Check.sameLong(type + " has at most 20 fields", Math.max(20, fields), 20);
        for (Method method : type.getDeclaredMethods()) {
            boolean open = Modifier.isPublic(method.getModifiers());
            Check.sameLong(method + " has the name of a public one", !open && publicNames.contains(method.getName()) ? 1 : 0, 0);
        }
    }

    private static String types(Class<?>[] types) {
        StringBuilder text = new StringBuilder("(");
        for (Class<?> type : types) {
            text.append(text.length() == 1 ? "" : ",").append(type.getSimpleName());
        }
        return text.append(")").toString();
    }

    private static String thrown(Class<?>[] types) {
        StringBuilder text = new StringBuilder();
        for (Class<?> type : types) {
            text.append(" ").append(type.getSimpleName());
        }
        return text.toString();
    }
}
