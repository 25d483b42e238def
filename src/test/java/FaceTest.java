import java.lang.reflect.Constructor;
import java.lang.reflect.Field;
import java.lang.reflect.Method;
import java.lang.reflect.Modifier;
import java.util.Arrays;
import java.util.Set;
import java.util.TreeSet;

/** The public face: its members with their types and values, and no other visible member. */
public final class FaceTest {
    private static final String[] CONSTANTS = {
        "K_NUM=1", "K_NAME=2", "K_PLUS=3", "K_MINUS=4", "K_STAR=5", "K_LPAREN=6", "K_RPAREN=7",
        "K_ASSIGN=8", "K_SEMI=9", "ST_NODEF=0", "ST_OK=1", "ST_UNDEF=2", "ST_CYCLE=3",
        "ST_BROKEN=4", "UNIT_OK=-1", "BAD_UNIT=-2",
    };
    private static final String[] METHODS = {
        "boolean append(III)", "boolean setToken(IIII)", "boolean insertToken(IIII)",
        "boolean deleteToken(II)", "boolean clearUnit(I)", "int build()", "int getLength(I)",
        "int getTokenKind(II)", "int getTokenValue(II)", "int getUnitError(I)",
        "int getDefCount(I)", "boolean usesName(II)", "int getOwner(I)", "int getStatus(I)",
        "int getValue(I)", "boolean isChanged(I)",
    };

    public static void main(String[] args) throws Exception {
        Check check = new Check();
        Class<?> face = NameHashBuilder.class;
        check.due("the class is public and final",
                face.getModifiers() == (Modifier.PUBLIC | Modifier.FINAL), true);
        check.due("nested classes", face.getDeclaredClasses().length, 0);
        check.due("it extends Object alone", face.getSuperclass() == Object.class, true);
        check.due("interfaces", face.getInterfaces().length, 0);
        check.same("constants", constants(face).toString(), sorted(CONSTANTS));
        check.same("methods", methods(face, check).toString(), sorted(METHODS));
        Constructor<?>[] constructors = face.getDeclaredConstructors();
        check.due("constructors", constructors.length, 1);
        check.same("constructor", parameters(constructors[0].getParameterTypes()), "(III)");
        check.due("constructor is public", Modifier.isPublic(constructors[0].getModifiers()), true);
        check.end();
    }

    private static Set<String> constants(Class<?> face) throws Exception {
        Set<String> found = new TreeSet<>();
        for (Field field : face.getDeclaredFields()) {
            if (Modifier.isPrivate(field.getModifiers())) {
                continue;
            }
            boolean constant = field.getType() == int.class
                    && field.getModifiers() == (Modifier.PUBLIC | Modifier.STATIC | Modifier.FINAL);
            found.add(constant ? field.getName() + "=" + field.getInt(null) : field.toString());
        }
        return found;
    }

    private static Set<String> methods(Class<?> face, Check check) {
        Set<String> found = new TreeSet<>();
        Set<String> names = new TreeSet<>();
        for (Method method : face.getDeclaredMethods()) {
            if (method.getModifiers() == Modifier.PUBLIC) {
                String parameters = parameters(method.getParameterTypes());
                found.add(method.getReturnType() + " " + method.getName() + parameters);
                names.add(method.getName());
            } else if (!Modifier.isPrivate(method.getModifiers())) {
                found.add(method.toString());
            }
        }
        for (Method method : face.getDeclaredMethods()) {
            boolean clash = Modifier.isPrivate(method.getModifiers()) && names.contains(method.getName());
            check.due("private " + method.getName() + " bears a public name", clash, false);
        }
        return found;
    }

    private static String parameters(Class<?>[] types) {
        StringBuilder text = new StringBuilder("(");
        for (Class<?> type : types) {
            text.append(type == int.class ? "I" : type.getName());
        }
        return text.append(")").toString();
    }

    private static String sorted(String[] words) {
        return new TreeSet<>(Arrays.asList(words)).toString();
    }
}
