import java.lang.reflect.Constructor;
import java.lang.reflect.Field;
import java.lang.reflect.Method;
import java.lang.reflect.Modifier;
import java.util.ArrayList;
import java.util.Collections;
import java.util.List;

/** The class has the document's face and no other member that is not private. */
public final class Face {
    private static final String[] METHODS = {
        "int type(int)", "int clear()", "int read()", "int order(int)", "int under(int,int)", "int alike(int,int)",
        "int apart(int,int,int)", "int near(int,int,int)", "int shared(int,int)", "int way(int,int)", "int size(int)",
        "int head(int)", "long code(int)", "int deep(int)", "int heads(int)", "int many(int,int)", "int looping(int)",
        "int filled(int)", "int least(int)", "int signs(int,int)", "int base(int,int)", "int make(int,int,int,int)",
        "int part(int,int,int)", "int copy(int,int)", "int bound(int,int,int,int)", "int swap(int,int,int,int)",
        "int cut(int,int,int)", "int turn(int,int,int)", "int draw(int,int,int)", "int back()", "int told(int)",
        "long digest()"};
    private static final String[] CONSTANTS = {"NONE -1", "BAD -2", "NO -3", "FULL -4"};

    private static int wrong;

    private static void due(boolean holds, String what) {
        if (!holds) {
            wrong++;
            System.out.println("face: " + what);
        }
    }

    public static void main(String[] args) throws Exception {
        due(LoopTypes.class.getModifiers() == (Modifier.PUBLIC | Modifier.FINAL), "the class is public and final");
        Constructor<?>[] constructors = LoopTypes.class.getDeclaredConstructors();
        due(constructors.length == 1 && Modifier.isPublic(constructors[0].getModifiers())
            && constructors[0].getParameterCount() == 0, "one public constructor without parameters");
        checkMethods();
        checkConstants();
        checkInside();
        System.out.println(wrong == 0 ? "face: as told" : "face: " + wrong + " faults");
        if (wrong != 0) {
            System.exit(1);
        }
    }

    private static void checkMethods() {
        List<String> open = new ArrayList<>();
        List<String> hidden = new ArrayList<>();
        for (Method method : LoopTypes.class.getDeclaredMethods()) {
            StringBuilder text = new StringBuilder(method.getReturnType() + " " + method.getName() + "(");
            for (Class<?> type : method.getParameterTypes()) {
                text.append(text.charAt(text.length() - 1) == '(' ? "" : ",").append(type);
            }
            if (Modifier.isPrivate(method.getModifiers())) {
                hidden.add(method.getName());
            } else {
                due(method.getModifiers() == Modifier.PUBLIC, method.getName() + " is public and no more");
                open.add(text.append(")").toString());
            }
        }
        List<String> want = new ArrayList<>(List.of(METHODS));
        Collections.sort(want);
        Collections.sort(open);
        due(want.equals(open), "methods " + open);
        for (String name : hidden) {
            due(!isPublicName(name), "a private method " + name);
        }
    }

    private static boolean isPublicName(String name) {
        for (String method : METHODS) {
            if (method.substring(method.indexOf(' ') + 1, method.indexOf('(')).equals(name)) {
                return true;
            }
        }
        return false;
    }

    private static void checkConstants() throws Exception {
        List<String> found = new ArrayList<>();
        for (Field field : LoopTypes.class.getDeclaredFields()) {
            if (!Modifier.isPrivate(field.getModifiers())) {
                due(field.getModifiers() == (Modifier.PUBLIC | Modifier.STATIC | Modifier.FINAL) && field.getType() == int.class,
                    field.getName() + " is a public constant");
                found.add(field.getName() + " " + field.getInt(null));
            } else if (Modifier.isStatic(field.getModifiers())) {
                due(Modifier.isFinal(field.getModifiers()), field.getName() + " is final");
            }
        }
        due(found.equals(List.of(CONSTANTS)), "constants " + found);
    }

    private static void checkInside() {
        Class<?>[] inside = LoopTypes.class.getDeclaredClasses();
        due(inside.length <= 11, "at most twelve classes");
        for (Class<?> one : inside) {
            due(Modifier.isStatic(one.getModifiers()) && !Modifier.isPublic(one.getModifiers())
                && !Modifier.isProtected(one.getModifiers()), one.getName() + " is static and not public");
            due(fieldsOf(one) <= 20, one.getName() + " has at most twenty fields");
            for (Method method : one.getDeclaredMethods()) {
                due(!isPublicName(method.getName()), one.getName() + " has a method " + method.getName());
                due(method.getParameterCount() <= 7, method.getName() + " takes at most seven parameters");
            }
        }
        due(fieldsOf(LoopTypes.class) <= 20, "at most twenty fields");
    }

    private static int fieldsOf(Class<?> one) {
        int count = 0;
        for (Field field : one.getDeclaredFields()) {
            if (!Modifier.isStatic(field.getModifiers())) {
                count++;
            }
        }
        return count;
    }
}
