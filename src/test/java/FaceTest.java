import java.lang.reflect.Constructor;
import java.lang.reflect.Field;
import java.lang.reflect.Method;
import java.lang.reflect.Modifier;
import java.util.Set;
import java.util.TreeSet;

/** The public face, and nothing beside it. */
public final class FaceTest {
    private static final String[] METHODS = {
        "row/2", "drop/1", "clear/0", "set/2", "rowOf/2", "groupOf/2", "finished/1", "passOf/3", "spillOf/2", "total/1",
        "written/2", "bestBits/2", "enough/0", "skewed/1", "count/1", "undo/0", "type/1", "clearText/0", "fault/1", "play/0",
    };

    public static void main(String[] args) {
        Class<?> face = SpilledGroups.class;
        Check.due("modifiers", face.getModifiers(), Modifier.PUBLIC | Modifier.FINAL);
        Check.that(face.getSuperclass() == Object.class && face.getInterfaces().length == 0, "it extends something");
        methods(face);
        constants(face);
        Constructor<?>[] constructors = face.getDeclaredConstructors();
        Check.due("constructors", constructors.length, 1);
        Check.due("constructor's modifiers", constructors[0].getModifiers(), Modifier.PUBLIC);
        Check.due("constructor's parameters", constructors[0].getParameterCount(), 0);
        for (Class<?> inside : face.getDeclaredClasses()) {
            int modifiers = inside.getModifiers();
            Check.that(Modifier.isStatic(modifiers) && !Modifier.isPublic(modifiers) && !Modifier.isProtected(modifiers),
                "the class inside is not as it should be: " + inside);
        }
        Check.end();
    }

    private static void methods(Class<?> face) {
        Set<String> names = new TreeSet<>();
        Set<String> due = new TreeSet<>();
        for (String method : METHODS) {
            due.add(method);
        }
        for (Method method : face.getDeclaredMethods()) {
            String name = method.getName() + "/" + method.getParameterCount();
            if (Modifier.isPrivate(method.getModifiers())) {
                Check.that(due.stream().noneMatch(d -> d.startsWith(method.getName() + "/")), "a private method is named " + name);
                continue;
            }
            names.add(name);
            Check.due("modifiers of " + name, method.getModifiers(), Modifier.PUBLIC);
            Check.that(method.getReturnType() == int.class, name + " answers no int");
            for (Class<?> parameter : method.getParameterTypes()) {
                Check.that(parameter == int.class, name + " takes more than ints");
            }
        }
        Check.that(names.equals(due), "the methods are " + names);
    }

    private static void constants(Class<?> face) {
        Set<String> names = new TreeSet<>();
        for (Field field : face.getDeclaredFields()) {
            if (!Modifier.isPrivate(field.getModifiers())) {
                names.add(field.getName());
                Check.due("modifiers of " + field.getName(), field.getModifiers(), Modifier.PUBLIC | Modifier.STATIC | Modifier.FINAL);
                Check.that(field.getType() == int.class, field.getName() + " is no int");
            }
        }
        Check.that(names.equals(Set.of("INVALID_ARGUMENT", "NOT_POSSIBLE", "LIMIT_REACHED", "NOT_FOUND")), "the constants are " + names);
        Check.due("INVALID_ARGUMENT", SpilledGroups.INVALID_ARGUMENT, -1000001);
        Check.due("NOT_POSSIBLE", SpilledGroups.NOT_POSSIBLE, -1000002);
        Check.due("LIMIT_REACHED", SpilledGroups.LIMIT_REACHED, -1000003);
        Check.due("NOT_FOUND", SpilledGroups.NOT_FOUND, -1000004);
    }
}
