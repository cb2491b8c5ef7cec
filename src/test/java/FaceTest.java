import java.lang.reflect.Constructor;
import java.lang.reflect.Field;
import java.lang.reflect.Method;
import java.lang.reflect.Modifier;
import java.util.Set;
import java.util.TreeSet;

/** The public face of the document, and the rules of LANGUAGE.md that reflection can see. */
public final class FaceTest {
    private static final Check check = new Check();
    private static final Set<String> NUMBERS =
        Set.of("int", "long", "short", "byte", "char", "boolean", "void");

    public static void main(String[] args) {
        constants();
        publicMembers();
        noOtherVisibleMember();
        plainTypes();
        check.finish();
    }

    private static void constants() {
        check.due("NONE", -1, DenseCast.NONE);
        check.due("MIN_ROUTERS", 2, DenseCast.MIN_ROUTERS);
        check.due("MAX_ROUTERS", 12, DenseCast.MAX_ROUTERS);
        check.due("MIN_LINKS", 1, DenseCast.MIN_LINKS);
        check.due("MAX_LINKS", 16, DenseCast.MAX_LINKS);
        check.due("MIN_HOLD", 1, DenseCast.MIN_HOLD);
        check.due("MAX_HOLD", 16, DenseCast.MAX_HOLD);
        check.due("MIN_COST", 1, DenseCast.MIN_COST);
        check.due("MAX_COST", 15, DenseCast.MAX_COST);
        check.due("MAX_PREFERENCE", 255, DenseCast.MAX_PREFERENCE);
        check.due("MAX_TICK", 64, DenseCast.MAX_TICK);
        check.due("MEMBER_FLAG", 256, DenseCast.MEMBER_FLAG);
        check.due("COST_SPAN", 16, DenseCast.COST_SPAN);
    }

    private static void publicMembers() {
        Set<String> due = new TreeSet<>();
        for (String name : new String[] {"NONE", "MIN_ROUTERS", "MAX_ROUTERS", "MIN_LINKS", "MAX_LINKS", "MIN_HOLD",
            "MAX_HOLD", "MIN_COST", "MAX_COST", "MAX_PREFERENCE", "MAX_TICK", "MEMBER_FLAG", "COST_SPAN"}) {
            due.add("public static final int DenseCast." + name);
        }
        due.add("public DenseCast(int,int,int)");
        for (String name : new String[] {"attach", "detach", "setCost", "setPreference"}) {
            due.add("public boolean DenseCast." + name + "(int,int)");
        }
        for (String name : new String[] {"distance", "rpfLink", "forwarder", "pruneLeft"}) {
            due.add("public int DenseCast." + name + "(int,int)");
        }
        for (String name : new String[] {"send", "received", "carried", "linkState", "routerState"}) {
            due.add("public int DenseCast." + name + "(int)");
        }
        due.add("public boolean DenseCast.join(int)");
        due.add("public boolean DenseCast.leave(int)");
        due.add("public void DenseCast.tick(int)");

        Set<String> found = new TreeSet<>();
        for (Field field : DenseCast.class.getFields()) {
            found.add(field.toString());
        }
        for (Constructor<?> made : DenseCast.class.getConstructors()) {
            found.add(made.toString());
        }
        for (Method method : DenseCast.class.getDeclaredMethods()) {
            if (Modifier.isPublic(method.getModifiers())) {
                found.add(method.toString());
            }
        }
        check.due("the public members", String.join("\n", due), String.join("\n", found));
        check.due("class modifiers", "public final", Modifier.toString(DenseCast.class.getModifiers()));
    }

    private static void noOtherVisibleMember() {
        Set<String> publicNames = new TreeSet<>();
        for (Method method : DenseCast.class.getMethods()) {
            if (method.getDeclaringClass() == DenseCast.class) {
                publicNames.add(method.getName());
            }
        }
        for (Method method : DenseCast.class.getDeclaredMethods()) {
            boolean isPublic = Modifier.isPublic(method.getModifiers());
            boolean isPrivate = Modifier.isPrivate(method.getModifiers());
            check.due(method + " is public or private", true, isPublic || isPrivate);
            boolean bearsPublicName = isPrivate && publicNames.contains(method.getName());
            check.due(method + " bears the name of a public one", false, bearsPublicName);
        }
        for (Field field : DenseCast.class.getDeclaredFields()) {
            boolean isShut = Modifier.isPublic(field.getModifiers()) || Modifier.isPrivate(field.getModifiers());
            check.due(field + " is public or private", true, isShut);
        }
        check.due("constructors", 1, DenseCast.class.getDeclaredConstructors().length);
        check.due("nested classes", 0, DenseCast.class.getDeclaredClasses().length);
    }

    private static void plainTypes() {
        for (Field field : DenseCast.class.getDeclaredFields()) {
            Class<?> type = field.getType();
            boolean isStatic = Modifier.isStatic(field.getModifiers());
            Class<?> part = type.isArray() && !isStatic ? type.getComponentType() : type;
            check.due(field + " has a plain type", true, NUMBERS.contains(part.getName()));
            check.due(field + " is final if static", true, !isStatic || Modifier.isFinal(field.getModifiers()));
        }
        for (Method method : DenseCast.class.getDeclaredMethods()) {
            check.due(method + " answers a number", true, NUMBERS.contains(method.getReturnType().getName()));
            check.due(method + " takes seven at the most", true, method.getParameterCount() <= 7);
        }
    }
}
