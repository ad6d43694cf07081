import java.lang.reflect.Constructor;
import java.lang.reflect.Field;
import java.lang.reflect.Method;
import java.lang.reflect.Modifier;
import java.util.ArrayList;
import java.util.Collections;
import java.util.List;

/** The public face: the document's members, and no other that is not private. */
final class FaceTest {
    /** In the document's order: the first is promise 2's. */
    static final String[] METHODS = {
        "int field(int,int,int,int)", "int sign(int)", "int ofMan(int,int)", "int far(int,int)", "int law(int)",
        "int stone(int,int)", "int undo(int)", "int stands(int)", "int foe(int,int)", "int armour(int,int)",
        "int left()", "int falls(int)", "int cast(int,int)", "int save(int,int)", "int cull(int)", "int sow(int)",
        "int worth(int)", "int game(int)", "int reading(int,int,boolean)", "int back(int)", "int whence(int)",
        "int laws()", "int kinds(int)", "long odds(int,int)", "int coin(int)", "int row(int,int,int,int)",
        "int sheet(int,int,int)", "int lose(int)", "int put(int,int,int)", "long cell(int,int,int)",
        "int copy(int,int,int,int,int)", "int tell(int)", "int swear(int)", "int as(int,int)", "int trace()",
        "int fault()", "int many(int)"};

    private FaceTest() {
    }

    public static void main(String[] args) {
        Due due = new Due();
        constants(due);
        due.holds("the methods are the document's", methods().equals(sorted(METHODS)));
        due.holds("no private method is named as a public one", noneHidden());
        due.holds("the class is public and final", Modifier.isPublic(ToothField.class.getModifiers())
            && Modifier.isFinal(ToothField.class.getModifiers()));
        Constructor<?>[] made = ToothField.class.getDeclaredConstructors();
        due.holds("one public constructor without parameters",
            made.length == 1 && Modifier.isPublic(made[0].getModifiers()) && made[0].getParameterCount() == 0);
        due.holds("at most twelve classes", ToothField.class.getDeclaredClasses().length <= 11);
        for (Class<?> inside : ToothField.class.getDeclaredClasses()) {
            due.holds(inside + " is static", Modifier.isStatic(inside.getModifiers()));
        }
        due.end();
    }

    private static void constants(Due due) {
        due.is("UNKNOWN", ToothField.UNKNOWN, -1);
        due.is("OUTSIDE", ToothField.OUTSIDE, -2);
        due.is("STATE", ToothField.STATE, -3);
        due.is("FULL", ToothField.FULL, -4);
        due.is("NONE", ToothField.NONE, -9);
        due.is("LOST", ToothField.LOST, Long.MIN_VALUE);
        int open = 0;
        for (Field f : ToothField.class.getDeclaredFields()) {
            open += Modifier.isPrivate(f.getModifiers()) ? 0 : 1;
            due.holds(f + " is no static state",
                !Modifier.isStatic(f.getModifiers()) || Modifier.isFinal(f.getModifiers()));
        }
        due.is("fields that are not private", open, 6);
    }

    private static List<String> methods() {
        List<String> all = new ArrayList<>();
        for (Method m : ToothField.class.getDeclaredMethods()) {
            if (!Modifier.isPrivate(m.getModifiers())) {
                all.add(told(m));
            }
        }
        Collections.sort(all);
        return all;
    }

    private static String told(Method m) {
        StringBuilder s = new StringBuilder(m.getReturnType() + " " + m.getName() + "(");
        for (Class<?> p : m.getParameterTypes()) {
            s.append(s.charAt(s.length() - 1) == '(' ? "" : ",").append(p);
        }
        return s.append(")").toString();
    }

    private static boolean noneHidden() {
        List<Class<?>> all = new ArrayList<>(List.of(ToothField.class.getDeclaredClasses()));
        all.add(ToothField.class);
        for (Class<?> c : all) {
            for (Method m : c.getDeclaredMethods()) {
                if (Modifier.isPrivate(m.getModifiers()) && methods().toString().contains(" " + m.getName() + "(")) {
                    System.out.println(m);
                    return false;
                }
            }
        }
        return true;
    }

    private static List<String> sorted(String[] names) {
        List<String> all = new ArrayList<>(List.of(names));
        Collections.sort(all);
        return all;
    }
}
