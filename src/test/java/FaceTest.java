import java.lang.reflect.Constructor;
import java.lang.reflect.Field;
import java.lang.reflect.Member;
import java.lang.reflect.Method;
import java.lang.reflect.Modifier;
import java.util.Arrays;
import java.util.TreeSet;

/** The public face of the class: all that the document names, and nothing else that can be seen. */
public final class FaceTest {
    private static final String[] DUE = {
        "int NOENT", "int NOTDIR", "int ACCES", "int LOOP", "int LONG", "int EXIST", "int BUSY", "int NOTEMPTY",
        "int XDEV", "int FULL", "int BAD", "MountedPaths()", "boolean type(int)", "void wipe()", "void keep()",
        "int length()", "int at(int)", "int resolve(boolean)", "int make(int,int)", "int link()", "int remove()",
        "int volume()", "int mount(int)", "int unmount()", "int enter(boolean)", "boolean user(int)",
        "int change(int)", "int path()", "int kind(int)", "int about(int,int)", "int entry(int,int)"};

    public static void main(String[] args) {
        TreeSet<String> due = new TreeSet<>(Arrays.asList(DUE));
        TreeSet<String> seen = new TreeSet<>();
        TreeSet<String> wrong = new TreeSet<>();
        TreeSet<String> publicNames = new TreeSet<>();
        Class<?> c = MountedPaths.class;
        if (!Modifier.isPublic(c.getModifiers()) || !Modifier.isFinal(c.getModifiers())) {
            wrong.add("the class is not public and final");
        }
        for (Field f : c.getDeclaredFields()) {
            note(f, f.getType().getName() + " " + f.getName(), seen, wrong);
            int m = f.getModifiers();
            if (Modifier.isPublic(m) && !(Modifier.isStatic(m) && Modifier.isFinal(m))) {
                wrong.add(f.getName() + " is no constant");
            }
        }
        for (Constructor<?> k : c.getDeclaredConstructors()) {
            note(k, "MountedPaths" + list(k.getParameterTypes()), seen, wrong);
        }
        for (Method m : c.getDeclaredMethods()) {
            note(m, m.getReturnType().getName() + " " + m.getName() + list(m.getParameterTypes()), seen, wrong);
            if (Modifier.isPublic(m.getModifiers())) {
                publicNames.add(m.getName());
            }
        }
        for (Method m : c.getDeclaredMethods()) {
            if (!Modifier.isPublic(m.getModifiers()) && publicNames.contains(m.getName())) {
                wrong.add(m.getName() + " is the name of a private method as well");
            }
        }
        for (String s : due) {
            if (!seen.contains(s)) {
                wrong.add(s + " is missing");
            }
        }
        for (String s : seen) {
            if (!due.contains(s)) {
                wrong.add(s + " is not of the face");
            }
        }
        wrong.forEach(System.out::println);
        System.out.println(wrong.isEmpty() ? "the face is as due" : wrong.size() + " faults in the face");
        if (!wrong.isEmpty()) {
            System.exit(1);
        }
    }

    private static void note(Member member, String told, TreeSet<String> seen, TreeSet<String> wrong) {
        if (Modifier.isPublic(member.getModifiers())) {
            seen.add(told);
        } else if (!Modifier.isPrivate(member.getModifiers())) {
            wrong.add(told + " is neither public nor private");
        }
    }

    private static String list(Class<?>[] types) {
        StringBuilder row = new StringBuilder("(");
        for (int k = 0; k < types.length; k++) {
            row.append(k == 0 ? "" : ",").append(types[k].getName());
        }
        return row.append(")").toString();
    }
}
