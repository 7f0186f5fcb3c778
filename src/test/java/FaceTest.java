import java.lang.reflect.Constructor;
import java.lang.reflect.Field;
import java.lang.reflect.Method;
import java.lang.reflect.Modifier;
import java.util.TreeSet;

/** The members that are not private are the document's face, and no others. */
public final class FaceTest {
    public static void main(String[] args) {
        TreeSet<String> want = new TreeSet<>();
        want.add("public static final int BAD");
        want.add("public ShieldedMachine()");
        want.add("public boolean set(int,int,int,int)");
        want.add("public boolean setData(int,int)");
        want.add("public int run(int)");
        want.add("public void reset()");
        want.add("public boolean hitRegister(int,int,int)");
        want.add("public boolean hitPlace(int,int)");
        want.add("public boolean hitWork(int,int)");
        want.add("public boolean hitData(int,int)");
        want.add("public boolean hitProgram(int,int)");
        want.add("public int register(int)");
        want.add("public int place()");
        want.add("public int data(int)");
        want.add("public int outs()");
        want.add("public int out(int)");
        want.add("public boolean stopped()");
        want.add("public int spoiled()");
        TreeSet<String> got = visibleMembers(ShieldedMachine.class);
        for (String each : want) {
            Check.due("has " + each, got.contains(each), true);
        }
        for (String each : got) {
            Check.due("asked for " + each, want.contains(each), true);
        }
        int modifiers = ShieldedMachine.class.getModifiers();
        Check.due("public final class", Modifier.isPublic(modifiers) && Modifier.isFinal(modifiers), true);
        Check.due("nested classes", ShieldedMachine.class.getDeclaredClasses().length, 0);
        Check.due("BAD", ShieldedMachine.BAD, -1);
        Check.end();
    }

    private static TreeSet<String> visibleMembers(Class<?> type) {
        TreeSet<String> got = new TreeSet<>();
        String prefix = type.getName() + ".";
        for (Field each : type.getDeclaredFields()) {
            if (!Modifier.isPrivate(each.getModifiers())) {
                got.add(each.toString().replace(prefix, ""));
            }
        }
        for (Method each : type.getDeclaredMethods()) {
            if (!Modifier.isPrivate(each.getModifiers())) {
                got.add(each.toString().replace(prefix, ""));
            }
        }
        for (Constructor<?> each : type.getDeclaredConstructors()) {
            if (!Modifier.isPrivate(each.getModifiers())) {
                got.add(each.toString());
            }
        }
        return got;
    }
}
