import java.lang.reflect.Constructor;
import java.lang.reflect.Field;
import java.lang.reflect.Method;
import java.lang.reflect.Modifier;
import java.util.Arrays;
import java.util.TreeSet;

/** The face is the document's and no other; no hidden method bears a name of it. */
public final class FaceTest {
    private static final String FACE = "int feed(int,int,int,int,int);boolean end(int);int port();int law();int fault();"
            + "int party(int,int);int ink(int,int);int deed(int,int);int seasons(int);int write(int,int,int,int,int);"
            + "int warm(int,int);int burn(int);int lend(int,int,int);int salt(int);int bar(int,int);int reads();"
            + "int blank();int valid();int when(int);int due(int);int ruin(boolean);int wealth(int,int);int chain(int);"
            + "int hangs(int);int late();int net(int,int);int worth(int,int,boolean);int jars(boolean);int ask();"
            + "boolean forged(int);int apart();int soonest(boolean);int owes(int,int);int cleared();boolean ring(int);"
            + "int pivot();int buyers(int);int rests(int,int,int);int odds(int,int);int early(int);int richest();"
            + "int alike();int broken();int ahead(int,int,int);int trial(int,boolean);int span(int,boolean);"
            + "int led(int,boolean);int log(int,int);int damp(int);int seed(int);boolean undo();void image();"
            + "boolean back();int count(int)";

    public static void main(String[] args) {
        TreeSet<String> due = new TreeSet<>(Arrays.asList(FACE.split(";")));
        TreeSet<String> got = new TreeSet<>();
        TreeSet<String> names = new TreeSet<>();
        for (Method m : LateInks.class.getDeclaredMethods()) {
            if (!Modifier.isPrivate(m.getModifiers())) {
                got.add(m.getReturnType() + " " + m.getName() + "("
                        + String.join(",", Arrays.stream(m.getParameterTypes()).map(Class::getName).toList()) + ")");
                names.add(m.getName());
            }
        }
        Kit.same("the face", got.toString(), due.toString());
        Kit.is("promises without the constructor", due.size(), 54);
        Kit.is("final", Modifier.isFinal(LateInks.class.getModifiers()), true);
        for (Constructor<?> c : LateInks.class.getDeclaredConstructors()) {
            Kit.is("constructor's parameters", c.getParameterCount(), 0);
        }
        for (Field f : LateInks.class.getDeclaredFields()) {
            Kit.is("hidden field " + f.getName(), Modifier.isPrivate(f.getModifiers()), !f.getName().equals("NONE"));
        }
        Kit.is("NONE", LateInks.NONE, -1);
        hiddenNames(LateInks.class, names);
        for (Class<?> inside : LateInks.class.getDeclaredClasses()) {
            Kit.is("static " + inside, Modifier.isStatic(inside.getModifiers()), true);
            hiddenNames(inside, names);
        }
        Kit.end();
    }

    private static void hiddenNames(Class<?> holder, TreeSet<String> names) {
        for (Method m : holder.getDeclaredMethods()) {
            boolean ofFace = holder == LateInks.class && !Modifier.isPrivate(m.getModifiers());
            Kit.is("name of " + m, ofFace || !names.contains(m.getName()), true);
        }
    }
}
