import java.lang.reflect.Constructor;
import java.lang.reflect.Field;
import java.lang.reflect.Method;
import java.lang.reflect.Modifier;
import java.util.ArrayList;
import java.util.Arrays;
import java.util.List;
import java.util.Set;
import java.util.TreeSet;

/** The class shows the face of the document and nothing else. */
public final class FaceTest {
    private static final String[] FACE = {
        "int put(boolean,int,int,int) I",
        "int copy(boolean,int,int) I",
        "int widen(int,int) I",
        "int narrow(int,int) I",
        "int exact(boolean,int,int,int) IA",
        "boolean fits(boolean,int,int,int) IA",
        "int alone(boolean,int,int) IA",
        "int timesInt(int,int) I",
        "int full(int,int,int) I",
        "int high(int,int,int) I",
        "int round(boolean,int,int,int) IA",
        "int abs(boolean,int) I",
        "int extreme(boolean,int,int,boolean) I",
        "int floor(boolean,int,int,boolean) I",
        "int floorInt(int,int,boolean) I",
        "int towards(boolean,int,int,boolean) I",
        "int average(boolean,int,int,boolean) I",
        "int chain(int,int,int,int) IA",
        "int atOnce(int,int,int,int) IA",
        "String distance(boolean,int,int) I",
        "int compare(boolean,int,int) I",
        "String text(boolean,int) I",
        "int ofNumber(boolean,int,int) IA",
        "int rest(boolean,int,int) IA",
        "String quotient(boolean,int,int) IA",
        "int modulus(int,int) IA",
        "int bring(int,int,boolean,int) I",
        "int lift(int,int,boolean,int) I",
        "int plus(int,int,int,boolean) I",
        "int times(int,int,int) I",
        "int power(int,int,int) IA",
        "int inverse(int,int) I",
        "boolean isUnit(int,int) I",
        "int residue(int,int) I",
        "String ringText(int) I",
        "boolean areAlike(int,boolean,int,int) I",
        "int together(int,int,int,int,int) I",
        "String common(int,int,boolean) I",
        "int house(int) A",
        "int knock() ",
        "boolean isSound() ",
        "long digest() ",
    };

    private static String nameOf(Method method) {
        StringBuilder line = new StringBuilder();
        line.append(method.getReturnType().getSimpleName()).append(' ').append(method.getName()).append('(');
        for (int i = 0; i < method.getParameterCount(); i++) {
            line.append(i == 0 ? "" : ",").append(method.getParameterTypes()[i].getSimpleName());
        }
        line.append(") ");
        for (Class<?> thrown : method.getExceptionTypes()) {
            line.append(thrown.getSimpleName().charAt(1) == 'n' ? "I" : "A");
        }
        return line.toString();
    }

    private static boolean isPrivate(int modifiers) {
        return Modifier.isPrivate(modifiers);
    }

    public static void main(String[] args) {
        Class<Modrings> face = Modrings.class;
        Check.same("public and final", Modifier.isPublic(face.getModifiers()) && Modifier.isFinal(face.getModifiers()), true);
        Check.same("no package", face.getPackageName(), "");
        Set<String> shown = new TreeSet<>();
        Set<String> publicNames = new TreeSet<>();
        List<String> hidden = new ArrayList<>();
        for (Method method : face.getDeclaredMethods()) {
            if (Modifier.isPublic(method.getModifiers())) {
                shown.add(nameOf(method));
                publicNames.add(method.getName());
                Check.same(method.getName() + " is of an object", Modifier.isStatic(method.getModifiers()), false);
            } else {
                Check.same(method.getName() + " is private", isPrivate(method.getModifiers()), true);
                hidden.add(method.getName());
            }
        }
        Check.same("the face", shown, new TreeSet<>(Arrays.asList(FACE)));
        for (Constructor<?> constructor : face.getDeclaredConstructors()) {
            Check.same("the constructor is public", Modifier.isPublic(constructor.getModifiers()), true);
            Check.same("the constructor's parameters", constructor.getParameterCount(), 0);
        }
        for (Field field : face.getDeclaredFields()) {
            Check.same(field.getName() + " is private", isPrivate(field.getModifiers()), true);
        }
        for (Class<?> inside : face.getDeclaredClasses()) {
            Check.same(inside.getName() + " is static", Modifier.isStatic(inside.getModifiers()), true);
            Check.same(inside.getName() + " is private", isPrivate(inside.getModifiers()), true);
            for (Method method : inside.getDeclaredMethods()) {
                hidden.add(method.getName());
            }
        }
        for (String name : hidden) {
            Check.same(name + " bears a public name", publicNames.contains(name), false);
        }
        Check.finish("FaceTest");
    }
}
