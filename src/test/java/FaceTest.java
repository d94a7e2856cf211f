import java.lang.reflect.Constructor;
import java.lang.reflect.Field;
import java.lang.reflect.Method;
import java.lang.reflect.Modifier;
import java.util.Arrays;
import java.util.TreeSet;

/** The public face: what the document has and nothing beside it (LANGUAGE.md, rule 1). */
public final class FaceTest {
    private static final String[] METHODS = {
        "net(int)", "post()", "line(int,int)", "strike(int)", "count(int)", "told(int,int)", "lines(int,int)",
        "name(int,int,int)", "bits(int,int)", "ask(int,int,int)", "parted(int,int,int)",
        "learn(int)", "forge(int,int,int,int)", "book(int,int,int)", "answer(int,int,int)", "stale(int)", "damaged(int)",
        "next(int,int)", "goes(int,int)", "stretch(int)", "cut(int,int)", "ways(int,int)",
        "holds(int,int,int,int)", "universal(int,int,int)", "small()",
        "feed(int,long)", "read()", "fault()", "said(int)"};
    private static final String[] CONSTANTS = {"NONE", "UNKNOWN", "OUTSIDE", "NOT", "FULL", "DAMAGED"};

    private FaceTest() {
    }

    public static void main(String[] args) {
        Class<?> face = NameNets.class;
        Check.isTrue("the class is public and final",
            Modifier.isPublic(face.getModifiers()) && Modifier.isFinal(face.getModifiers()));
        Check.due("constructors", face.getDeclaredConstructors().length, 1);
        for (Constructor<?> made : face.getDeclaredConstructors()) {
            Check.isTrue("the constructor is public and takes nothing",
                Modifier.isPublic(made.getModifiers()) && made.getParameterCount() == 0);
        }
        TreeSet<String> names = lookAtMethods(face);
        lookAtFields(face);
        for (Class<?> inside : face.getDeclaredClasses()) {
            Check.isTrue(inside + " is static and not public",
                Modifier.isStatic(inside.getModifiers()) && !Modifier.isPublic(inside.getModifiers()));
            for (Method method : inside.getDeclaredMethods()) {
                Check.isTrue(inside + " has a name of the face: " + method.getName(), !names.contains(method.getName()));
            }
        }
        lookAtConstants();
        Check.finish();
    }

    private static TreeSet<String> lookAtMethods(Class<?> face) {
        TreeSet<String> found = new TreeSet<>();
        TreeSet<String> names = new TreeSet<>();
        for (String method : METHODS) {
            names.add(method.substring(0, method.indexOf('(')));
        }
        for (Method method : face.getDeclaredMethods()) {
            if (Modifier.isPrivate(method.getModifiers())) {
                Check.isTrue("private with a public name: " + method, !names.contains(method.getName()));
                continue;
            }
            String types = Arrays.toString(method.getParameterTypes()).replaceAll("[\\[\\] ]", "");
            found.add(method.getName() + "(" + types + ")");
            Check.isTrue(method + " is public, not static, and answers an int", Modifier.isPublic(method.getModifiers())
                && !Modifier.isStatic(method.getModifiers()) && method.getReturnType() == int.class);
        }
        Check.isTrue("the methods are those of the document, not " + found, found.equals(new TreeSet<>(Arrays.asList(METHODS))));
        return names;
    }

    private static void lookAtFields(Class<?> face) {
        TreeSet<String> found = new TreeSet<>();
        for (Field field : face.getDeclaredFields()) {
            if (!Modifier.isPrivate(field.getModifiers())) {
                found.add(field.getName());
                Check.isTrue(field + " is a public constant", Modifier.isPublic(field.getModifiers())
                    && Modifier.isStatic(field.getModifiers()) && Modifier.isFinal(field.getModifiers()));
            }
        }
        Check.isTrue("the constants are those of the document", found.equals(new TreeSet<>(Arrays.asList(CONSTANTS))));
    }

    private static void lookAtConstants() {
        Check.due("NONE", NameNets.NONE, -1);
        Check.due("UNKNOWN", NameNets.UNKNOWN, -1001);
        Check.due("OUTSIDE", NameNets.OUTSIDE, -1002);
        Check.due("NOT", NameNets.NOT, -1003);
        Check.due("FULL", NameNets.FULL, -1004);
        Check.due("DAMAGED", NameNets.DAMAGED, -1005);
    }
}
