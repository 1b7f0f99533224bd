import java.lang.reflect.Constructor;
import java.lang.reflect.Executable;
import java.lang.reflect.Field;
import java.lang.reflect.Method;
import java.lang.reflect.Modifier;
import java.util.ArrayList;
import java.util.Arrays;
import java.util.HashSet;
import java.util.List;
import java.util.Set;
import java.util.TreeSet;

/** The class has the document's face and nothing else that can be seen (LANGUAGE.md, rule 1). */
public final class FaceTest {
    private static final String ARGUMENT = " IllegalArgumentException";
    private static final String ELEMENT = ARGUMENT + " NoSuchElementException";
    private static final String INDEX = ELEMENT + " IndexOutOfBoundsException";

    private static final Set<String> DUE = new TreeSet<>(List.of(
            "PagingKernel(int,int)",
            "int fork(int)" + ELEMENT + " UnsupportedOperationException",
            "int exec(int,int)" + ELEMENT,
            "int exit(int,int)" + ELEMENT,
            "int await(int)" + ELEMENT + " UnsupportedOperationException IllegalStateException",
            "int grow(int,int)" + ELEMENT + " UnsupportedOperationException",
            "int read(int,int)" + INDEX + " IllegalStateException",
            "int write(int,int,int)" + INDEX + " UnsupportedOperationException IllegalStateException",
            "int sweep(int)" + ARGUMENT,
            "int swapOut(int)" + ELEMENT,
            "int where(int,int)" + INDEX,
            "int sharers(int,int)" + INDEX,
            "int fact(int,int)" + ARGUMENT,
            "int count(int)" + ARGUMENT));

    public static void main(String[] args) {
        List<String> faults = new ArrayList<>();
        Set<String> face = new TreeSet<>();
        Set<String> publicNames = new HashSet<>();
        List<Method> hidden = new ArrayList<>();
        for (Constructor<?> constructor : PagingKernel.class.getDeclaredConstructors()) {
            face.add("PagingKernel" + signature(constructor));
        }
        for (Method method : PagingKernel.class.getDeclaredMethods()) {
            if (Modifier.isPrivate(method.getModifiers())) {
                hidden.add(method);
            } else {
                face.add(method.getReturnType() + " " + method.getName() + signature(method));
                publicNames.add(method.getName());
            }
        }
        if (!face.equals(DUE)) {
            faults.add("the face is " + face + ", due is " + DUE);
        }
        for (Method method : hidden) {
            if (publicNames.contains(method.getName())) {
                faults.add("a private method bears the public name " + method.getName());
            }
        }
        for (Field field : PagingKernel.class.getDeclaredFields()) {
            if (!Modifier.isPrivate(field.getModifiers())) {
                faults.add("the field " + field.getName() + " can be seen");
            }
        }
        for (Class<?> inside : PagingKernel.class.getDeclaredClasses()) {
            int modifiers = inside.getModifiers();
            if (!Modifier.isStatic(modifiers) || Modifier.isPublic(modifiers) || Modifier.isProtected(modifiers)) {
                faults.add("the class inside " + inside.getName() + " is not as rule 1 says");
            }
        }
        int own = PagingKernel.class.getModifiers();
        if (!Modifier.isPublic(own) || !Modifier.isFinal(own)) {
            faults.add("PagingKernel is not public and final");
        }
        faults.forEach(System.out::println);
        System.out.println(faults.isEmpty() ? "the face is as due" : faults.size() + " faults in the face");
        if (!faults.isEmpty()) {
            System.exit(1);
        }
    }

    private static String signature(Executable executable) {
        StringBuilder text = new StringBuilder("(");
        text.append(String.join(",", Arrays.stream(executable.getParameterTypes()).map(Class::getName).toList()));
        text.append(")");
        for (Class<?> thrown : executable.getExceptionTypes()) {
            text.append(" ").append(thrown.getSimpleName());
        }
        return text.toString();
    }
}
