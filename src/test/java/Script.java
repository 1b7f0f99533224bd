import java.lang.reflect.InvocationTargetException;
import java.lang.reflect.Method;

/**
 * Plays rows of calls on a new PagingKernel and reports every answer that is not the one due. A row
 * holds calls like "read(0, 8) = 5" parted by ";". A call that is to throw has the simple name of
 * the exception's class as its answer.
 */
final class Script {
    private int wrong = 0;

    void play(String title, int frames, int slots, String rows) {
        PagingKernel kernel = new PagingKernel(frames, slots);
        for (String step : rows.split("[;\n]")) {
            if (!step.isBlank()) {
                playStep(title, kernel, step);
            }
        }
    }

    void exitIfWrong() {
        System.out.println(wrong == 0 ? "all answers are as due" : wrong + " answers are not as due");
        if (wrong != 0) {
            System.exit(1);
        }
    }

    private void playStep(String title, PagingKernel kernel, String step) {
        String[] sides = step.split("=");
        String call = sides[0].trim();
        String due = sides[1].trim();
        String got = answer(kernel, call);
        if (!got.equals(due)) {
            wrong++;
            System.out.println(title + ": " + call + " answered " + got + ", due is " + due);
        }
    }

    private static String answer(PagingKernel kernel, String call) {
        int open = call.indexOf('(');
        String[] texts = call.substring(open + 1, call.length() - 1).split(",");
        Object[] arguments = new Object[texts.length];
        for (int i = 0; i < texts.length; i++) {
            arguments[i] = Integer.valueOf(texts[i].trim());
        }
        try {
            return method(call.substring(0, open)).invoke(kernel, arguments).toString();
        } catch (InvocationTargetException e) {
            return e.getCause().getClass().getSimpleName();
        } catch (IllegalAccessException e) {
            throw new AssertionError(e);
        }
    }

    private static Method method(String name) {
        for (Method method : PagingKernel.class.getDeclaredMethods()) {
            if (method.getName().equals(name)) {
                return method;
            }
        }
        throw new AssertionError("no method " + name);
    }
}
