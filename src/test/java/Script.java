import java.lang.reflect.InvocationTargetException;
import java.lang.reflect.Method;
import java.util.ArrayList;
import java.util.LinkedHashMap;
import java.util.List;
import java.util.Map;
import java.util.TreeSet;

/**
 * Plays rows of calls on a new PagingKernel and reports every answer that is not the one due. A row
 * holds calls like "read(0, 8) = 5" parted by ";". A call that is to throw has the simple name of
 * the exception's class as its answer.
 */
final class Script {
    private static final int PROCESSES = 6;
    private static final int ADDRESSES = 44;

    /** Calls that change nothing and show all that can be seen but the words. */
    private static final List<String> LOOKS = allLooks();

    private static final List<String> OTHER_REFUSALS =
            List.of("IndexOutOfBoundsException", "UnsupportedOperationException", "IllegalStateException");

    private int wrong = 0;

    void play(String title, int frames, int slots, String rows) {
        playRows(title, new PagingKernel(frames, slots), rows);
    }

    /** Behind the rows each of the calls, for itself, throws what is due, and all is as it was. */
    void refuse(String title, int frames, int slots, String rows, String calls) {
        List<String> words = words(title, frames, slots, rows);
        for (String call : steps(calls)) {
            change(title, frames, slots, rows, call, "");
            if (!words(title, frames, slots, rows + ";" + call).equals(words)) {
                complain(title + ": " + call + " changed words");
            }
        }
    }

    /** Behind the rows the call, of whatever else it may complain, takes its numbers and its process. */
    void allow(String title, int frames, int slots, String rows, String call) {
        PagingKernel kernel = new PagingKernel(frames, slots);
        playRows(title, kernel, rows);
        String got = answer(kernel, call);
        if (!OTHER_REFUSALS.contains(got) && got.endsWith("Exception")) {
            complain(title + ": " + call + " answered " + got);
        }
    }

    /** Behind the rows the call answers what is due, and what can be seen differs in just the changes. */
    void change(String title, int frames, int slots, String rows, String call, String changes) {
        PagingKernel kernel = new PagingKernel(frames, slots);
        playRows(title, kernel, rows);
        Map<String, String> before = look(kernel);
        playStep(title, kernel, call);
        TreeSet<String> seen = new TreeSet<>();
        look(kernel).forEach((look, answer) -> {
            if (!answer.equals(before.get(look))) {
                seen.add(look + " = " + answer);
            }
        });
        TreeSet<String> due = new TreeSet<>(steps(changes));
        if (!seen.equals(due)) {
            complain(title + ": " + call + " changed " + seen + ", due is " + due);
        }
    }

    void exitIfWrong() {
        System.out.println(wrong == 0 ? "all answers are as due" : wrong + " answers are not as due");
        if (wrong != 0) {
            System.exit(1);
        }
    }

    private void complain(String what) {
        wrong++;
        System.out.println(what);
    }

    private void playRows(String title, PagingKernel kernel, String rows) {
        for (String step : steps(rows)) {
            playStep(title, kernel, step);
        }
    }

    private void playStep(String title, PagingKernel kernel, String step) {
        String[] sides = step.split("=");
        String call = sides[0].trim();
        String due = sides[1].trim();
        String got = answer(kernel, call);
        if (!got.equals(due)) {
            complain(title + ": " + call + " answered " + got + ", due is " + due);
        }
    }

    private List<String> words(String title, int frames, int slots, String rows) {
        PagingKernel kernel = new PagingKernel(frames, slots);
        playRows(title, kernel, rows);
        List<String> words = new ArrayList<>();
        for (int process = 0; process < PROCESSES; process++) {
            for (int first = 0; first < ADDRESSES; first += 4) {
                // A read of what is not there would let the stack grow.
                if (answer(kernel, "where(" + process + ", " + first + ")").endsWith("Exception")) {
                    continue;
                }
                for (int address = first; address < first + 4; address++) {
                    words.add(answer(kernel, "read(" + process + ", " + address + ")"));
                }
            }
        }
        return words;
    }

    private static List<String> steps(String rows) {
        List<String> steps = new ArrayList<>();
        for (String step : rows.split("[;\n]")) {
            if (!step.isBlank()) {
                steps.add(step.trim());
            }
        }
        return steps;
    }

    private static List<String> allLooks() {
        List<String> looks = new ArrayList<>();
        for (int what = 0; what < 16; what++) {
            looks.add("count(" + what + ")");
        }
        for (int process = 0; process < PROCESSES; process++) {
            for (int what = 0; what < 5; what++) {
                looks.add("fact(" + process + ", " + what + ")");
            }
            for (int address = 0; address < ADDRESSES; address += 4) {
                looks.add("where(" + process + ", " + address + ")");
                looks.add("sharers(" + process + ", " + address + ")");
            }
        }
        return looks;
    }

    private static Map<String, String> look(PagingKernel kernel) {
        Map<String, String> answers = new LinkedHashMap<>();
        for (String look : LOOKS) {
            answers.put(look, answer(kernel, look));
        }
        return answers;
    }

    private static String answer(PagingKernel kernel, String call) {
        int open = call.indexOf('(');
        String[] texts = call.substring(open + 1, call.length() - 1).split(",");
        Object[] arguments = new Object[texts.length];
        for (int i = 0; i < texts.length; i++) {
            arguments[i] = Integer.valueOf(texts[i].trim());
        }
        try {
            return method(call.substring(0, open)).invoke(kernel, arguments).toString();
        } catch (InvocationTargetException e) {
            return e.getCause().getClass().getSimpleName();
        } catch (IllegalAccessException e) {
            throw new AssertionError(e);
        }
    }

    private static Method method(String name) {
        for (Method method : PagingKernel.class.getDeclaredMethods()) {
            if (method.getName().equals(name)) {
                return method;
            }
        }
        throw new AssertionError("no method " + name);
    }
}
