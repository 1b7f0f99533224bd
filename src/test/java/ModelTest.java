import java.util.ArrayList;
import java.util.List;
import java.util.Random;

/** Long runs of pseudo-random calls, always the same ones: class and model answer alike. */
public final class ModelTest {
    private static final int RUNS = 150;
    private static final int CALLS = 512;
    private static final String[] NAMES = {
        "fork", "exec", "exit", "await", "grow", "read", "write", "sweep", "swapOut", "where", "sharers", "fact", "count"
    };
    /** How often, in each kind of run, a call is one of NAMES. */
    private static final int[][] WEIGHTS = {
        {4, 2, 2, 4, 4, 30, 40, 3, 3, 1, 1, 1, 1},
        {10, 6, 10, 10, 6, 20, 20, 2, 2, 1, 1, 1, 1},
        {3, 1, 0, 0, 5, 30, 60, 1, 2, 1, 1, 1, 1},
    };

    private record Call(String name, int a, int b, int c) {
        @Override
        public String toString() {
            return name + "(" + a + ", " + b + ", " + c + ")";
        }
    }

    /** Calls that change nothing and show all that can be seen but the words. */
    private static final List<Call> LOOKS = allLooks();

    public static void main(String[] args) {
        int[] seen = new int[NAMES.length];
        for (int run = 0; run < RUNS; run++) {
            playRun(run, seen);
        }
        for (int i = 0; i < NAMES.length; i++) {
            if (seen[i] == 0) {
                fail("no " + NAMES[i] + " was ever answered");
            }
        }
        System.out.println(RUNS + " runs of " + CALLS + " calls: class and model answer alike");
    }

    private static void playRun(int run, int[] seen) {
        Random random = new Random(run);
        int frames = random.nextInt(12);
        int slots = run % 2 == 0 ? random.nextInt(5) : random.nextInt(23) - 1;
        PagingKernel kernel = new PagingKernel(frames, slots);
        Model model = new Model(frames, slots);
        List<Call> played = new ArrayList<>();
        for (int i = 0; i < CALLS; i++) {
            Call call = pick(random, WEIGHTS[run % WEIGHTS.length]);
            played.add(call);
            String got = kernelAnswer(kernel, call);
            String due = modelAnswer(model, call);
            if (!got.equals(due)) {
                fail("new(" + frames + ", " + slots + ") " + played + " answered " + got + ", due is " + due);
            }
            if (Character.isDigit(got.charAt(0))) {
                seen[List.of(NAMES).indexOf(call.name)]++;
            }
            String differing = differingLook(kernel, model);
            if (differing != null) {
                fail("new(" + frames + ", " + slots + ") " + played + " then " + differing);
            }
        }
    }

    private static List<Call> allLooks() {
        List<Call> looks = new ArrayList<>();
        for (int what = 0; what < 16; what++) {
            looks.add(new Call("count", what, 0, 0));
        }
        for (int process = 0; process < 6; process++) {
            for (int what = 0; what < 5; what++) {
                looks.add(new Call("fact", process, what, 0));
            }
            for (int address = 0; address < 44; address += 4) {
                looks.add(new Call("where", process, address, 0));
                looks.add(new Call("sharers", process, address, 0));
            }
        }
        return looks;
    }

    private static String differingLook(PagingKernel kernel, Model model) {
        for (Call look : LOOKS) {
            String got = kernelAnswer(kernel, look);
            String due = modelAnswer(model, look);
            if (!got.equals(due)) {
                return look + " answered " + got + ", due is " + due;
            }
        }
        return null;
    }

    private static Call pick(Random random, int[] weights) {
        int sum = 0;
        for (int weight : weights) {
            sum += weight;
        }
        int ticket = random.nextInt(sum);
        int i = 0;
        while (ticket >= weights[i]) {
            ticket -= weights[i];
            i++;
        }
        int process = random.nextInt(50) == 0 ? random.nextInt(10) - 2 : random.nextInt(6) * random.nextInt(3) / 2;
        int address = random.nextInt(40) == 0 ? random.nextInt(60) - 8 : random.nextInt(44);
        return switch (NAMES[i]) {
            case "exec" -> new Call("exec", process, random.nextInt(4) - random.nextInt(2), 0);
            case "exit" -> new Call("exit", process, random.nextInt(270) - 5, 0);
            case "grow" -> new Call("grow", process, random.nextInt(7) - 3 + 4 * (random.nextInt(3) - 1), 0);
            case "sweep" -> new Call("sweep", random.nextInt(23) - 1, 0, 0);
            case "fact" -> new Call("fact", process, random.nextInt(7) - 1, 0);
            case "count" -> new Call("count", random.nextInt(18) - 1, 0, 0);
            default -> new Call(NAMES[i], process, address, random.nextInt());
        };
    }

    private static String kernelAnswer(PagingKernel kernel, Call call) {
        try {
            return "" + switch (call.name) {
                case "fork" -> kernel.fork(call.a);
                case "exec" -> kernel.exec(call.a, call.b);
                case "exit" -> kernel.exit(call.a, call.b);
                case "await" -> kernel.await(call.a);
                case "grow" -> kernel.grow(call.a, call.b);
                case "read" -> kernel.read(call.a, call.b);
                case "write" -> kernel.write(call.a, call.b, call.c);
                case "sweep" -> kernel.sweep(call.a);
                case "swapOut" -> kernel.swapOut(call.a);
                case "where" -> kernel.where(call.a, call.b);
                case "sharers" -> kernel.sharers(call.a, call.b);
                case "fact" -> kernel.fact(call.a, call.b);
                default -> kernel.count(call.a);
            };
        } catch (RuntimeException e) {
            return e.getClass().getName();
        }
    }

    private static String modelAnswer(Model model, Call call) {
        try {
            return "" + model.call(call.name, call.a, call.b, call.c);
        } catch (RuntimeException e) {
            return e.getClass().getName();
        }
    }

    private static void fail(String what) {
        System.out.println(what);
        System.exit(1);
    }
}
