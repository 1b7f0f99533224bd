import java.util.ArrayList;
import java.util.List;
import java.util.NoSuchElementException;

/**
 * The document once more, word by word and without thrift: who owns a page is found by looking at
 * all processes, and what is owned by nobody is thrown out at the end of a call.
 */
final class Model {
    private static final class Page {
        final boolean text;
        final int[] words;

        Page(boolean text, int a, int b, int c, int d) {
            this.text = text;
            this.words = new int[] {a, b, c, d};
        }

        static Page fresh() {
            return new Page(false, 0, 0, 0, 0);
        }
    }

    private static final class Proc {
        String state = "FREE";
        int program;
        int parent = -1;
        int code;
        /** By rising addresses. */
        final List<Page> data = new ArrayList<>();
        /** By falling addresses. */
        final List<Page> stack = new ArrayList<>();
    }

    private static final class OutOfMemory extends Exception {
        private static final long serialVersionUID = 1;
    }

    /** The calls after which a page may be owned by nobody. */
    private static final List<String> DISOWNING = List.of("exec", "exit", "grow");

    private final Proc[] procs = new Proc[6];
    private final Page[][] texts = new Page[3][2];
    private final Page[] frames;
    private final boolean[] marks;
    private final Page[] slots;
    private int hand;
    private int fills;
    private int copies;
    private int sent;

    Model(int frameCount, int slotCount) {
        frames = new Page[frameCount < 2 ? 2 : frameCount > 10 ? 10 : frameCount];
        marks = new boolean[frames.length];
        slots = new Page[slotCount < 0 ? 0 : slotCount > 20 ? 20 : slotCount];
        for (int q = 0; q < 3; q++) {
            for (int k = 0; k < 2; k++) {
                int w = 100 * q + 10 * k;
                texts[q][k] = new Page(true, w, w + 1, w + 2, w + 3);
            }
        }
        for (int p = 0; p < 6; p++) {
            procs[p] = new Proc();
        }
        procs[0].state = "RUNNING";
        start(procs[0], 0);
    }

    int call(String name, int a, int b, int c) {
        try {
            return switch (name) {
                case "fork" -> fork(a);
                case "exec" -> exec(a, b);
                case "exit" -> exit(a, b);
                case "await" -> await(a);
                case "grow" -> grow(a, b);
                case "read" -> read(a, b);
                case "write" -> write(a, b, c);
                case "sweep" -> sweep(a);
                case "swapOut" -> swapOut(a);
                case "where" -> where(a, b);
                case "sharers" -> sharers(a, b);
                case "fact" -> fact(a, b);
                case "count" -> count(a);
                default -> throw new AssertionError(name);
            };
        } catch (OutOfMemory e) {
            throw new IllegalStateException();
        } finally {
            if (DISOWNING.contains(name)) {
                throwOutUnowned();
            }
        }
    }

    private int fork(int process) {
        Proc mother = running(process);
        for (int p = 0; p < 6; p++) {
            Proc child = procs[p];
            if (child.state.equals("FREE")) {
                child.state = "RUNNING";
                child.parent = process;
                child.program = mother.program;
                child.data.addAll(mother.data);
                child.stack.addAll(mother.stack);
                return p;
            }
        }
        throw new UnsupportedOperationException();
    }

    private int exec(int process, int program) {
        range(process, 0, 5);
        range(program, 0, 2);
        start(running(process), program);
        return 4 * procs[process].data.size();
    }

    private int exit(int process, int code) {
        range(process, 1, 5);
        range(code, 0, 255);
        Proc ended = running(process);
        ended.state = "DEAD";
        ended.code = code;
        ended.data.clear();
        ended.stack.clear();
        int orphans = 0;
        for (Proc proc : procs) {
            if (proc.parent == process) {
                proc.parent = 0;
                orphans++;
            }
        }
        return orphans;
    }

    private int await(int process) {
        running(process);
        boolean parent = false;
        for (int p = 0; p < 6; p++) {
            if (procs[p].parent == process) {
                parent = true;
                if (procs[p].state.equals("DEAD")) {
                    procs[p].state = "FREE";
                    procs[p].parent = -1;
                    return 256 * p + procs[p].code;
                }
            }
        }
        if (parent) {
            throw new IllegalStateException();
        }
        throw new UnsupportedOperationException();
    }

    private int grow(int process, int by) {
        range(process, 0, 5);
        range(by, -6, 6);
        List<Page> data = running(process).data;
        int size = data.size() + by;
        if (size < 0 || size > 6) {
            throw new UnsupportedOperationException();
        }
        while (data.size() > size) {
            data.remove(data.size() - 1);
        }
        while (data.size() < size) {
            data.add(Page.fresh());
        }
        return size;
    }

    private int read(int process, int address) throws OutOfMemory {
        range(process, 0, 5);
        range(address, 0, 43);
        stretch(running(process), address);
        Page page = pageAt(process, address);
        touch(page);
        return page.words[address % 4];
    }

    private int write(int process, int address, int value) throws OutOfMemory {
        range(process, 0, 5);
        range(address, 0, 43);
        stretch(running(process), address);
        Page page = pageAt(process, address);
        if (page.text) {
            throw new UnsupportedOperationException();
        }
        touch(page);
        if (owners(page) > 1) {
            int frame = getFrame();
            int[] w = page.words;
            Page copy = new Page(false, w[0], w[1], w[2], w[3]);
            frames[frame] = copy;
            marks[frame] = true;
            copies++;
            Proc proc = procs[process];
            if (address < 32) {
                proc.data.set((address - 8) / 4, copy);
            } else {
                proc.stack.set((43 - address) / 4, copy);
            }
            page = copy;
        }
        int before = page.words[address % 4];
        page.words[address % 4] = value;
        return before;
    }

    private int sweep(int n) {
        range(n, 1, 20);
        int before = sent;
        for (int i = 0; i < n; i++) {
            look();
        }
        return sent - before;
    }

    private int swapOut(int process) {
        Proc proc = running(process);
        int before = sent;
        List<Page> pages = new ArrayList<>(proc.data);
        for (int i = proc.stack.size() - 1; i >= 0; i--) {
            pages.add(proc.stack.get(i));
        }
        for (Page page : pages) {
            if (index(frames, page) >= 0 && owners(page) == 1 && canGo(page)) {
                sendOut(index(frames, page));
            }
        }
        return sent - before;
    }

    private int where(int process, int address) {
        range(process, 0, 5);
        range(address, 0, 43);
        running(process);
        Page page = pageAt(process, address);
        int slot = index(slots, page);
        return slot >= 0 ? 100 + slot : index(frames, page);
    }

    private int sharers(int process, int address) {
        range(process, 0, 5);
        range(address, 0, 43);
        running(process);
        return owners(pageAt(process, address));
    }

    private int fact(int process, int what) {
        range(process, 0, 5);
        range(what, 0, 4);
        Proc proc = procs[process];
        boolean running = proc.state.equals("RUNNING");
        return switch (what) {
            case 0 -> List.of("FREE", "RUNNING", "DEAD").indexOf(proc.state);
            case 1 -> running ? proc.program : -1;
            case 2 -> proc.state.equals("FREE") ? -1 : proc.parent;
            case 3 -> running ? proc.data.size() : -1;
            default -> running ? proc.stack.size() : -1;
        };
    }

    private int count(int what) {
        range(what, 0, 15);
        return switch (what) {
            case 0 -> free(frames);
            case 1 -> free(slots);
            case 2 -> fills;
            case 3 -> copies;
            case 4 -> hand;
            case 5 -> sent;
            default -> what - 6 >= frames.length || frames[what - 6] == null ? -1 : marks[what - 6] ? 1 : 0;
        };
    }

    private static void range(int number, int least, int most) {
        if (number < least || number > most) {
            throw new IllegalArgumentException();
        }
    }

    private Proc running(int process) {
        range(process, 0, 5);
        if (!procs[process].state.equals("RUNNING")) {
            throw new NoSuchElementException();
        }
        return procs[process];
    }

    private void start(Proc proc, int program) {
        proc.program = program;
        proc.data.clear();
        proc.stack.clear();
        for (int i = 0; i < (program == 0 ? 1 : program == 1 ? 2 : 4); i++) {
            proc.data.add(Page.fresh());
        }
        proc.stack.add(Page.fresh());
    }

    private void stretch(Proc proc, int address) {
        while (address >= 32 && proc.stack.size() * 4 < 44 - address) {
            proc.stack.add(Page.fresh());
        }
    }

    private Page pageAt(int process, int address) {
        Proc proc = procs[process];
        if (address < 8) {
            return texts[proc.program][address / 4];
        }
        List<Page> pages = address < 32 ? proc.data : proc.stack;
        int i = address < 32 ? (address - 8) / 4 : (43 - address) / 4;
        if (i >= pages.size()) {
            throw new IndexOutOfBoundsException();
        }
        return pages.get(i);
    }

    private int owners(Page page) {
        int n = 0;
        for (Proc proc : procs) {
            if (proc.state.equals("RUNNING")) {
                boolean owns = proc.data.contains(page) || proc.stack.contains(page);
                n += owns || index(texts[proc.program], page) >= 0 ? 1 : 0;
            }
        }
        return n;
    }

    private void touch(Page page) throws OutOfMemory {
        if (index(frames, page) < 0) {
            int frame = getFrame();
            int slot = index(slots, page);
            if (slot >= 0) {
                slots[slot] = null;
            }
            frames[frame] = page;
            fills++;
        }
        marks[index(frames, page)] = true;
    }

    private int getFrame() throws OutOfMemory {
        if (free(frames) > 0) {
            return index(frames, null);
        }
        for (int i = 0; i < 2 * frames.length; i++) {
            int frame = hand;
            look();
            if (frames[frame] == null) {
                return frame;
            }
        }
        throw new OutOfMemory();
    }

    private void look() {
        if (frames[hand] != null) {
            if (marks[hand]) {
                marks[hand] = false;
            } else if (canGo(frames[hand])) {
                sendOut(hand);
            }
        }
        hand = (hand + 1) % frames.length;
    }

    private boolean canGo(Page page) {
        return page.text || free(slots) > 0;
    }

    private void sendOut(int frame) {
        if (!frames[frame].text) {
            slots[index(slots, null)] = frames[frame];
        }
        frames[frame] = null;
        sent++;
    }

    private void throwOutUnowned() {
        for (Page[] row : List.of(frames, slots)) {
            for (int i = 0; i < row.length; i++) {
                if (row[i] != null && owners(row[i]) == 0) {
                    row[i] = null;
                }
            }
        }
    }

    private static int index(Page[] row, Page page) {
        for (int i = 0; i < row.length; i++) {
            if (row[i] == page) {
                return i;
            }
        }
        return -1;
    }

    private static int free(Page[] row) {
        int n = 0;
        for (Page page : row) {
            n += page == null ? 1 : 0;
        }
        return n;
    }
}
