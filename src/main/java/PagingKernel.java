import java.util.Arrays;
import java.util.NoSuchElementException;

/**
 * Processes in virtual memory: programs with shared text, demand filling, copying on write after a
 * fork, a stack that grows, and a clock hand that sends pages to swap space.
 */
public final class PagingKernel {
    private static final int NONE = -1;

    private static final int FREE = 0;
    private static final int RUNNING = 1;
    private static final int DEAD = 2;

    private static final int PROCESSES = 6;
    private static final int PROGRAMS = 3;
    private static final int MAX_CODE = 255;
    private static final int MAX_SWEEP = 20;

    private static final int WORDS = 4;
    private static final int ADDRESSES = 44;

    // The places of a process are the pages of its address space: text, then data, then stack.
    private static final int TEXT_PAGES = 2;
    private static final int FIRST_DATA = TEXT_PAGES;
    private static final int MAX_DATA = 6;
    private static final int FIRST_STACK = FIRST_DATA + MAX_DATA;
    private static final int PLACES = ADDRESSES / WORDS;
    private static final int[] DATA_AT_START = {1, 2, 4};

    private static final int STATE_FACT = 0;
    private static final int PROGRAM_FACT = 1;
    private static final int PARENT_FACT = 2;
    private static final int DATA_FACT = 3;
    private static final int STACK_FACT = 4;

    private static final int FREE_FRAMES_COUNT = 0;
    private static final int FREE_SLOTS_COUNT = 1;
    private static final int FILLS_COUNT = 2;
    private static final int COPIES_COUNT = 3;
    private static final int HAND_COUNT = 4;
    private static final int SENT_OUT_COUNT = 5;
    private static final int FIRST_MARK_COUNT = 6;

    private final Memory memory;
    private final int[] state = new int[PROCESSES];
    private final int[] program = new int[PROCESSES];
    private final int[] parent = new int[PROCESSES];
    private final int[] exitCode = new int[PROCESSES];
    private final int[] dataPages = new int[PROCESSES];
    private final int[] stackPages = new int[PROCESSES];
    /** For each process and place its page, or NONE where the address space has a hole. */
    private final int[][] pageAt = new int[PROCESSES][PLACES];

    public PagingKernel(int frames, int slots) {
        memory = new Memory(
                clamp(frames, Memory.MIN_FRAMES, Memory.MAX_FRAMES), clamp(slots, 0, Memory.MAX_SLOTS));
        Arrays.fill(parent, NONE);
        for (int process = 0; process < PROCESSES; process++) {
            Arrays.fill(pageAt[process], NONE);
        }
        state[0] = RUNNING;
        startProgram(0, 0);
    }

    public int fork(int process)
            throws IllegalArgumentException, NoSuchElementException, UnsupportedOperationException {
        checkProcess(process);
        checkRunning(process);
        int child = leastFreeProcess();
        if (child == NONE) {
            throw new UnsupportedOperationException();
        }
        state[child] = RUNNING;
        parent[child] = process;
        program[child] = program[process];
        dataPages[child] = dataPages[process];
        stackPages[child] = stackPages[process];
        sharePages(process, child);
        return child;
    }

    public int exec(int process, int program) throws IllegalArgumentException, NoSuchElementException {
        checkProcess(process);
        checkRange(program, 0, PROGRAMS - 1);
        checkRunning(process);
        startProgram(process, program);
        return WORDS * dataPages[process];
    }

    public int exit(int process, int code) throws IllegalArgumentException, NoSuchElementException {
        checkRange(process, 1, PROCESSES - 1);
        checkRange(code, 0, MAX_CODE);
        checkRunning(process);
        state[process] = DEAD;
        exitCode[process] = code;
        leavePages(process, 0, PLACES);
        return orphansToFirst(process);
    }

    public int await(int process)
            throws IllegalArgumentException,
                    NoSuchElementException,
                    UnsupportedOperationException,
                    IllegalStateException {
        checkProcess(process);
        checkRunning(process);
        if (!isParent(process)) {
            throw new UnsupportedOperationException();
        }
        int child = leastDeadChild(process);
        if (child == NONE) {
            throw new IllegalStateException();
        }
        state[child] = FREE;
        parent[child] = NONE;
        return (MAX_CODE + 1) * child + exitCode[child];
    }

    public int grow(int process, int by)
            throws IllegalArgumentException, NoSuchElementException, UnsupportedOperationException {
        checkProcess(process);
        checkRange(by, -MAX_DATA, MAX_DATA);
        checkRunning(process);
        int before = dataPages[process];
        int after = before + by;
        if (after < 0 || after > MAX_DATA) {
            throw new UnsupportedOperationException();
        }
        addPages(process, FIRST_DATA + before, FIRST_DATA + after);
        leavePages(process, FIRST_DATA + after, FIRST_DATA + before);
        dataPages[process] = after;
        return after;
    }

    public int read(int process, int address)
            throws IllegalArgumentException,
                    NoSuchElementException,
                    IndexOutOfBoundsException,
                    IllegalStateException {
        checkAddress(process, address);
        growStackTo(process, address / WORDS);
        int page = pageThere(process, address / WORDS);
        if (!memory.touch(page)) {
            throw new IllegalStateException();
        }
        return memory.wordOf(page, address % WORDS);
    }

    public int write(int process, int address, int value)
            throws IllegalArgumentException,
                    NoSuchElementException,
                    IndexOutOfBoundsException,
                    UnsupportedOperationException,
                    IllegalStateException {
        checkAddress(process, address);
        int place = address / WORDS;
        growStackTo(process, place);
        int page = pageThere(process, place);
        if (place < FIRST_DATA) {
            throw new UnsupportedOperationException();
        }
        int own = memory.touchOwn(page);
        if (own == NONE) {
            throw new IllegalStateException();
        }
        pageAt[process][place] = own;
        return memory.replaceWord(own, address % WORDS, value);
    }

    public int sweep(int n) throws IllegalArgumentException {
        checkRange(n, 1, MAX_SWEEP);
        int sent = 0;
        for (int look = 0; look < n; look++) {
            if (memory.lookAndMoveOn()) {
                sent++;
            }
        }
        return sent;
    }

    public int swapOut(int process) throws IllegalArgumentException, NoSuchElementException {
        checkProcess(process);
        checkRunning(process);
        int sent = 0;
        for (int place = FIRST_DATA; place < PLACES; place++) {
            int page = pageAt[process][place];
            if (page != NONE && memory.sendOutIfUnshared(page)) {
                sent++;
            }
        }
        return sent;
    }

    public int where(int process, int address)
            throws IllegalArgumentException, NoSuchElementException, IndexOutOfBoundsException {
        checkAddress(process, address);
        return memory.homeOf(pageThere(process, address / WORDS));
    }

    public int sharers(int process, int address)
            throws IllegalArgumentException, NoSuchElementException, IndexOutOfBoundsException {
        checkAddress(process, address);
        return memory.usersOf(pageThere(process, address / WORDS));
    }

    public int fact(int process, int what) throws IllegalArgumentException {
        checkProcess(process);
        checkRange(what, STATE_FACT, STACK_FACT);
        if (what == STATE_FACT) {
            return state[process];
        }
        if (what == PARENT_FACT) {
            return parent[process];
        }
        if (state[process] != RUNNING) {
            return NONE;
        }
        switch (what) {
            case PROGRAM_FACT:
                return program[process];
            case DATA_FACT:
                return dataPages[process];
            default:
                return stackPages[process];
        }
    }

    public int count(int what) throws IllegalArgumentException {
        checkRange(what, FREE_FRAMES_COUNT, FIRST_MARK_COUNT + Memory.MAX_FRAMES - 1);
        switch (what) {
            case FREE_FRAMES_COUNT:
                return memory.freeFrames();
            case FREE_SLOTS_COUNT:
                return memory.freeSlots();
            case FILLS_COUNT:
                return memory.fills;
            case COPIES_COUNT:
                return memory.copies;
            case HAND_COUNT:
                return memory.hand;
            case SENT_OUT_COUNT:
                return memory.sentOut;
            default:
                return memory.markOf(what - FIRST_MARK_COUNT);
        }
    }

    private static int clamp(int number, int least, int most) {
        return Math.max(least, Math.min(most, number));
    }

    private static void checkRange(int number, int least, int most) {
        if (number < least || number > most) {
            throw new IllegalArgumentException();
        }
    }

    private static void checkProcess(int process) {
        checkRange(process, 0, PROCESSES - 1);
    }

    private void checkRunning(int process) {
        if (state[process] != RUNNING) {
            throw new NoSuchElementException();
        }
    }

    private void checkAddress(int process, int address) {
        checkProcess(process);
        checkRange(address, 0, ADDRESSES - 1);
        checkRunning(process);
    }

    private int pageThere(int process, int place) {
        int page = pageAt[process][place];
        if (page == NONE) {
            throw new IndexOutOfBoundsException();
        }
        return page;
    }

    private void startProgram(int process, int started) {
        // Joined before the old text is left: a process that starts the program it has is never
        // without it, so the text keeps its frames.
        for (int k = 0; k < TEXT_PAGES; k++) {
            memory.join(Memory.textPage(started, k));
        }
        leavePages(process, 0, PLACES);
        for (int k = 0; k < TEXT_PAGES; k++) {
            pageAt[process][k] = Memory.textPage(started, k);
        }
        program[process] = started;
        dataPages[process] = DATA_AT_START[started];
        stackPages[process] = 1;
        addPages(process, FIRST_DATA, FIRST_DATA + dataPages[process]);
        addPages(process, PLACES - 1, PLACES);
    }

    private void addPages(int process, int from, int to) {
        for (int place = from; place < to; place++) {
            pageAt[process][place] = memory.newPage();
        }
    }

    private void leavePages(int process, int from, int to) {
        for (int place = from; place < to; place++) {
            int page = pageAt[process][place];
            if (page != NONE) {
                memory.leave(page);
                pageAt[process][place] = NONE;
            }
        }
    }

    private void sharePages(int process, int child) {
        for (int place = 0; place < PLACES; place++) {
            int page = pageAt[process][place];
            if (page != NONE) {
                memory.join(page);
            }
            pageAt[child][place] = page;
        }
    }

    private void growStackTo(int process, int place) {
        int there = PLACES - stackPages[process];
        if (place >= FIRST_STACK && place < there) {
            addPages(process, place, there);
            stackPages[process] = PLACES - place;
        }
    }

    private int leastFreeProcess() {
        for (int process = 0; process < PROCESSES; process++) {
            if (state[process] == FREE) {
                return process;
            }
        }
        return NONE;
    }

    private boolean isParent(int process) {
        for (int child = 0; child < PROCESSES; child++) {
            if (parent[child] == process) {
                return true;
            }
        }
        return false;
    }

    private int leastDeadChild(int process) {
        for (int child = 0; child < PROCESSES; child++) {
            if (parent[child] == process && state[child] == DEAD) {
                return child;
            }
        }
        return NONE;
    }

    private int orphansToFirst(int process) {
        int orphans = 0;
        for (int child = 0; child < PROCESSES; child++) {
            if (parent[child] == process) {
                parent[child] = 0;
                orphans++;
            }
        }
        return orphans;
    }

    /** The pages, the frames and slots that hold them, and the hand of the clock. */
    private static final class Memory {
        static final int MIN_FRAMES = 2;
        static final int MAX_FRAMES = 10;
        static final int MAX_SLOTS = 20;

        private static final int NEW = -1;
        private static final int FIRST_SLOT_HOME = 100;

        // Pages 0 .. 5 are the text of the programs. There are as many others as the processes
        // have places for them.
        private static final int FIRST_OWN = PROGRAMS * TEXT_PAGES;
        private static final int PAGES = FIRST_OWN + PROCESSES * (PLACES - TEXT_PAGES);

        private final int[] words = new int[PAGES * WORDS];
        /** How many places each page belongs to; for text, how many running processes. */
        private final int[] users = new int[PAGES];
        /** NEW, or the number of the page's frame, or FIRST_SLOT_HOME plus that of its slot. */
        private final int[] home = new int[PAGES];
        private final int[] pageInFrame;
        /** Of no meaning where the frame is free. */
        private final boolean[] marked;
        private final int[] pageInSlot;
        private int hand = 0;
        private int fills = 0;
        private int copies = 0;
        private int sentOut = 0;

        Memory(int frames, int slots) {
            pageInFrame = new int[frames];
            marked = new boolean[frames];
            pageInSlot = new int[slots];
            Arrays.fill(pageInFrame, NONE);
            Arrays.fill(pageInSlot, NONE);
            Arrays.fill(home, NEW);
            for (int page = 0; page < FIRST_OWN; page++) {
                for (int i = 0; i < WORDS; i++) {
                    words[page * WORDS + i] = 100 * (page / TEXT_PAGES) + 10 * (page % TEXT_PAGES) + i;
                }
            }
        }

        static int textPage(int program, int k) {
            return program * TEXT_PAGES + k;
        }

        int wordOf(int page, int i) {
            return words[page * WORDS + i];
        }

        int replaceWord(int page, int i, int value) {
            int before = words[page * WORDS + i];
            words[page * WORDS + i] = value;
            return before;
        }

        int homeOf(int page) {
            return home[page];
        }

        int usersOf(int page) {
            return users[page];
        }

        int freeFrames() {
            return howManyFree(pageInFrame);
        }

        int freeSlots() {
            return howManyFree(pageInSlot);
        }

        int markOf(int frame) {
            if (frame >= pageInFrame.length || pageInFrame[frame] == NONE) {
                return NONE;
            }
            return marked[frame] ? 1 : 0;
        }

        int newPage() {
            // One is always unused: the place that asks has no page yet, or only a shared one. So
            // the bound is no more than a fence for the index.
            int page = FIRST_OWN;
            while (page < PAGES - 1 && users[page] > 0) {
                page++;
            }
            for (int i = 0; i < WORDS; i++) {
                words[page * WORDS + i] = 0;
            }
            users[page] = 1;
            return page;
        }

        void join(int page) {
            users[page]++;
        }

        void leave(int page) {
            users[page]--;
            if (users[page] == 0) {
                vacate(page);
            }
        }

        /** Answers false if out of memory. */
        boolean touch(int page) {
            if (isIn(page)) {
                marked[home[page]] = true;
                return true;
            }
            // A page that is out keeps its slot until it has a frame: the slot is no help in
            // getting one.
            int frame = getFrame();
            if (frame == NONE) {
                return false;
            }
            vacate(page);
            settle(page, frame);
            fills++;
            return true;
        }

        /** Answers the page to write on, a copy if others share this one, or NONE if out of memory. */
        int touchOwn(int page) {
            if (!touch(page)) {
                return NONE;
            }
            if (users[page] == 1) {
                return page;
            }
            int frame = getFrame();
            if (frame == NONE) {
                return NONE;
            }
            int copy = newPage();
            System.arraycopy(words, page * WORDS, words, copy * WORDS, WORDS);
            settle(copy, frame);
            copies++;
            leave(page);
            return copy;
        }

        /** Answers whether the page in the hand's frame was sent out. */
        boolean lookAndMoveOn() {
            int page = pageInFrame[hand];
            boolean goes = page != NONE && !marked[hand] && canGo(page);
            if (goes) {
                sendOut(page);
            }
            marked[hand] = false;
            hand = hand + 1 < pageInFrame.length ? hand + 1 : 0;
            return goes;
        }

        boolean sendOutIfUnshared(int page) {
            boolean goes = isIn(page) && users[page] == 1 && canGo(page);
            if (goes) {
                sendOut(page);
            }
            return goes;
        }

        private int getFrame() {
            int free = leastFree(pageInFrame);
            if (free != NONE) {
                return free;
            }
            for (int look = 0; look < 2 * pageInFrame.length; look++) {
                int frame = hand;
                if (lookAndMoveOn()) {
                    return frame;
                }
            }
            return NONE;
        }

        private boolean isIn(int page) {
            return home[page] != NEW && home[page] < FIRST_SLOT_HOME;
        }

        private static boolean isText(int page) {
            return page < FIRST_OWN;
        }

        private boolean canGo(int page) {
            return isText(page) || leastFree(pageInSlot) != NONE;
        }

        private void sendOut(int page) {
            int slot = isText(page) ? NONE : leastFree(pageInSlot);
            vacate(page);
            if (slot != NONE) {
                pageInSlot[slot] = page;
                home[page] = FIRST_SLOT_HOME + slot;
            }
            sentOut++;
        }

        private void settle(int page, int frame) {
            pageInFrame[frame] = page;
            home[page] = frame;
            marked[frame] = true;
        }

        private void vacate(int page) {
            int left = home[page];
            if (left >= FIRST_SLOT_HOME) {
                pageInSlot[left - FIRST_SLOT_HOME] = NONE;
            } else if (left != NEW) {
                pageInFrame[left] = NONE;
            }
            home[page] = NEW;
        }

        private static int leastFree(int[] row) {
            for (int i = 0; i < row.length; i++) {
                if (row[i] == NONE) {
                    return i;
                }
            }
            return NONE;
        }

        private static int howManyFree(int[] row) {
            int free = 0;
            for (int i = 0; i < row.length; i++) {
                if (row[i] == NONE) {
                    free++;
                }
            }
            return free;
        }
    }
}
