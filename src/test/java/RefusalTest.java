import java.util.List;

/** "What is thrown, in this order", call by call; and "a call that throws changes nothing, but as said". */
public final class RefusalTest {
    private static final Script SCRIPT = new Script();

    /** A call of the face, and for each of its numbers the least and the largest that is in range. */
    private record Face(String name, int... bounds) {
        int numbers() {
            return bounds.length / 2;
        }

        boolean inRange(int[] numbers) {
            for (int i = 0; i < numbers.length; i++) {
                if (numbers[i] < bounds[2 * i] || numbers[i] > bounds[2 * i + 1]) {
                    return false;
                }
            }
            return true;
        }

        /** Only these are answered whatever the process is, or have no process at all. */
        boolean needsRunning() {
            return !List.of("fact", "sweep", "count").contains(name);
        }

        String with(int[] numbers) {
            StringBuilder text = new StringBuilder(name);
            for (int i = 0; i < numbers.length; i++) {
                text.append(i == 0 ? "(" : ", ").append(numbers[i]);
            }
            return text.append(")").toString();
        }
    }

    private static final int MIN = Integer.MIN_VALUE;
    private static final int MAX = Integer.MAX_VALUE;

    private static final List<Face> CALLS = List.of(
            new Face("fork", 0, 5),
            new Face("exec", 0, 5, 0, 2),
            new Face("exit", 1, 5, 0, 255),
            new Face("await", 0, 5),
            new Face("grow", 0, 5, -6, 6),
            new Face("read", 0, 5, 0, 43),
            new Face("write", 0, 5, 0, 43, MIN, MAX),
            new Face("sweep", 1, 20),
            new Face("swapOut", 0, 5),
            new Face("where", 0, 5, 0, 43),
            new Face("sharers", 0, 5, 0, 43),
            new Face("fact", 0, 5, 0, 4),
            new Face("count", 0, 15));

    private static final int FRAMES = 4;
    private static final int SLOTS = 5;
    /**
     * 0, 2 and 3 are RUNNING, 1 is DEAD, 4 and 5 are FREE; pages are new, in and out, shared and
     * not, marks are set and not, and the hand is at 1.
     */
    private static final String BUSY = """
            fork(0) = 1; fork(0) = 2; exec(2, 1) = 8; exit(1, 7) = 0; write(0, 8, 5) = 0; write(2, 36, 6) = 0
            fork(2) = 3; read(0, 4) = 10; sweep(2) = 0; write(3, 8, 7) = 0
            where(0, 8) = 100; count(4) = 1; count(6) = 1; count(7) = 0; sharers(3, 36) = 2; where(3, 12) = -1
            """;
    private static final List<Integer> NOT_RUNNING = List.of(1, 4, 5);

    public static void main(String[] args) {
        for (Face face : CALLS) {
            everyNumber(face, new int[face.numbers()], 0);
        }
        noneIsFree();
        noChildOrNoneDead();
        dataTooSmallOrTooLarge();
        addressNotThere();
        textIsNotWritten();
        outOfMemoryIsLast();
        SCRIPT.exitIfWrong();
    }

    /** Each number at its edges and just and far beyond them, with all such values of the others. */
    private static void everyNumber(Face face, int[] numbers, int at) {
        if (at == numbers.length) {
            outOfRangeThenNotRunning(face, numbers);
            return;
        }
        int least = face.bounds[2 * at];
        int most = face.bounds[2 * at + 1];
        int[] values = at == 0 && most == 5
                ? new int[] {MIN, -1, 0, 1, 2, 4, 5, 6, MAX}
                : new int[] {MIN, least == MIN ? 0 : least - 1, least, most, most == MAX ? 0 : most + 1, MAX};
        for (int value : values) {
            numbers[at] = value;
            everyNumber(face, numbers, at + 1);
        }
    }

    private static void outOfRangeThenNotRunning(Face face, int[] numbers) {
        String call = face.with(numbers);
        if (!face.inRange(numbers)) {
            SCRIPT.refuse("terms: a number out of range", FRAMES, SLOTS, BUSY, call + " = IllegalArgumentException");
        } else if (face.needsRunning() && NOT_RUNNING.contains(numbers[0])) {
            SCRIPT.refuse("terms: not running", FRAMES, SLOTS, BUSY, call + " = NoSuchElementException");
        } else {
            SCRIPT.allow("terms: numbers in range", FRAMES, SLOTS, BUSY, call);
        }
    }

    private static void noneIsFree() {
        String full = "write(0, 8, 5) = 0; fork(0) = 1; fork(1) = 2; fork(2) = 3; fork(0) = 4; fork(0) = 5; exit(4, 1) = 0";
        SCRIPT.refuse("2: none is free, a dead one is not free", 3, 3, full, """
            fork(0) = UnsupportedOperationException; fork(1) = UnsupportedOperationException
            fork(3) = UnsupportedOperationException; fork(5) = UnsupportedOperationException
            """);
        SCRIPT.refuse("2: not running comes before none is free", 3, 3, full, """
            fork(4) = NoSuchElementException; fork(6) = IllegalArgumentException
            """);
        SCRIPT.change("2: the last free one", 3, 3, full + "; await(0) = 1025", "fork(3) = 4", """
            fact(4, 0) = 1; fact(4, 1) = 0; fact(4, 2) = 3; fact(4, 3) = 1; fact(4, 4) = 1
            where(4, 0) = -1; where(4, 4) = -1; where(4, 8) = 0; where(4, 40) = -1
            where(4, 12) = IndexOutOfBoundsException; where(4, 16) = IndexOutOfBoundsException
            where(4, 20) = IndexOutOfBoundsException; where(4, 24) = IndexOutOfBoundsException
            where(4, 28) = IndexOutOfBoundsException; where(4, 32) = IndexOutOfBoundsException
            where(4, 36) = IndexOutOfBoundsException
            sharers(4, 12) = IndexOutOfBoundsException; sharers(4, 16) = IndexOutOfBoundsException
            sharers(4, 20) = IndexOutOfBoundsException; sharers(4, 24) = IndexOutOfBoundsException
            sharers(4, 28) = IndexOutOfBoundsException; sharers(4, 32) = IndexOutOfBoundsException
            sharers(4, 36) = IndexOutOfBoundsException
            """ + sharersOf("0 1 2 3 4 5", "0 4 8 40", 6));
    }

    private static String sharersOf(String processes, String addresses, int many) {
        StringBuilder rows = new StringBuilder();
        for (String process : processes.split(" ")) {
            for (String address : addresses.split(" ")) {
                rows.append("sharers(" + process + ", " + address + ") = " + many + "\n");
            }
        }
        return rows.toString();
    }

    private static void noChildOrNoneDead() {
        SCRIPT.refuse("5: no process has this one as parent", 3, 3, "", "await(0) = UnsupportedOperationException");
        SCRIPT.refuse("5: FREE ones have no parent", 3, 3, "fork(0) = 1; exit(1, 3) = 0; await(0) = 259", """
            await(0) = UnsupportedOperationException; await(1) = NoSuchElementException
            """);
        SCRIPT.refuse("5: none of these is dead", 3, 3, "fork(0) = 1; fork(1) = 2; fork(2) = 3; exit(3, 0) = 0", """
            await(0) = IllegalStateException; await(1) = IllegalStateException
            """);
        SCRIPT.refuse("5: the dead one is not its own", 3, 3, "fork(0) = 1; fork(0) = 2; exit(2, 0) = 0", """
            await(1) = UnsupportedOperationException; await(2) = NoSuchElementException
            """);
    }

    private static void dataTooSmallOrTooLarge() {
        for (int pages = 0; pages <= 6; pages++) {
            String rows = "grow(0, " + (pages - 1) + ") = " + pages;
            for (int by = -6; by <= 6; by++) {
                String call = "grow(0, " + by + ") = ";
                if (pages + by < 0 || pages + by > 6) {
                    SCRIPT.refuse("6: fewer than 0 or more than 6", 3, 3, rows, call + "UnsupportedOperationException");
                } else {
                    SCRIPT.play("6: 0 to 6 pages", 3, 3, rows + ";" + call + (pages + by) + "; fact(0, 3) = " + (pages + by));
                }
            }
        }
        SCRIPT.refuse("6: what is held stays held", 2, 2,
                "grow(0, 2) = 3; write(0, 8, 1) = 0; write(0, 12, 2) = 0; write(0, 16, 3) = 0", """
            grow(0, -4) = UnsupportedOperationException; grow(0, 4) = UnsupportedOperationException
            """);
    }

    private static void addressNotThere() {
        for (int pages = 0; pages <= 6; pages++) {
            String rows = "grow(0, " + (pages - 1) + ") = " + pages;
            for (int address = 8 + 4 * pages; address < 32; address++) {
                String at = "(0, " + address;
                SCRIPT.refuse("7, 8, 11, 12: data that is not there", 2, 2, rows,
                        "read" + at + ") = IndexOutOfBoundsException; write" + at + ", 1) = IndexOutOfBoundsException;"
                        + "where" + at + ") = IndexOutOfBoundsException; sharers" + at + ") = IndexOutOfBoundsException");
            }
            StringBuilder there = new StringBuilder(rows);
            for (int address = 8; address < 8 + 4 * pages; address++) {
                String at = "(0, " + address;
                there.append("; sharers" + at + ") = 1; write" + at + ", " + address + ") = 0; read" + at + ") = " + address);
            }
            SCRIPT.play("7, 8, 12: data that is there", 8, 8, there.toString());
        }
        for (int pages = 1; pages <= 3; pages++) {
            String rows = "read(0, " + (44 - 4 * pages) + ") = 0; fact(0, 4) = " + pages;
            for (int address = 32; address < 44; address++) {
                String at = "(0, " + address + ") = ";
                if (address < 44 - 4 * pages) {
                    SCRIPT.refuse("11, 12: the stack does not grow here", 4, 4, rows,
                            "where" + at + "IndexOutOfBoundsException; sharers" + at + "IndexOutOfBoundsException");
                } else {
                    SCRIPT.play("12: stack that is there", 4, 4, rows + "; sharers" + at + "1");
                }
            }
        }
    }

    private static void textIsNotWritten() {
        for (int address = 0; address < 8; address++) {
            SCRIPT.refuse("8: text is not written, nor touched", 4, 5, BUSY,
                    "write(0, " + address + ", 1) = UnsupportedOperationException;"
                    + "write(3, " + address + ", 1) = UnsupportedOperationException;"
                    + "write(1, " + address + ", 1) = NoSuchElementException;"
                    + "write(4, " + address + ", 1) = NoSuchElementException");
        }
        SCRIPT.play("8: behind the text is data", 4, 4, "write(0, 8, 1) = 0; read(0, 7) = 13; read(0, 8) = 1");
    }

    private static void outOfMemoryIsLast() {
        String full = "write(0, 8, 1) = 0; write(0, 43, 2) = 0";
        SCRIPT.refuse("terms: out of memory comes last, so no mark is taken", 2, 0, full, """
            read(6, 0) = IllegalArgumentException; read(0, 44) = IllegalArgumentException
            write(6, 12, 1) = IllegalArgumentException; write(0, 44, 1) = IllegalArgumentException
            read(1, 0) = NoSuchElementException; write(1, 39, 1) = NoSuchElementException
            read(0, 12) = IndexOutOfBoundsException; write(0, 31, 1) = IndexOutOfBoundsException
            write(0, 0, 1) = UnsupportedOperationException; write(0, 7, 1) = UnsupportedOperationException
            """);
        SCRIPT.change("7: out of memory", 2, 0, full, "read(0, 0) = IllegalStateException",
                "count(6) = 0; count(7) = 0");
        SCRIPT.refuse("7: out of memory and no mark to take", 2, 0, full + "; read(0, 0) = IllegalStateException", """
            read(0, 0) = IllegalStateException; read(0, 7) = IllegalStateException
            """);
        SCRIPT.play("terms: what gets no frame is never out of memory", 2, 0, full + """
            ; fork(0) = 1; grow(1, 5) = 6; exec(1, 2) = 16; swapOut(0) = 0; exit(1, 0) = 0; await(0) = 256
            grow(0, 5) = 6
            count(6) = 1; count(7) = 1; exec(0, 0) = 4; count(0) = 2
            """);
    }
}
