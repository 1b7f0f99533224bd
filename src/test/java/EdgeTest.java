/**
 * The sentences of the document that name a boundary case, one by one: what is due at the edge and
 * just beyond it. Calls that are refused by a number, a state or a place stand in RefusalTest.
 */
public final class EdgeTest {
    private static final Script SCRIPT = new Script();

    public static void main(String[] args) {
        sizesAreClamped();
        clampedSizesAreUsed();
        forkTakesTheLeastFree();
        forkSharesAtEachSize();
        execAnswersTheWords();
        execOfTheSameProgram();
        textOfAProgram();
        pagesOfNobody();
        exitNumbersAndCodes();
        orphans();
        awaitTakesTheLeastDead();
        growAtTheEnd();
        stackGrowsToJustThatMany();
        stackGrowsOutOfMemory();
        leastFreeFrame();
        handWrapsAround();
        twiceAsManyLooks();
        canGo();
        leastFreeSlot();
        frameBeforeSlot();
        copies();
        firstOneSentOut();
        outOfMemoryForTheCopy();
        sweepLooks();
        sweepSends();
        swapOutChooses();
        looksChangeNothing();
        factsOfEachState();
        counts();
        SCRIPT.exitIfWrong();
    }

    private static void sizesAreClamped() {
        int[] frames = {Integer.MIN_VALUE, -1, 0, 1, 2, 3, 9, 10, 11, Integer.MAX_VALUE};
        int[] dueFrames = {2, 2, 2, 2, 2, 3, 9, 10, 10, 10};
        int[] slots = {Integer.MIN_VALUE, -1, 0, 1, 19, 20, 21, Integer.MAX_VALUE};
        int[] dueSlots = {0, 0, 0, 1, 19, 20, 20, 20};
        for (int f = 0; f < frames.length; f++) {
            for (int s = 0; s < slots.length; s++) {
                SCRIPT.play("1: frames 2 .. 10, slots 0 .. 20, each clamped: " + frames[f] + ", " + slots[s],
                        frames[f], slots[s], "count(0) = " + dueFrames[f] + "; count(1) = " + dueSlots[s]);
            }
        }
    }

    private static void clampedSizesAreUsed() {
        SCRIPT.play("1: two frames and no slot are held to", 1, -1, """
            read(0, 8) = 0; read(0, 43) = 0; count(0) = 0; count(7) = 1; count(8) = -1
            read(0, 39) = IllegalStateException
            sweep(1) = 0; count(4) = 1; sweep(1) = 0; count(4) = 0
            """);
        StringBuilder rows = new StringBuilder("exec(0, 2) = 16; grow(0, 2) = 6; read(0, 32) = 0; fork(0) = 1; exec(1, 2) = 16\n");
        rows.append("grow(1, 2) = 6; read(1, 32) = 0; fork(0) = 2; exec(2, 2) = 16; grow(2, 2) = 6; read(2, 32) = 0\n");
        rows.append("fork(0) = 3; exec(3, 2) = 16; grow(3, 2) = 6; swapOut(0) = 1; swapOut(1) = 1; swapOut(2) = 1; count(0) = 10\n");
        int touched = 3;
        for (int process = 0; process < 3; process++) {
            for (int address = 8; address < 44; address += 4) {
                if (address != 32) {
                    rows.append("write(" + process + ", " + address + ", " + touched + ") = 0\n");
                    touched++;
                }
            }
        }
        rows.append("count(0) = 0; count(1) = 3; count(5) = 17; write(3, 8, 7) = 0; write(3, 12, 7) = 0; write(3, 16, 7) = 0\n");
        rows.append("count(1) = 0; count(5) = 20; write(3, 20, 7) = IllegalStateException; read(3, 0) = IllegalStateException\n");
        rows.append("grow(0, -1) = 5; write(3, 20, 7) = 0; write(3, 24, 7) = IllegalStateException");
        SCRIPT.play("1: ten frames and twenty slots are held to", 11, 21, rows.toString());
    }

    private static void forkTakesTheLeastFree() {
        SCRIPT.play("2: the least free process", 3, 3, """
            fork(0) = 1; fork(0) = 2; fork(0) = 3; fork(0) = 4; fork(0) = 5; fork(0) = UnsupportedOperationException
            exit(5, 0) = 0; exit(3, 0) = 0; exit(1, 0) = 0; fork(0) = UnsupportedOperationException
            await(0) = 256; await(0) = 768; await(0) = 1280; fork(4) = 1; fork(4) = 3; fork(1) = 5
            fork(5) = UnsupportedOperationException; fact(3, 2) = 4; fact(5, 2) = 1; fact(1, 2) = 4
            """);
    }

    private static void forkSharesAtEachSize() {
        SCRIPT.play("2: with its program, the last one too", 4, 3, """
            exec(0, 1) = 8; fork(0) = 1; fact(1, 1) = 1; fact(1, 3) = 2; exec(1, 2) = 16; fork(1) = 2
            fact(2, 1) = 2; fact(2, 3) = 4
            sharers(0, 0) = 1; sharers(2, 0) = 2; read(2, 7) = 213; where(1, 7) = 0; exit(1, 0) = 1; where(2, 7) = 0
            """);
        SCRIPT.play("2: with no data and the least stack", 3, 3, """
            grow(0, -1) = 0; fork(0) = 1; fact(1, 3) = 0; fact(1, 4) = 1; where(1, 8) = IndexOutOfBoundsException
            sharers(0, 40) = 2; grow(1, 1) = 1; sharers(1, 8) = 1; where(0, 8) = IndexOutOfBoundsException
            """);
        SCRIPT.play("2: with all data and the whole stack", 10, 20, """
            grow(0, 5) = 6; write(0, 31, 1) = 0; write(0, 32, 2) = 0; swapOut(0) = 2; read(0, 32) = 2; fork(0) = 1
            fact(1, 3) = 6; fact(1, 4) = 3; sharers(1, 8) = 2; sharers(1, 31) = 2; sharers(1, 32) = 2
            sharers(1, 43) = 2
            where(1, 31) = 100; where(1, 32) = 0; where(1, 8) = -1; read(1, 31) = 1; read(1, 32) = 2
            """);
    }

    private static void execAnswersTheWords() {
        SCRIPT.play("3: program 0 .. 2: 1, 2, 4 pages of data and 1 of stack", 4, 4, """
            grow(0, 5) = 6; read(0, 32) = 0
            exec(0, 0) = 4; fact(0, 1) = 0; fact(0, 3) = 1; fact(0, 4) = 1; where(0, 11) = -1
            where(0, 12) = IndexOutOfBoundsException
            exec(0, 1) = 8; fact(0, 1) = 1; fact(0, 3) = 2; fact(0, 4) = 1; where(0, 15) = -1
            where(0, 16) = IndexOutOfBoundsException
            exec(0, 2) = 16; fact(0, 1) = 2; fact(0, 3) = 4; fact(0, 4) = 1; where(0, 23) = -1
            where(0, 24) = IndexOutOfBoundsException
            where(0, 40) = -1; where(0, 39) = IndexOutOfBoundsException
            """);
        SCRIPT.play("3: it stays the process it was", 4, 4, """
            fork(0) = 1; fork(1) = 2; fork(2) = 3; exec(2, 1) = 8; fact(2, 0) = 1; fact(2, 2) = 1; fact(3, 2) = 2
            exit(3, 9) = 0; await(2) = 777
            """);
    }

    private static void execOfTheSameProgram() {
        SCRIPT.change("3: it may be the one it has: data and stack are new, the text stays", 6, 4, """
            read(0, 0) = 0; write(0, 8, 5) = 0; write(0, 43, 6) = 0; write(0, 36, 7) = 0; grow(0, 1) = 2
            swapOut(0) = 3
            write(0, 12, 8) = 0; read(0, 8) = 5
            """, "exec(0, 0) = 4", """
            fact(0, 3) = 1; fact(0, 4) = 1; where(0, 8) = -1; where(0, 40) = -1
            where(0, 12) = IndexOutOfBoundsException; sharers(0, 12) = IndexOutOfBoundsException
            where(0, 36) = IndexOutOfBoundsException; sharers(0, 36) = IndexOutOfBoundsException
            count(0) = 5; count(1) = 4; count(7) = -1; count(8) = -1
            """);
        SCRIPT.change("3: the one it has, of sizes as they were, and nothing touched", 6, 4, "", "exec(0, 0) = 4",
                "");
        SCRIPT.play("3: the one it has: the words are new too", 6, 4, """
            write(0, 8, 5) = 0; write(0, 43, 6) = 0; exec(0, 0) = 4; read(0, 8) = 0; read(0, 43) = 0
            """);
        SCRIPT.change("3: the one it has, and another process too", 6, 4,
                "read(0, 0) = 0; write(0, 8, 5) = 0; fork(0) = 1",
                "exec(1, 0) = 4",
                "where(1, 8) = -1; sharers(0, 8) = 1; sharers(1, 8) = 1; sharers(0, 40) = 1; sharers(1, 40) = 1");
    }

    private static void textOfAProgram() {
        for (int program = 0; program < 3; program++) {
            StringBuilder rows = new StringBuilder("exec(0, " + program + ") = " + (4 << program) + "\n");
            for (int address = 0; address < 8; address++) {
                rows.append("read(0, " + address + ") = " + (100 * program + 10 * (address / 4) + address % 4) + "\n");
            }
            rows.append("count(2) = 2; sweep(4) = 2; where(0, 0) = -1; where(0, 4) = -1; read(0, 7) = " + (100 * program + 13));
            SCRIPT.play("terms: the words of text, also after it was sent out", 2, 0, rows.toString());
        }
        SCRIPT.change("terms: text stays as long as some running process has the program", 4, 4,
                "read(0, 0) = 0; read(0, 4) = 10; fork(0) = 1", "exec(0, 1) = 8", """
            fact(0, 1) = 1; fact(0, 3) = 2; where(0, 0) = -1; where(0, 4) = -1; where(0, 12) = -1; sharers(0, 12) = 1
            sharers(0, 0) = 1; sharers(1, 0) = 1; sharers(0, 4) = 1; sharers(1, 4) = 1
            sharers(0, 8) = 1; sharers(1, 8) = 1; sharers(0, 40) = 1; sharers(1, 40) = 1
            """);
        SCRIPT.play("terms: text leaves when the last one that has it starts another", 4, 4, """
            read(0, 0) = 0; read(0, 4) = 10; fork(0) = 1; exec(0, 1) = 8; count(0) = 2; exec(1, 1) = 8; count(0) = 4
            count(5) = 0
            """);
        SCRIPT.play("terms: text leaves when the last one that has it ends, though a dead one had it", 4, 4, """
            fork(0) = 1; exec(1, 2) = 16; fork(1) = 2; read(1, 4) = 210; exit(2, 0) = 0; where(1, 4) = 0; count(0) = 3
            exit(1, 0) = 1; count(0) = 4; count(6) = -1; fork(0) = 3; exec(3, 2) = 16; where(3, 4) = -1
            """);
        SCRIPT.play("terms: only the program's own text leaves", 4, 4, """
            read(0, 0) = 0; fork(0) = 1; exec(1, 1) = 8; read(1, 0) = 100; read(1, 4) = 110; exec(1, 2) = 16
            where(0, 0) = 0; count(0) = 3; count(7) = -1; count(8) = -1; read(1, 0) = 200; where(1, 0) = 1
            """);
    }

    private static void pagesOfNobody() {
        SCRIPT.play("terms: a page of nobody leaves its frame", 3, 4, """
            grow(0, 1) = 2; write(0, 8, 1) = 0; write(0, 12, 2) = 0; grow(0, -1) = 1; count(0) = 2; count(7) = -1
            count(6) = 1
            """);
        SCRIPT.play("terms: a page of nobody leaves its slot", 3, 4, """
            grow(0, 1) = 2; write(0, 8, 1) = 0; write(0, 12, 2) = 0; swapOut(0) = 2; grow(0, -1) = 1; count(1) = 3
            where(0, 8) = 100
            """);
        SCRIPT.play("terms: not as long as one place has it", 3, 4, """
            write(0, 8, 1) = 0; fork(0) = 1; fork(0) = 2; grow(0, -1) = 0; exec(1, 1) = 8; where(2, 8) = 0
            sharers(2, 8) = 1
            exit(2, 0) = 0; count(0) = 3
            """);
    }

    private static void exitNumbersAndCodes() {
        SCRIPT.play("4: process 1 .. 5, code 0 .. 255", 3, 3, """
            fork(0) = 1; fork(0) = 2; fork(0) = 3; fork(0) = 4; fork(0) = 5
            exit(1, 0) = 0; exit(2, 1) = 0; exit(3, 128) = 0; exit(4, 254) = 0; exit(5, 255) = 0
            await(0) = 256; await(0) = 513; await(0) = 896; await(0) = 1278; await(0) = 1535
            await(0) = UnsupportedOperationException
            """);
        SCRIPT.play("4: the code is that of the last exit", 3, 3, """
            fork(0) = 1; exit(1, 255) = 0; await(0) = 511; fork(0) = 1; exit(1, 0) = 0; await(0) = 256
            """);
        SCRIPT.change("4: nothing but itself and its pages", 3, 3,
                "write(0, 8, 1) = 0; fork(0) = 1; write(1, 8, 2) = 1; grow(1, -1) = 0",
                "exit(1, 4) = 0", """
            fact(1, 0) = 2; fact(1, 1) = -1; fact(1, 3) = -1; fact(1, 4) = -1; sharers(0, 0) = 1; sharers(0, 4) = 1
            sharers(0, 40) = 1
            """ + notRunning(1));
    }

    private static String notRunning(int process) {
        StringBuilder rows = new StringBuilder();
        for (int address = 0; address < 44; address += 4) {
            String at = "(" + process + ", " + address + ") = NoSuchElementException\n";
            rows.append("where" + at + "sharers" + at);
        }
        return rows.toString();
    }

    private static void orphans() {
        SCRIPT.play("4: 0 is the parent of all whose parent it was, answers none", 3, 3, """
            fork(0) = 1; fork(0) = 2; exit(1, 0) = 0; fact(2, 2) = 0; fact(1, 2) = 0
            """);
        SCRIPT.play("4: 0 is the parent of all whose parent it was, answers four", 3, 3, """
            fork(0) = 1; fork(1) = 2; fork(1) = 3; fork(1) = 4; fork(1) = 5; exit(1, 0) = 4
            fact(1, 2) = 0; fact(2, 2) = 0; fact(3, 2) = 0; fact(4, 2) = 0; fact(5, 2) = 0
            """);
        SCRIPT.play("4: DEAD ones too", 3, 3, """
            fork(0) = 1; fork(1) = 2; fork(1) = 3; exit(2, 6) = 0; exit(3, 7) = 0; fact(2, 2) = 1; exit(1, 5) = 2
            fact(2, 0) = 2; fact(2, 2) = 0; fact(3, 2) = 0; await(0) = 261; await(0) = 518; await(0) = 775
            """);
        SCRIPT.play("4: not FREE ones, nor the children of its children", 3, 3, """
            fork(0) = 1; fork(1) = 2; exit(2, 0) = 0; await(1) = 512; fork(1) = 2; fork(2) = 3; fork(1) = 4
            exit(4, 0) = 0
            await(1) = 1024; exit(1, 0) = 1; fact(2, 2) = 0; fact(3, 2) = 2; fact(4, 2) = -1
            """);
    }

    private static void awaitTakesTheLeastDead() {
        SCRIPT.change("5: the least dead one is free, and no more than that", 3, 3, """
            fork(0) = 1; fork(0) = 2; fork(0) = 3; fork(0) = 4; exit(4, 255) = 0; exit(3, 0) = 0
            """, "await(0) = 768", "fact(3, 0) = 0; fact(3, 2) = -1");
        SCRIPT.play("5: one after another, then none is dead, then none is left", 3, 3, """
            fork(0) = 1; fork(0) = 2; fork(0) = 3; exit(3, 255) = 0; exit(2, 0) = 0; await(0) = 512; await(0) = 1023
            await(0) = IllegalStateException; exit(1, 1) = 0; await(0) = 257; await(0) = UnsupportedOperationException
            """);
        SCRIPT.play("5: a lesser dead one that is another's is not taken", 3, 3, """
            fork(0) = 1; fork(0) = 2; fork(2) = 3; exit(1, 1) = 0; exit(3, 3) = 0; await(2) = 771; await(0) = 257
            """);
    }

    private static void growAtTheEnd() {
        SCRIPT.change("6: by -6 .. 6, all at once and back", 3, 3, "grow(0, -1) = 0", "grow(0, 6) = 6", """
            fact(0, 3) = 6; where(0, 8) = -1; where(0, 12) = -1; where(0, 16) = -1; where(0, 20) = -1
            where(0, 24) = -1
            where(0, 28) = -1; sharers(0, 8) = 1; sharers(0, 12) = 1; sharers(0, 16) = 1; sharers(0, 20) = 1
            sharers(0, 24) = 1; sharers(0, 28) = 1
            """);
        SCRIPT.play("6: all at once away", 3, 4, """
            grow(0, 5) = 6; write(0, 8, 1) = 0; write(0, 28, 2) = 0; swapOut(0) = 2; write(0, 16, 3) = 0
            write(0, 31, 4) = 0
            count(0) = 1; count(1) = 3; grow(0, -6) = 0; fact(0, 3) = 0; count(0) = 3; count(1) = 4
            where(0, 8) = IndexOutOfBoundsException; grow(0, 6) = 6; read(0, 8) = 0; read(0, 28) = 0
            read(0, 16) = 0; read(0, 31) = 0
            """);
        SCRIPT.change("6: by nothing", 3, 3, "write(0, 8, 1) = 0", "grow(0, 0) = 1", "");
        SCRIPT.change("6: less is less at the end", 3, 3,
                "grow(0, 2) = 3; write(0, 8, 1) = 0; write(0, 12, 2) = 0; write(0, 16, 3) = 0",
                "grow(0, -1) = 2", """
            fact(0, 3) = 2; count(0) = 1; count(8) = -1; where(0, 16) = IndexOutOfBoundsException
            sharers(0, 16) = IndexOutOfBoundsException
            """);
    }

    private static void stackGrowsToJustThatMany() {
        for (String use : new String[] {"read(0, %d) = 0", "write(0, %d, 1) = 0"}) {
            for (int address = 32; address < 44; address++) {
                int pages = (44 - address + 3) / 4;
                String call = String.format(use, address);
                SCRIPT.play("terms: the stack grows from one page: " + call, 4, 4,
                        call + "; fact(0, 4) = " + pages + "; count(2) = 1; where(0, " + address + ") = 0");
                SCRIPT.play("terms: the stack grows from two pages: " + call, 4, 4,
                "write(0, 36, 1) = 0; write(0, 36, 0) = 1;" + call
                        + "; fact(0, 4) = " + Math.max(2, pages) + "; count(2) = " + (pages == 2 ? 1 : 2));
                SCRIPT.play("terms: the stack of three pages stays: " + call, 4, 4,
                "read(0, 32) = 0;" + call + "; fact(0, 4) = 3");
            }
        }
        SCRIPT.change("terms: the pages that it grows by are new", 4, 4, "write(0, 43, 1) = 0", "read(0, 35) = 0", """
            fact(0, 4) = 3; where(0, 32) = 1; where(0, 36) = -1; sharers(0, 32) = 1; sharers(0, 36) = 1
            count(0) = 2; count(2) = 2; count(7) = 1
            """);
    }

    private static void stackGrowsOutOfMemory() {
        String full = "write(0, 8, 1) = 0; write(0, 43, 2) = 0";
        String grown = "count(6) = 0; count(7) = 0; where(0, 36) = -1; sharers(0, 36) = 1;";
        String two = grown + "fact(0, 4) = 2";
        String three = grown + "fact(0, 4) = 3; where(0, 32) = -1; sharers(0, 32) = 1";
        String title = "terms: it grows also if the call then throws out of memory";
        SCRIPT.change(title, 2, 0, full, "read(0, 39) = IllegalStateException", two);
        SCRIPT.change(title, 2, 0, full, "read(0, 36) = IllegalStateException", two);
        SCRIPT.change(title, 2, 0, full, "write(0, 39, 3) = IllegalStateException", two);
        SCRIPT.change(title, 2, 0, full, "read(0, 35) = IllegalStateException", three);
        SCRIPT.change(title, 2, 0, full, "write(0, 32, 3) = IllegalStateException", three);
        SCRIPT.play("terms: what it grew by is then used as any page", 2, 0, full + """
            ; write(0, 32, 3) = IllegalStateException; grow(0, -1) = 0; write(0, 35, 4) = 0; where(0, 32) = 0
            read(0, 32) = 0
            """);
    }

    private static void leastFreeFrame() {
        SCRIPT.play("terms: the free frame with the least number, wherever the hand is", 4, 4, """
            grow(0, 3) = 4; read(0, 8) = 0; read(0, 12) = 0; read(0, 16) = 0; read(0, 20) = 0; sweep(2) = 0
            count(4) = 2
            exec(0, 0) = 4; read(0, 43) = 0; where(0, 43) = 0; read(0, 8) = 0; where(0, 8) = 1; count(4) = 2
            """);
        SCRIPT.play("terms: a free frame in the middle, then the last one", 4, 4, """
            read(0, 43) = 0; read(0, 8) = 0; read(0, 0) = 0; grow(0, -1) = 0; read(0, 39) = 0; where(0, 39) = 1
            read(0, 35) = 0; where(0, 35) = 3; count(0) = 0; count(4) = 0; count(6) = 1; count(9) = 1
            """);
    }

    private static void handWrapsAround() {
        for (int frames = 2; frames <= 10; frames++) {
            StringBuilder rows = new StringBuilder();
            for (int look = 1; look <= 2 * frames; look++) {
                rows.append("sweep(1) = 0; count(4) = " + look % frames + "\n");
            }
            SCRIPT.play("terms: behind the last frame of " + frames + " the hand moves on to 0", frames, 4, rows.toString());
        }
        SCRIPT.play("terms: it moves on to 0 also when the last frame was sent out", 2, 4, """
            read(0, 8) = 0; read(0, 43) = 0; sweep(1) = 0; sweep(1) = 0; sweep(1) = 1; read(0, 8) = 0
            where(0, 8) = 0; count(4) = 1
            read(0, 39) = 0; where(0, 39) = 1; where(0, 43) = 100; count(4) = 0; count(6) = 1; count(7) = 1
            """);
    }

    private static void twiceAsManyLooks() {
        SCRIPT.play("terms: at most twice as many looks as frames: the last of them finds one", 2, 0, """
            write(0, 8, 1) = 0; read(0, 0) = 0; count(6) = 1; count(7) = 1
            read(0, 4) = 10; where(0, 4) = 1; where(0, 0) = -1; count(4) = 0; count(6) = 0; count(7) = 1; count(5) = 1
            """);
        SCRIPT.play("terms: the same with ten frames and the hand inside", 10, 0, """
            grow(0, 5) = 6; read(0, 8) = 0; read(0, 12) = 0; read(0, 0) = 0; read(0, 16) = 0; read(0, 20) = 0
            read(0, 24) = 0
            read(0, 28) = 0; read(0, 32) = 0; read(0, 36) = 0; read(0, 40) = 0; count(0) = 0; sweep(3) = 0
            read(0, 8) = 0
            read(0, 12) = 0; read(0, 0) = 0; count(4) = 3; read(0, 4) = 10; where(0, 4) = 2; where(0, 0) = -1
            count(4) = 3
            count(6) = 0; count(7) = 0; count(8) = 1; count(9) = 0; count(15) = 0; count(5) = 1
            """);
        SCRIPT.change("terms: none was sent out: the hand is where it was", 2, 0,
                "write(0, 8, 1) = 0; write(0, 43, 2) = 0; sweep(1) = 0; count(4) = 1",
                "read(0, 4) = IllegalStateException", "count(7) = 0");
    }

    private static void canGo() {
        SCRIPT.play("terms: text can go without a free slot", 2, 0, """
            read(0, 0) = 0; read(0, 4) = 10; write(0, 8, 1) = 0; where(0, 0) = -1; where(0, 8) = 0; count(5) = 1
            write(0, 43, 1) = 0; where(0, 4) = -1; where(0, 43) = 1; count(5) = 2; read(0, 0) = IllegalStateException
            """);
        SCRIPT.play("terms: another can go as long as there is a free slot, the last one too", 2, 1, """
            write(0, 8, 1) = 0; write(0, 43, 2) = 0; write(0, 39, 3) = 0; where(0, 8) = 100; count(1) = 0
            write(0, 35, 4) = IllegalStateException; count(5) = 1; where(0, 39) = 0; where(0, 43) = 1
            """);
        SCRIPT.play("terms: text that is sent out takes no slot and is new again", 2, 1, """
            read(0, 0) = 0; sweep(4) = 1; where(0, 0) = -1; count(1) = 1; count(5) = 1; count(6) = -1
            read(0, 0) = 0; count(2) = 2
            """);
        SCRIPT.play("terms: a mark that is set saves the page only once", 2, 1, """
            read(0, 8) = 0; read(0, 0) = 0; sweep(2) = 0; read(0, 8) = 0; count(6) = 1; count(7) = 0
            read(0, 43) = 0; where(0, 43) = 1; where(0, 0) = -1; where(0, 8) = 0; count(6) = 0; count(4) = 0
            """);
    }

    private static void leastFreeSlot() {
        SCRIPT.play("terms: the free slot with the least number, a gap first", 6, 4, """
            grow(0, 2) = 3; read(0, 8) = 0; read(0, 12) = 0; read(0, 16) = 0; read(0, 43) = 0; swapOut(0) = 4
            where(0, 43) = 103
            read(0, 12) = 0; count(1) = 1; read(0, 16) = 0; count(1) = 2; grow(0, -1) = 2; swapOut(0) = 1
            where(0, 12) = 101; count(1) = 1
            """);
        SCRIPT.play("terms: the last of twenty slots", 10, 20, """
            exec(0, 2) = 16; grow(0, 2) = 6; read(0, 32) = 0; read(0, 36) = 0; read(0, 40) = 0; read(0, 8) = 0
            read(0, 12) = 0
            read(0, 16) = 0; read(0, 20) = 0; read(0, 24) = 0; read(0, 28) = 0; swapOut(0) = 9; fork(0) = 1
            exec(1, 2) = 16
            grow(1, 2) = 6; read(1, 32) = 0; read(1, 36) = 0; read(1, 40) = 0; read(1, 8) = 0; read(1, 12) = 0
            read(1, 16) = 0
            read(1, 20) = 0; read(1, 24) = 0; read(1, 28) = 0; swapOut(1) = 9; fork(0) = 2; exec(2, 2) = 16
            read(2, 8) = 0; read(2, 12) = 0; read(2, 16) = 0; swapOut(2) = 2; where(2, 8) = 118; where(2, 12) = 119
            where(2, 16) = 2; count(1) = 0
            """);
    }

    private static void frameBeforeSlot() {
        SCRIPT.change("terms: getting the frame comes before its slot is free: none is free", 2, 1,
                "write(0, 8, 1) = 0; write(0, 43, 2) = 0; write(0, 39, 3) = 0; where(0, 8) = 100",
                "read(0, 8) = IllegalStateException",
                "count(6) = 0");
        SCRIPT.change("terms: getting the frame comes before its slot is free: one more is free", 2, 2,
                "write(0, 8, 1) = 0; write(0, 43, 2) = 0; write(0, 39, 3) = 0; where(0, 8) = 100; count(7) = 0",
                "read(0, 8) = 1", """
            where(0, 8) = 1; where(0, 40) = 101; count(2) = 4; count(4) = 0; count(5) = 2; count(7) = 1
            """);
        SCRIPT.change("terms: a free frame needs no slot", 3, 1,
                "write(0, 8, 1) = 0; swapOut(0) = 1; write(0, 43, 2) = 0", "read(0, 8) = 1", """
            where(0, 8) = 1; count(0) = 1; count(1) = 1; count(2) = 3; count(7) = 1
            """);
        SCRIPT.change("terms: a page that is in is no fill, its mark is set", 3, 1,
                "write(0, 8, 1) = 0; sweep(1) = 0", "read(0, 8) = 1", "count(6) = 1");
    }

    private static void copies() {
        SCRIPT.change("terms: of two places one gets a copy", 3, 1, "write(0, 8, 5) = 0; fork(0) = 1; sweep(1) = 0",
                "write(0, 8, 6) = 5", """
            where(0, 8) = 1; sharers(0, 8) = 1; sharers(1, 8) = 1; count(0) = 1; count(3) = 1; count(6) = 1
            count(7) = 1
            """);
        SCRIPT.change("terms: a page of one place is no copy", 3, 1,
                "write(0, 8, 5) = 0; fork(0) = 1; write(0, 8, 6) = 5; sweep(3) = 0", "write(1, 8, 7) = 5",
                "count(6) = 1");
        SCRIPT.play("terms: of six places five get a copy", 6, 0, """
            write(0, 8, 5) = 0; write(0, 11, 4) = 0; fork(0) = 1; fork(0) = 2; fork(0) = 3; fork(0) = 4; fork(0) = 5
            write(3, 8, 3) = 5; sharers(0, 8) = 5; write(0, 8, 9) = 5; sharers(1, 8) = 4; write(5, 8, 55) = 5
            write(1, 8, 1) = 5
            sharers(2, 8) = 2; write(4, 8, 44) = 5; sharers(2, 8) = 1; count(3) = 5; count(0) = 0
            write(2, 8, 2) = 5; count(3) = 5; count(2) = 1
            read(0, 8) = 9; read(1, 8) = 1; read(2, 8) = 2; read(3, 8) = 3; read(4, 8) = 44; read(5, 8) = 55
            where(2, 8) = 0
            read(0, 11) = 4; read(1, 11) = 4; read(2, 11) = 4; read(3, 11) = 4; read(4, 11) = 4; read(5, 11) = 4
            """);
        SCRIPT.change("terms: a new page is filled first, then copied", 3, 1, "fork(0) = 1", "write(1, 43, 7) = 0",
                """
            where(0, 40) = 0; where(1, 40) = 1; sharers(0, 40) = 1; sharers(1, 40) = 1; count(0) = 1; count(2) = 1
            count(3) = 1
            count(6) = 1; count(7) = 1
            """);
        SCRIPT.play("terms: the slot of the page that was out serves the copy's frame", 2, 1, """
            write(0, 8, 5) = 0; swapOut(0) = 1; fork(0) = 1; read(0, 43) = 0; read(0, 0) = 0; count(1) = 0
            write(1, 8, 9) = 5
            where(1, 8) = 0; where(0, 8) = 1; where(0, 43) = 100; where(0, 0) = -1
            count(1) = 0; count(2) = 4; count(3) = 1; count(4) = 1; count(5) = 3; count(6) = 1; count(7) = 1
            """);
    }

    private static void firstOneSentOut() {
        SCRIPT.change("terms: the first one may be sent out for that, into the last free slot", 2, 1,
                "write(0, 8, 5) = 0; write(0, 43, 6) = 0; fork(0) = 1", "write(1, 8, 7) = 5", """
            where(0, 8) = 100; sharers(0, 8) = 1; sharers(1, 8) = 1
            count(1) = 0; count(3) = 1; count(4) = 1; count(5) = 1; count(7) = 0
            """);
        SCRIPT.play("terms: its words are those of before the write", 2, 1, """
            write(0, 8, 5) = 0; write(0, 9, 4) = 0; read(0, 0) = 0; fork(0) = 1; write(1, 8, 7) = 5; where(0, 8) = 100
            read(1, 9) = 4; read(0, 0) = 0; read(0, 8) = 5; read(0, 9) = 4; read(1, 8) = 7; where(0, 8) = 1
            where(0, 0) = -1
            """);
    }

    private static void outOfMemoryForTheCopy() {
        SCRIPT.change("terms: out of memory for the copy: the marks are taken, its own too", 2, 0,
                "write(0, 8, 5) = 0; write(0, 43, 6) = 0; fork(0) = 1", "write(1, 8, 7) = IllegalStateException",
                "count(6) = 0; count(7) = 0");
        SCRIPT.change("terms: the page that was touched before stays in its frame", 2, 0,
                "write(0, 43, 6) = 0; fork(0) = 1", "write(1, 8, 7) = IllegalStateException", """
            where(0, 8) = 1; where(1, 8) = 1; count(0) = 0; count(2) = 2; count(6) = 0; count(7) = 0
            """);
        SCRIPT.change("terms: and what was sent out for it stays out", 2, 0,
                "write(0, 43, 6) = 0; read(0, 0) = 0; fork(0) = 1", "write(1, 8, 7) = IllegalStateException", """
            where(0, 0) = -1; where(1, 0) = -1; where(0, 8) = 1; where(1, 8) = 1; count(2) = 3; count(5) = 1
            count(6) = 0; count(7) = 0
            """);
        SCRIPT.play("terms: no word was written", 2, 0, """
            write(0, 8, 5) = 0; write(0, 43, 6) = 0; fork(0) = 1; write(1, 8, 7) = IllegalStateException
            write(0, 8, 7) = IllegalStateException
            read(0, 8) = 5; read(1, 8) = 5; sharers(0, 8) = 2; exit(1, 0) = 0; write(0, 8, 7) = 5; count(3) = 0
            """);
    }

    private static void sweepLooks() {
        SCRIPT.change("9: n 1: at a free frame it only moves on", 3, 3, "", "sweep(1) = 0", "count(4) = 1");
        SCRIPT.change("9: n 20, all frames free", 3, 3, "", "sweep(20) = 0", "count(4) = 2");
        SCRIPT.change("9: n 20, ten frames: twice around", 10, 20, "sweep(7) = 0", "sweep(20) = 0", "");
        SCRIPT.change("9: n 1: a mark that is set is set no more", 3, 3, "read(0, 8) = 0", "sweep(1) = 0",
                "count(4) = 1; count(6) = 0");
        SCRIPT.change("9: n 1: one without mark is sent out", 3, 3, "write(0, 8, 4) = 0; sweep(3) = 0",
                "sweep(1) = 1", """
            count(0) = 3; count(1) = 2; count(4) = 1; count(5) = 1; count(6) = -1; where(0, 8) = 100
            """);
        SCRIPT.change("9: n 20 goes around two frames ten times", 2, 0,
                "write(0, 8, 4) = 0; read(0, 0) = 0; sweep(1) = 0", "sweep(20) = 1", """
            count(0) = 1; count(5) = 1; count(7) = -1; where(0, 0) = -1
            """);
    }

    private static void sweepSends() {
        String ten = """
            grow(0, 5) = 6; read(0, 8) = 0; read(0, 12) = 0; read(0, 16) = 0; read(0, 20) = 0; read(0, 24) = 0
            read(0, 28) = 0
            read(0, 32) = 0; read(0, 36) = 0; read(0, 40) = 0; read(0, 0) = 0; count(0) = 0
            """;
        SCRIPT.play("9: it goes on behind one that was sent out, to the last look", 10, 20, ten + """
            sweep(19) = 9; count(4) = 9; count(0) = 9; count(15) = 0
            sweep(1) = 1; count(4) = 0; count(0) = 10; count(1) = 11; count(5) = 10
            """);
        SCRIPT.play("9: all ten", 10, 20, ten + """
            sweep(20) = 10; count(4) = 0; count(0) = 10; where(0, 8) = 100; where(0, 40) = 108; where(0, 0) = -1
            """);
        SCRIPT.play("9: as many as there are slots, and the text", 10, 3, ten + """
            sweep(20) = 4; count(0) = 4; count(1) = 0; where(0, 16) = 102; where(0, 20) = 3; count(9) = 0
            where(0, 0) = -1; sweep(20) = 0
            """);
        SCRIPT.play("9: no slot: the text alone", 10, 0, ten + """
            sweep(10) = 0; sweep(10) = 1; count(0) = 1; count(5) = 1; sweep(20) = 0
            """);
        SCRIPT.play("9: a page of several places goes too", 3, 3, """
            write(0, 8, 4) = 0; fork(0) = 1; swapOut(0) = 0; sweep(3) = 0; sweep(1) = 1; where(0, 8) = 100
            where(1, 8) = 100; sharers(0, 8) = 2
            """);
    }

    private static void swapOutChooses() {
        SCRIPT.change("10: nothing is in a frame", 3, 3, "", "swapOut(0) = 0", "");
        SCRIPT.change("10: text alone is in a frame", 3, 3, "read(0, 0) = 0; read(0, 4) = 10", "swapOut(0) = 0", "");
        SCRIPT.change("10: all that belong to one place, by rising addresses, whatever the marks", 4, 3, """
            write(0, 36, 1) = 0; read(0, 43) = 0; read(0, 0) = 0; read(0, 8) = 0; sweep(2) = 0
            """, "swapOut(0) = 3", """
            where(0, 8) = 100; where(0, 36) = 101; where(0, 40) = 102; count(0) = 3; count(1) = 0; count(5) = 3
            count(6) = -1; count(7) = -1; count(9) = -1
            """);
        SCRIPT.change("10: one slot too few: the last address stays, its mark too", 4, 2, """
            write(0, 36, 1) = 0; read(0, 43) = 0; read(0, 0) = 0; read(0, 8) = 0
            """, "swapOut(0) = 2", """
            where(0, 8) = 100; where(0, 36) = 101; count(0) = 2; count(1) = 0; count(5) = 2; count(6) = -1
            count(9) = -1
            """);
        SCRIPT.change("10: no slot", 4, 0, "read(0, 8) = 0; read(0, 43) = 0", "swapOut(0) = 0", "");
        SCRIPT.change("10: what is out is not sent out again", 4, 4,
                "read(0, 8) = 0; read(0, 43) = 0; swapOut(0) = 2; read(0, 43) = 0", "swapOut(0) = 1", """
            where(0, 40) = 101; count(0) = 4; count(1) = 2; count(5) = 3; count(6) = -1
            """);
        SCRIPT.change("10: what belongs to two places stays", 4, 4,
                "write(0, 8, 1) = 0; write(0, 43, 2) = 0; fork(0) = 1; write(1, 8, 3) = 1", "swapOut(1) = 1", """
            where(1, 8) = 100; count(0) = 2; count(1) = 3; count(5) = 1; count(8) = -1
            """);
        SCRIPT.change("10: what belongs to one place again goes", 4, 4,
                "write(0, 8, 1) = 0; write(0, 43, 2) = 0; fork(0) = 1; exit(1, 0) = 0", "swapOut(0) = 2", """
            where(0, 8) = 100; where(0, 40) = 101; count(0) = 4; count(1) = 2; count(5) = 2; count(6) = -1
            count(7) = -1
            """);
        SCRIPT.change("10: pages of other processes stay", 4, 4,
                "write(0, 8, 1) = 0; fork(0) = 1; exec(1, 1) = 8; write(1, 8, 2) = 0", "swapOut(0) = 1", """
            where(0, 8) = 100; count(0) = 3; count(1) = 3; count(5) = 1; count(6) = -1
            """);
    }

    private static void looksChangeNothing() {
        String rows = "write(0, 8, 1) = 0; read(0, 0) = 0; fork(0) = 1; sweep(1) = 0; swapOut(0) = 0";
        for (String look : new String[] {
            "where(0, 0) = 1", "where(0, 8) = 0", "where(1, 43) = -1", "sharers(0, 8) = 2", "sharers(1, 0) = 2",
                    "sharers(1, 43) = 2",
            "fact(0, 4) = 1", "fact(1, 2) = 0", "count(6) = 0", "count(4) = 1"}) {
            SCRIPT.change("11 to 14: to look changes nothing", 2, 2, rows, look, "");
        }
        SCRIPT.play("11: -1, the last frame, the first and the last slot", 2, 2, """
            where(0, 8) = -1; read(0, 8) = 0; where(0, 8) = 0; read(0, 43) = 0; where(0, 40) = 1; swapOut(0) = 2
            where(0, 11) = 100; where(0, 43) = 101
            """);
        SCRIPT.play("12: one process, six processes", 2, 2, """
            sharers(0, 7) = 1; sharers(0, 8) = 1; fork(0) = 1; fork(0) = 2; fork(0) = 3; fork(0) = 4; fork(0) = 5
            sharers(5, 7) = 6; sharers(5, 8) = 6; sharers(5, 43) = 6; exec(5, 1) = 8; sharers(5, 7) = 1
            sharers(0, 7) = 5; sharers(0, 8) = 5
            exit(4, 0) = 0; sharers(0, 7) = 4; sharers(0, 40) = 4; grow(3, -1) = 0; sharers(0, 8) = 3
            sharers(0, 0) = 4
            """);
    }

    private static void factsOfEachState() {
        SCRIPT.play("13: -1 for 0, also when others end", 2, 2, """
            fact(0, 0) = 1; fact(0, 2) = -1; fork(0) = 1; fact(0, 2) = -1; exit(1, 0) = 0; fact(0, 2) = -1
            await(0) = 256; fact(0, 2) = -1
            """);
        SCRIPT.play("13: a free one, also one that was running and dead before", 2, 2, """
            fact(5, 0) = 0; fact(5, 1) = -1; fact(5, 2) = -1; fact(5, 3) = -1; fact(5, 4) = -1
            fork(0) = 1; exec(1, 2) = 16; exit(1, 0) = 0; await(0) = 256
            fact(1, 0) = 0; fact(1, 1) = -1; fact(1, 2) = -1; fact(1, 3) = -1; fact(1, 4) = -1
            """);
        SCRIPT.play("13: a dead one tells its parent and no more", 2, 2, """
            fork(0) = 1; fork(1) = 2; exec(2, 1) = 8; exit(2, 3) = 0
            fact(2, 0) = 2; fact(2, 1) = -1; fact(2, 2) = 1; fact(2, 3) = -1; fact(2, 4) = -1; exit(1, 0) = 1
            fact(2, 2) = 0; fact(1, 2) = 0
            """);
        SCRIPT.play("13: the least and the largest sizes", 2, 2, """
            grow(0, -1) = 0; fact(0, 3) = 0; fact(0, 4) = 1; grow(0, 6) = 6; read(0, 32) = 0; fact(0, 3) = 6
            fact(0, 4) = 3
            exec(0, 2) = 16; fact(0, 1) = 2; fact(0, 3) = 4; fact(0, 4) = 1
            """);
    }

    private static void counts() {
        for (int frames = 2; frames <= 10; frames++) {
            StringBuilder rows = new StringBuilder("grow(0, 5) = 6; read(0, 32) = 0; read(0, 36) = 0; grow(0, 0) = 6\n");
            for (int page = 2; page < frames; page++) {
                rows.append("count(" + (6 + page) + ") = -1; read(0, " + (page < 8 ? 4 * page : page == 8 ? 40 : 0) + ") = 0\n");
            }
            rows.append("count(0) = 0; count(" + (5 + frames) + ") = 1\n");
            for (int none = 6 + frames; none < 16; none++) {
                rows.append("count(" + none + ") = -1\n");
            }
            rows.append("count(16) = IllegalArgumentException; sweep(" + frames + ") = 0; count(6) = 0; count(" + (5 + frames) + ") = 0\n");
            SCRIPT.play("14: the mark of the last frame of " + frames + ", and of none", frames, 4, rows.toString());
        }
        SCRIPT.play("14: 1 set, 0 not, -1 if it is free", 2, 2, """
            count(6) = -1; read(0, 8) = 0; count(6) = 1; sweep(2) = 0; count(6) = 0; sweep(1) = 1; count(6) = -1
            count(7) = -1
            """);
        SCRIPT.play("14: no slot is free, then all are", 2, 2, """
            count(1) = 2; read(0, 8) = 0; read(0, 43) = 0; swapOut(0) = 2; count(1) = 0; count(0) = 2
            exec(0, 0) = 4; count(1) = 2
            """);
    }
}
