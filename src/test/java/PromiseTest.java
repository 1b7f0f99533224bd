/** For each promise of the document, runs of calls with the answers that are due. */
public final class PromiseTest {
    private static final Script SCRIPT = new Script();

    public static void main(String[] args) {
        newObject();
        fork();
        exec();
        execAndText();
        exit();
        await();
        grow();
        read();
        readOutOfMemory();
        write();
        writeShared();
        writeOutOfMemory();
        stackGrows();
        gettingAFrame();
        allPlaces();
        sweep();
        swapOut();
        where();
        sharers();
        fact();
        count();
        exampleOfTheReadme();
        SCRIPT.exitIfWrong();
    }

    private static void newObject() {
        SCRIPT.play("1: a new object", 5, 7, """
            count(0) = 5; count(1) = 7; count(2) = 0; count(3) = 0; count(4) = 0; count(5) = 0
            count(6) = -1; count(10) = -1; count(11) = -1; count(15) = -1
            fact(0, 0) = 1; fact(0, 1) = 0; fact(0, 2) = -1; fact(0, 3) = 1; fact(0, 4) = 1
            fact(1, 0) = 0; fact(2, 0) = 0; fact(3, 0) = 0; fact(4, 0) = 0; fact(5, 0) = 0
            where(0, 0) = -1; where(0, 4) = -1; where(0, 8) = -1; where(0, 43) = -1
            """);
        SCRIPT.play("1: least sizes", 2, 0, "count(0) = 2; count(1) = 0");
        SCRIPT.play("1: largest sizes", 10, 20, "count(0) = 10; count(1) = 20");
        SCRIPT.play("1: below the least", 1, -1, "count(0) = 2; count(1) = 0");
        SCRIPT.play("1: beyond the largest", 11, 21, "count(0) = 10; count(1) = 20");
        SCRIPT.play("1: least ints", Integer.MIN_VALUE, Integer.MIN_VALUE, "count(0) = 2; count(1) = 0");
        SCRIPT.play("1: largest ints", Integer.MAX_VALUE, Integer.MAX_VALUE, "count(0) = 10; count(1) = 20");
    }

    private static void fork() {
        SCRIPT.play("2: program, sizes, parent and pages", 10, 20, """
            exec(0, 2) = 16; grow(0, 1) = 5; write(0, 36, 3) = 0; write(0, 24, 7) = 0
            fork(0) = 1
            fact(1, 0) = 1; fact(1, 1) = 2; fact(1, 2) = 0; fact(1, 3) = 5; fact(1, 4) = 2
            where(1, 36) = 0; where(1, 24) = 1; where(1, 8) = -1
            sharers(1, 36) = 2; sharers(0, 24) = 2; sharers(1, 8) = 2; sharers(1, 0) = 2
            read(1, 36) = 3; read(1, 24) = 7; count(2) = 2; count(0) = 8
            fork(1) = 2; fact(2, 2) = 1; sharers(0, 36) = 3; sharers(0, 28) = IndexOutOfBoundsException
            """);
        SCRIPT.play("2: the least free process, dead ones are not free", 4, 4, """
            fork(0) = 1; fork(0) = 2; fork(0) = 3
            exit(1, 0) = 0; exit(2, 0) = 0; fork(0) = 4; fork(3) = 5
            fork(3) = UnsupportedOperationException
            await(0) = 256; fork(3) = 1; fact(1, 2) = 3
            await(0) = 512; fork(5) = 2; fork(5) = UnsupportedOperationException
            fact(5, 3) = 1; sharers(0, 8) = 6
            """);
        SCRIPT.play("2: wrong inputs", 4, 4, """
            fork(-1) = IllegalArgumentException; fork(6) = IllegalArgumentException
            fork(1) = NoSuchElementException; fork(0) = 1; exit(1, 0) = 0; fork(1) = NoSuchElementException
            fork(0) = 2; fork(0) = 3; fork(0) = 4; fork(0) = 5
            fork(0) = UnsupportedOperationException
            fork(1) = NoSuchElementException; fork(6) = IllegalArgumentException
            """);
    }

    private static void exec() {
        SCRIPT.play("3: sizes and words of each program", 10, 20, """
            exec(0, 1) = 8; fact(0, 1) = 1; fact(0, 3) = 2; fact(0, 4) = 1
            exec(0, 2) = 16; fact(0, 1) = 2; fact(0, 3) = 4; fact(0, 4) = 1
            exec(0, 0) = 4; fact(0, 1) = 0; fact(0, 3) = 1; fact(0, 4) = 1
            read(0, 12) = IndexOutOfBoundsException
            """);
        SCRIPT.play("3: the old pages go, the new ones are new", 3, 4, """
            grow(0, 3) = 4; write(0, 8, 1) = 0; write(0, 12, 2) = 0; write(0, 16, 3) = 0; write(0, 32, 4) = 0
            count(0) = 0; count(1) = 3; fact(0, 4) = 3
            exec(0, 0) = 4
            count(0) = 3; count(1) = 4; count(6) = -1; count(4) = 1; count(5) = 1; fact(0, 4) = 1
            where(0, 8) = -1; where(0, 43) = -1; read(0, 8) = 0; read(0, 32) = 0
            """);
        SCRIPT.play("3: shared pages stay with the others", 4, 4, """
            write(0, 8, 5) = 0; fork(0) = 1; exec(1, 0) = 4
            sharers(0, 8) = 1; sharers(1, 8) = 1; where(1, 8) = -1; read(1, 8) = 0; read(0, 8) = 5
            fact(1, 2) = 0; fact(1, 0) = 1
            """);
        SCRIPT.play("3: wrong inputs", 4, 4, """
            exec(-1, 0) = IllegalArgumentException; exec(6, 0) = IllegalArgumentException
            exec(0, -1) = IllegalArgumentException; exec(0, 3) = IllegalArgumentException
            exec(1, 3) = IllegalArgumentException; exec(1, 0) = NoSuchElementException
            fork(0) = 1; exit(1, 0) = 0; exec(1, 0) = NoSuchElementException
            fact(0, 1) = 0
            """);
    }

    private static void execAndText() {
        SCRIPT.play("3: text that nobody has leaves its frame", 4, 4, """
            read(0, 0) = 0; read(0, 7) = 13; exec(0, 1) = 8; count(0) = 4; count(5) = 0
            read(0, 0) = 100; read(0, 7) = 113; exec(0, 2) = 16; count(0) = 4
            read(0, 2) = 202; read(0, 7) = 213; exec(0, 0) = 4; where(0, 0) = -1; count(2) = 6
            """);
        SCRIPT.play("3: text that another one has stays", 4, 4, """
            read(0, 0) = 0; fork(0) = 1; exec(1, 1) = 8; where(0, 0) = 0; where(1, 0) = -1
            read(1, 1) = 101; where(1, 1) = 1
            exec(0, 1) = 8; where(0, 0) = 1; count(0) = 3; sharers(0, 0) = 2; count(7) = 1
            exit(1, 0) = 0; where(0, 0) = 1
            """);
        SCRIPT.play("3: text of the program that is started again stays", 4, 4, """
            read(0, 0) = 0; write(0, 8, 1) = 0; exec(0, 0) = 4
            where(0, 0) = 0; count(6) = 1; count(0) = 3; sharers(0, 0) = 1; read(0, 1) = 1; count(2) = 2
            """);
    }

    private static void exit() {
        SCRIPT.play("4: dead, its pages are nobody's", 4, 4, """
            fork(0) = 1; exec(1, 1) = 8; read(1, 0) = 100; write(1, 8, 3) = 0; write(1, 43, 4) = 0; swapOut(1) = 2
            read(1, 8) = 3; count(0) = 2; count(1) = 3
            exit(1, 7) = 0
            fact(1, 0) = 2; fact(1, 1) = -1; fact(1, 2) = 0; fact(1, 3) = -1; fact(1, 4) = -1
            count(0) = 4; count(1) = 4; sharers(0, 8) = 1; sharers(0, 0) = 1
            await(0) = 263
            """);
        SCRIPT.play("4: shared pages and text stay with the others", 4, 4, """
            write(0, 8, 5) = 0; read(0, 0) = 0; fork(0) = 1; sharers(0, 8) = 2
            exit(1, 255) = 0; sharers(0, 8) = 1; where(0, 8) = 0; where(0, 0) = 1; count(0) = 2
            write(0, 8, 6) = 5; count(3) = 0; await(0) = 511
            """);
        SCRIPT.play("4: its children go to 0, dead ones too", 4, 4, """
            fork(0) = 1; fork(1) = 2; fork(1) = 3; fork(2) = 4
            exit(3, 9) = 0; fact(3, 2) = 1
            exit(1, 0) = 2; fact(2, 2) = 0; fact(3, 2) = 0; fact(4, 2) = 2; fact(1, 2) = 0
            await(0) = 256; await(0) = 777; await(0) = IllegalStateException
            """);
        SCRIPT.play("4: a dead process keeps its parent until that one ends", 4, 4, """
            fork(0) = 1; fork(1) = 2; exit(2, 1) = 0; fact(2, 2) = 1; await(1) = 513; exit(1, 0) = 0
            """);
        SCRIPT.play("4: wrong inputs", 4, 4, """
            exit(0, 0) = IllegalArgumentException; exit(6, 0) = IllegalArgumentException
            exit(-1, 0) = IllegalArgumentException
            fork(0) = 1; exit(1, -1) = IllegalArgumentException; exit(1, 256) = IllegalArgumentException
            exit(2, 256) = IllegalArgumentException; exit(2, 0) = NoSuchElementException
            fact(1, 0) = 1; exit(1, 0) = 0; exit(1, 0) = NoSuchElementException
            """);
    }

    private static void await() {
        SCRIPT.play("5: the least dead child is free", 4, 4, """
            fork(0) = 1; fork(0) = 2; fork(0) = 3
            exit(3, 255) = 0; exit(2, 0) = 0
            await(0) = 512; fact(2, 0) = 0; fact(2, 2) = -1; fact(3, 0) = 2
            await(0) = 1023; await(0) = IllegalStateException; fact(1, 0) = 1
            """);
        SCRIPT.play("5: only children of this one", 4, 4, """
            await(0) = UnsupportedOperationException
            fork(0) = 1; fork(1) = 2; await(0) = IllegalStateException; await(2) = UnsupportedOperationException
            exit(2, 4) = 0; await(0) = IllegalStateException
            await(1) = 516; await(1) = UnsupportedOperationException
            exit(1, 1) = 0; await(0) = 257; await(0) = UnsupportedOperationException
            """);
        SCRIPT.play("5: wrong inputs", 4, 4, """
            await(-1) = IllegalArgumentException; await(6) = IllegalArgumentException
            await(1) = NoSuchElementException; fork(0) = 1; fork(1) = 2; exit(2, 0) = 0; exit(1, 0) = 1
            await(1) = NoSuchElementException
            """);
    }

    private static void grow() {
        SCRIPT.play("6: more and less", 10, 20, """
            grow(0, 0) = 1; grow(0, 2) = 3; fact(0, 3) = 3; where(0, 19) = -1; where(0, 20) = IndexOutOfBoundsException
            write(0, 16, 5) = 0; write(0, 12, 6) = 0; write(0, 8, 7) = 0; count(0) = 7
            grow(0, -1) = 2; count(0) = 8; count(6) = -1; where(0, 16) = IndexOutOfBoundsException
            grow(0, 1) = 3; where(0, 16) = -1; read(0, 16) = 0; read(0, 12) = 6; read(0, 8) = 7
            grow(0, -3) = 0; read(0, 8) = IndexOutOfBoundsException; count(0) = 10
            grow(0, 6) = 6; grow(0, -6) = 0; fact(0, 4) = 1
            """);
        SCRIPT.play("6: slots are free again, shared pages stay with the others", 4, 4, """
            write(0, 8, 5) = 0; swapOut(0) = 1; fork(0) = 1; count(1) = 3
            grow(1, -1) = 0; count(1) = 3; sharers(0, 8) = 1; grow(1, 1) = 1; where(1, 8) = -1
            grow(0, -1) = 0; count(1) = 4
            """);
        SCRIPT.play("6: wrong inputs", 4, 4, """
            grow(-1, 0) = IllegalArgumentException; grow(6, 0) = IllegalArgumentException
            grow(0, -7) = IllegalArgumentException; grow(0, 7) = IllegalArgumentException
            grow(1, 7) = IllegalArgumentException; grow(1, 6) = NoSuchElementException
            grow(0, 6) = UnsupportedOperationException; grow(0, -2) = UnsupportedOperationException
            fact(0, 3) = 1; grow(0, 5) = 6; grow(0, 1) = UnsupportedOperationException
            grow(0, 2147483647) = IllegalArgumentException; grow(0, -2147483648) = IllegalArgumentException
            fork(0) = 1; exit(1, 0) = 0; grow(1, 0) = NoSuchElementException
            """);
    }

    private static void read() {
        SCRIPT.play("7: text of each program", 10, 20, """
            read(0, 0) = 0; read(0, 3) = 3; read(0, 4) = 10; read(0, 7) = 13; count(2) = 2; count(0) = 8
            exec(0, 1) = 8; read(0, 0) = 100; read(0, 3) = 103; read(0, 4) = 110; read(0, 7) = 113
            exec(0, 2) = 16; read(0, 0) = 200; read(0, 3) = 203; read(0, 4) = 210; read(0, 7) = 213
            """);
        SCRIPT.play("7: text is shared and filled again after it was sent out", 2, 0, """
            read(0, 1) = 1; fork(0) = 1; read(1, 2) = 2; count(2) = 1; count(0) = 1
            sweep(2) = 0; sweep(2) = 1; where(1, 0) = -1; count(1) = 0
            read(1, 3) = 3; count(2) = 2; where(0, 0) = 0
            """);
        SCRIPT.play("7: filling new pages and pages that are out", 3, 4, """
            read(0, 11) = 0; count(2) = 1; where(0, 8) = 0; count(6) = 1
            write(0, 10, 9) = 0; count(2) = 1; swapOut(0) = 1; where(0, 8) = 100; count(0) = 3
            read(0, 0) = 0; read(0, 10) = 9; where(0, 8) = 1; count(1) = 4; count(2) = 3
            """);
        SCRIPT.play("7: touching sets the mark again", 2, 4, """
            read(0, 8) = 0; count(6) = 1; sweep(2) = 0; count(6) = 0; read(0, 9) = 0; count(6) = 1; count(2) = 1
            """);
        SCRIPT.play("7: the frame is got before the slot is free", 2, 3, """
            write(0, 8, 1) = 0; write(0, 43, 2) = 0; swapOut(0) = 2; where(0, 8) = 100; where(0, 43) = 101
            write(0, 39, 3) = 0; write(0, 35, 4) = 0
            read(0, 8) = 1; where(0, 39) = 102; count(1) = 1; where(0, 8) = 0
            read(0, 43) = 2; where(0, 35) = 100; count(1) = 1
            """);
        SCRIPT.play("7: wrong inputs", 4, 4, """
            read(-1, 0) = IllegalArgumentException; read(6, 0) = IllegalArgumentException
            read(0, -1) = IllegalArgumentException; read(0, 44) = IllegalArgumentException
            read(1, 44) = IllegalArgumentException; read(1, 12) = NoSuchElementException
            read(0, 12) = IndexOutOfBoundsException; read(0, 31) = IndexOutOfBoundsException
            count(0) = 4; count(2) = 0
            fork(0) = 1; exit(1, 0) = 0; read(1, 0) = NoSuchElementException
            """);
    }

    private static void readOutOfMemory() {
        SCRIPT.play("7: out of memory takes the marks and no more", 2, 0, """
            write(0, 8, 1) = 0; write(0, 43, 2) = 0; count(6) = 1; count(7) = 1
            read(0, 0) = IllegalStateException
            count(6) = 0; count(7) = 0; count(4) = 0; count(2) = 2; count(5) = 0; where(0, 0) = -1
            read(0, 8) = 1; count(6) = 1; read(0, 43) = 2
            """);
        SCRIPT.play("7: a page that is out finds no frame, though its own slot would do", 2, 1, """
            write(0, 8, 1) = 0; write(0, 43, 2) = 0; write(0, 39, 3) = 0; where(0, 8) = 100; count(4) = 1
            read(0, 8) = IllegalStateException
            where(0, 8) = 100; where(0, 39) = 0; where(0, 43) = 1; count(4) = 1; count(6) = 0; count(7) = 0
            """);
    }

    private static void write() {
        SCRIPT.play("8: answers the word before", 4, 4, """
            write(0, 8, 5) = 0; write(0, 8, -6) = 5; write(0, 9, 2147483647) = 0; write(0, 11, -2147483648) = 0
            read(0, 8) = -6; read(0, 9) = 2147483647; read(0, 10) = 0; read(0, 11) = -2147483648
            count(2) = 1; count(3) = 0; count(6) = 1
            write(0, 43, 1) = 0; write(0, 40, 2) = 0; read(0, 43) = 1; read(0, 40) = 2
            """);
        SCRIPT.play("8: a page keeps its words through the swap space", 2, 4, """
            write(0, 8, 1) = 0; write(0, 9, 2) = 0; write(0, 10, 3) = 0; write(0, 11, 4) = 0
            swapOut(0) = 1; write(0, 9, 5) = 2; where(0, 8) = 0; count(1) = 4
            read(0, 8) = 1; read(0, 9) = 5; read(0, 10) = 3; read(0, 11) = 4; count(2) = 2
            """);
        SCRIPT.play("8: wrong inputs", 4, 4, """
            write(-1, 8, 0) = IllegalArgumentException; write(6, 8, 0) = IllegalArgumentException
            write(0, -1, 0) = IllegalArgumentException; write(0, 44, 0) = IllegalArgumentException
            write(1, 44, 0) = IllegalArgumentException
            write(1, 0, 0) = NoSuchElementException; write(1, 12, 0) = NoSuchElementException
            write(0, 12, 0) = IndexOutOfBoundsException; write(0, 31, 0) = IndexOutOfBoundsException
            write(0, 0, 0) = UnsupportedOperationException; write(0, 7, 0) = UnsupportedOperationException
            count(0) = 4; count(2) = 0; where(0, 0) = -1; read(0, 7) = 13
            fork(0) = 1; exit(1, 0) = 0; write(1, 8, 0) = NoSuchElementException
            """);
    }

    private static void writeShared() {
        SCRIPT.play("8: a shared page is copied, the last owner writes on it", 4, 4, """
            write(0, 8, 5) = 0; write(0, 9, 6) = 0; fork(0) = 1; fork(0) = 2; sweep(1) = 0
            write(1, 8, 7) = 5; where(1, 8) = 1; count(7) = 1; count(6) = 1; count(3) = 1; count(2) = 1
            sharers(0, 8) = 2; sharers(1, 8) = 1; read(1, 9) = 6; read(0, 8) = 5; read(2, 8) = 5
            write(0, 8, 8) = 5; where(0, 8) = 2; count(3) = 2; sharers(2, 8) = 1
            write(2, 8, 9) = 5; where(2, 8) = 0; count(3) = 2
            read(0, 8) = 8; read(1, 8) = 7; read(2, 8) = 9
            """);
        SCRIPT.play("8: a shared page that is new is filled and copied", 4, 4, """
            fork(0) = 1; write(1, 8, 7) = 0; where(0, 8) = 0; where(1, 8) = 1; count(2) = 1; count(3) = 1
            write(0, 43, 7) = 0; where(1, 43) = 2; where(0, 43) = 3; count(2) = 2; count(3) = 2
            read(1, 43) = 0; read(0, 43) = 7
            """);
        SCRIPT.play("8: a shared page that is out is filled and copied", 4, 4, """
            write(0, 8, 5) = 0; swapOut(0) = 1; fork(0) = 1; write(0, 9, 7) = 0
            where(1, 8) = 0; where(0, 8) = 1; count(1) = 4; count(2) = 2; count(3) = 1; read(0, 8) = 5
            """);
        SCRIPT.play("8: the first page may be sent out for its copy", 2, 2, """
            write(0, 8, 5) = 0; read(0, 0) = 0; fork(0) = 1
            write(1, 8, 7) = 5; where(1, 8) = 0; where(0, 8) = 100; where(0, 0) = 1
            count(4) = 1; count(5) = 1; count(6) = 1; count(7) = 0; read(0, 8) = 5; read(1, 8) = 7
            """);
    }

    private static void writeOutOfMemory() {
        SCRIPT.play("8: no frame for the page", 2, 0, """
            write(0, 8, 1) = 0; write(0, 43, 2) = 0; write(0, 39, 3) = IllegalStateException
            count(6) = 0; count(7) = 0; count(2) = 2; where(0, 39) = -1
            grow(0, -1) = 0; read(0, 39) = 0
            """);
        SCRIPT.play("8: no frame for the copy, the page that was touched stays", 2, 0, """
            write(0, 43, 1) = 0; fork(0) = 1
            write(1, 8, 9) = IllegalStateException
            where(1, 8) = 1; where(0, 8) = 1; sharers(1, 8) = 2; count(2) = 2; count(3) = 0
            count(6) = 0; count(7) = 0; count(4) = 0; count(5) = 0; read(0, 8) = 0; read(1, 8) = 0
            """);
        SCRIPT.play("8: the page that was touched drove out text", 2, 0, """
            write(0, 43, 1) = 0; read(0, 0) = 0; fork(0) = 1; count(4) = 0
            write(1, 8, 9) = IllegalStateException
            where(0, 0) = -1; where(0, 8) = 1; count(5) = 1; count(4) = 0; count(2) = 3; count(6) = 0; count(7) = 0
            """);
    }

    private static void stackGrows() {
        SCRIPT.play("terms: the stack grows to just what is used", 10, 20, """
            where(0, 39) = IndexOutOfBoundsException; sharers(0, 39) = IndexOutOfBoundsException
            read(0, 40) = 0; fact(0, 4) = 1; read(0, 39) = 0; fact(0, 4) = 2; where(0, 36) = 1
            where(0, 35) = IndexOutOfBoundsException; write(0, 35, 4) = 0; fact(0, 4) = 3; read(0, 35) = 4
            read(0, 43) = 0; fact(0, 4) = 3
            """);
        SCRIPT.play("terms: two pages at once, only the used one is filled", 10, 20, """
            write(0, 43, 1) = 0; write(0, 32, 2) = 0; fact(0, 4) = 3
            where(0, 36) = -1; where(0, 32) = 1; where(0, 43) = 0; count(2) = 2
            read(0, 32) = 2; read(0, 36) = 0; read(0, 43) = 1
            """);
        SCRIPT.play("terms: each process has a stack of its own to grow", 10, 20, """
            fork(0) = 1; write(1, 36, 5) = 0; fact(0, 4) = 1; fact(1, 4) = 2; sharers(1, 36) = 1; sharers(1, 40) = 2
            read(0, 36) = 0; fact(0, 4) = 2; read(1, 36) = 5
            """);
        SCRIPT.play("terms: it has grown also if memory is out", 2, 0, """
            write(0, 8, 1) = 0; write(0, 43, 2) = 0
            read(0, 32) = IllegalStateException; fact(0, 4) = 3; where(0, 32) = -1; where(0, 36) = -1
            """);
        SCRIPT.play("terms: it has grown also if memory is out for a write", 2, 0, """
            write(0, 8, 1) = 0; write(0, 43, 2) = 0; write(0, 36, 1) = IllegalStateException; fact(0, 4) = 2
            """);
        SCRIPT.play("terms: no growth when the call throws something else", 2, 0, """
            read(1, 32) = NoSuchElementException; read(0, 44) = IllegalArgumentException
            write(0, 28, 1) = IndexOutOfBoundsException; write(0, 0, 1) = UnsupportedOperationException; fact(0, 4) = 1
            """);
    }

    private static void gettingAFrame() {
        SCRIPT.play("terms: the least free frame, without the hand", 3, 4, """
            grow(0, 3) = 4; read(0, 8) = 0; read(0, 12) = 0; read(0, 16) = 0
            grow(0, -2) = 2; where(0, 8) = 0; where(0, 12) = 1; swapOut(0) = 2; count(0) = 3
            read(0, 12) = 0; where(0, 12) = 0; read(0, 43) = 0; where(0, 43) = 1
            count(4) = 0; count(6) = 1; count(7) = 1
            """);
        SCRIPT.play("terms: the hand takes marks, then sends out, then stands behind", 3, 4, """
            grow(0, 5) = 6; read(0, 8) = 0; read(0, 12) = 0; read(0, 16) = 0
            read(0, 20) = 0; where(0, 20) = 0; where(0, 8) = 100; count(4) = 1
            count(6) = 1; count(7) = 0; count(8) = 0; count(5) = 1
            read(0, 12) = 0; read(0, 24) = 0; where(0, 24) = 2; where(0, 16) = 101; count(4) = 0
            count(6) = 1; count(7) = 0; count(8) = 1
            read(0, 28) = 0; where(0, 28) = 1; where(0, 12) = 102; count(6) = 0; count(4) = 2
            """);
        SCRIPT.play("terms: the hand passes pages that cannot go and sends text", 3, 0, """
            write(0, 8, 1) = 0; read(0, 4) = 10; write(0, 43, 2) = 0
            read(0, 0) = 0; where(0, 0) = 1; where(0, 4) = -1; count(4) = 2; count(5) = 1
            count(6) = 0; count(7) = 1; count(8) = 0
            read(0, 4) = 10; where(0, 4) = 1; count(4) = 2; count(5) = 2
            """);
        SCRIPT.play("terms: the free slot with the least number", 2, 3, """
            grow(0, 4) = 5; read(0, 8) = 0; read(0, 12) = 0; read(0, 16) = 0; read(0, 20) = 0; read(0, 24) = 0
            where(0, 8) = 100; where(0, 12) = 101; where(0, 16) = 102; count(1) = 0
            exec(0, 0) = 4; count(1) = 3
            """);
    }

    private static void allPlaces() {
        StringBuilder rows = new StringBuilder("fork(0) = 1; fork(0) = 2; fork(0) = 3; fork(0) = 4; fork(0) = 5\n");
        for (int process = 0; process < 6; process++) {
            String p = "(" + process + ", ";
            rows.append("exec" + p + "2) = 16; grow" + p + "2) = 6; read" + p + "32) = 0\n");
        }
        for (int process = 0; process < 6; process++) {
            for (int address = 8; address < 44; address += 4) {
                rows.append("sharers(" + process + ", " + address + ") = 1\n");
            }
            rows.append("write(" + process + ", 32, " + process + ") = 0; write(" + process + ", 8, 9) = 0\n");
        }
        for (int process = 0; process < 6; process++) {
            String p = "(" + process + ", ";
            rows.append("read" + p + "32) = " + process + "; read" + p + "8) = 9; read" + p + "36) = 0\n");
        }
        rows.append("fork(0) = UnsupportedOperationException; count(2) = 28; count(1) = 12; count(4) = 6");
        SCRIPT.play("terms: every place of every process has a page of its own", 10, 20, rows.toString());
    }

    private static void sweep() {
        SCRIPT.play("9: free frames are only passed", 3, 4, """
            sweep(1) = 0; count(4) = 1; sweep(20) = 0; count(4) = 0; count(5) = 0; count(0) = 3
            """);
        SCRIPT.play("9: takes marks, then sends out and goes on", 3, 4, """
            grow(0, 1) = 2; write(0, 8, 5) = 0; read(0, 0) = 0; read(0, 12) = 0
            sweep(2) = 0; count(6) = 0; count(7) = 0; count(8) = 1; count(4) = 2
            sweep(3) = 2; where(0, 8) = 100; where(0, 0) = -1; count(8) = 0; count(4) = 2; count(5) = 2; count(0) = 2
            sweep(1) = 1; where(0, 12) = 101; count(4) = 0; count(1) = 2; read(0, 8) = 5
            """);
        SCRIPT.play("9: all of them in one call", 2, 4, """
            read(0, 8) = 0; read(0, 43) = 0; sweep(20) = 2; count(0) = 2; count(4) = 0; count(5) = 2; count(6) = -1
            """);
        SCRIPT.play("9: what cannot go stays", 2, 1, """
            read(0, 8) = 0; read(0, 43) = 0; sweep(20) = 1; where(0, 8) = 100; where(0, 43) = 1; count(7) = 0; count(5) = 1
            """);
        SCRIPT.play("9: wrong inputs", 2, 1, """
            sweep(0) = IllegalArgumentException; sweep(-1) = IllegalArgumentException
            sweep(21) = IllegalArgumentException; count(4) = 0
            """);
    }

    private static void swapOut() {
        SCRIPT.play("10: by rising addresses, no text, whatever the marks", 10, 20, """
            grow(0, 1) = 2; read(0, 0) = 0; read(0, 43) = 0; read(0, 39) = 0; read(0, 35) = 0; read(0, 12) = 0; read(0, 8) = 0
            swapOut(0) = 5; where(0, 8) = 100; where(0, 12) = 101; where(0, 35) = 102; where(0, 39) = 103; where(0, 43) = 104
            where(0, 0) = 0; count(5) = 5; count(0) = 9; count(1) = 15; count(4) = 0; count(6) = 1; count(7) = -1
            swapOut(0) = 0; count(5) = 5
            """);
        SCRIPT.play("10: no new pages, no shared ones", 10, 20, """
            swapOut(0) = 0; write(0, 8, 1) = 0; fork(0) = 1; write(1, 43, 2) = 0; swapOut(0) = 1
            where(0, 43) = 100; where(0, 8) = 0; swapOut(1) = 1; where(1, 43) = 101
            exit(1, 0) = 0; swapOut(0) = 1; where(0, 8) = 101
            """);
        SCRIPT.play("10: as many as there are slots", 4, 1, """
            write(0, 8, 1) = 0; write(0, 43, 2) = 0; swapOut(0) = 1; where(0, 8) = 100; where(0, 43) = 1
            count(7) = 1; swapOut(0) = 0
            """);
        SCRIPT.play("10: no slots at all", 4, 0, "write(0, 8, 1) = 0; read(0, 0) = 0; swapOut(0) = 0; where(0, 0) = 1");
        SCRIPT.play("10: wrong inputs", 4, 4, """
            swapOut(-1) = IllegalArgumentException; swapOut(6) = IllegalArgumentException
            swapOut(1) = NoSuchElementException; fork(0) = 1; exit(1, 0) = 0; swapOut(1) = NoSuchElementException
            """);
    }

    private static void where() {
        SCRIPT.play("11: new, in a frame, out in a slot", 10, 20, """
            where(0, 8) = -1; read(0, 0) = 0; write(0, 8, 1) = 0; where(0, 11) = 1; where(0, 3) = 0; where(0, 4) = -1
            count(2) = 2; sweep(1) = 0; where(0, 0) = 0; count(6) = 0
            swapOut(0) = 1; where(0, 9) = 100; count(5) = 1
            """);
        SCRIPT.play("11: the last frame and the last slot", 10, 20, """
            exec(0, 2) = 16; grow(0, 2) = 6; fork(0) = 1; exec(1, 2) = 16; grow(1, 2) = 6; fork(0) = 2; exec(2, 2) = 16
            read(0, 32) = 0; read(0, 36) = 0; read(0, 40) = 0; read(0, 8) = 0; read(0, 12) = 0; read(0, 16) = 0
            read(0, 20) = 0; read(0, 24) = 0; read(0, 28) = 0; swapOut(0) = 9
            read(1, 32) = 0; read(1, 36) = 0; read(1, 40) = 0; read(1, 8) = 0; read(1, 12) = 0; read(1, 16) = 0
            read(1, 20) = 0; read(1, 24) = 0; read(1, 28) = 0; read(2, 8) = 0
            where(2, 8) = 9; count(0) = 0; count(15) = 1
            swapOut(1) = 9; swapOut(2) = 1; read(2, 12) = 0; swapOut(2) = 1
            where(1, 8) = 109; where(1, 43) = 117; where(2, 8) = 118; where(2, 12) = 119; count(1) = 0
            """);
        SCRIPT.play("11: wrong inputs", 4, 4, """
            where(-1, 0) = IllegalArgumentException; where(6, 0) = IllegalArgumentException
            where(0, -1) = IllegalArgumentException; where(0, 44) = IllegalArgumentException
            where(1, 44) = IllegalArgumentException; where(1, 12) = NoSuchElementException
            where(0, 12) = IndexOutOfBoundsException; where(0, 31) = IndexOutOfBoundsException
            where(0, 32) = IndexOutOfBoundsException; where(0, 39) = IndexOutOfBoundsException; where(0, 40) = -1
            fact(0, 4) = 1; fork(0) = 1; exit(1, 0) = 0; where(1, 0) = NoSuchElementException
            """);
    }

    private static void sharers() {
        SCRIPT.play("12: places of a page, processes of a text", 10, 20, """
            sharers(0, 0) = 1; sharers(0, 8) = 1; sharers(0, 43) = 1
            fork(0) = 1; fork(1) = 2; sharers(0, 8) = 3; sharers(2, 43) = 3; sharers(1, 7) = 3
            write(2, 8, 1) = 0; sharers(2, 8) = 1; sharers(1, 8) = 2; sharers(2, 43) = 3; sharers(2, 0) = 3
            exec(1, 1) = 8; sharers(0, 8) = 1; sharers(0, 0) = 2; sharers(1, 4) = 1; sharers(0, 40) = 2
            exit(2, 0) = 0; sharers(0, 40) = 1; sharers(0, 0) = 1
            """);
        SCRIPT.play("12: wrong inputs", 4, 4, """
            sharers(-1, 0) = IllegalArgumentException; sharers(6, 0) = IllegalArgumentException
            sharers(0, -1) = IllegalArgumentException; sharers(0, 44) = IllegalArgumentException
            sharers(1, 44) = IllegalArgumentException; sharers(1, 12) = NoSuchElementException
            sharers(0, 12) = IndexOutOfBoundsException; sharers(0, 39) = IndexOutOfBoundsException
            fact(0, 4) = 1; fork(0) = 1; exit(1, 0) = 0; sharers(1, 0) = NoSuchElementException
            """);
    }

    private static void fact() {
        SCRIPT.play("13: free, running, dead", 4, 4, """
            fact(5, 0) = 0; fact(5, 1) = -1; fact(5, 2) = -1; fact(5, 3) = -1; fact(5, 4) = -1
            fork(0) = 1; fork(1) = 2; exec(2, 2) = 16; read(2, 32) = 0; fact(2, 4) = 3
            fact(2, 0) = 1; fact(2, 1) = 2; fact(2, 2) = 1; fact(2, 3) = 4
            exit(2, 3) = 0; fact(2, 0) = 2; fact(2, 1) = -1; fact(2, 2) = 1; fact(2, 3) = -1; fact(2, 4) = -1
            await(1) = 515; fact(2, 0) = 0; fact(2, 2) = -1; fact(0, 2) = -1
            """);
        SCRIPT.play("13: wrong inputs", 4, 4, """
            fact(-1, 0) = IllegalArgumentException; fact(6, 0) = IllegalArgumentException
            fact(0, -1) = IllegalArgumentException; fact(0, 5) = IllegalArgumentException
            """);
    }

    private static void count() {
        SCRIPT.play("14: every count", 3, 2, """
            read(0, 0) = 0; write(0, 8, 1) = 0; fork(0) = 1; sweep(1) = 0; write(1, 8, 2) = 1
            count(0) = 0; count(1) = 2; count(2) = 2; count(3) = 1; count(4) = 1; count(5) = 0
            count(6) = 0; count(7) = 1; count(8) = 1; count(9) = -1; count(15) = -1
            swapOut(1) = 1; count(0) = 1; count(1) = 1; count(5) = 1; count(8) = -1
            read(1, 8) = 2; count(2) = 3; count(1) = 2; count(8) = 1
            """);
        SCRIPT.play("14: a frame that was marked and left is free, then marked anew", 2, 2, """
            read(0, 8) = 0; count(6) = 1; grow(0, -1) = 0; count(6) = -1; read(0, 43) = 0; count(6) = 1
            """);
        SCRIPT.play("14: wrong inputs", 2, 2, "count(-1) = IllegalArgumentException; count(16) = IllegalArgumentException");
    }

    private static void exampleOfTheReadme() {
        SCRIPT.play("README.md: the example", 3, 4, """
            write(0, 8, 5) = 0; fork(0) = 1; sharers(0, 8) = 2; write(1, 8, 6) = 5
            read(0, 8) = 5; read(1, 8) = 6; where(0, 8) = 0; where(1, 8) = 1
            swapOut(0) = 1; where(0, 8) = 100; exit(1, 9) = 0; await(0) = 265
            """);
    }
}
