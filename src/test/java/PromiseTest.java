/** One group of runs for each promise: ordinary inputs, the edges of the document, and wrong inputs. */
public final class PromiseTest {
    private static final int MIN = Integer.MIN_VALUE;
    private static final int MAX = Integer.MAX_VALUE;
    private static final int[] NOT_PROCESSES = {-1, 4, 5, 8, 32, MIN, MAX};
    private static final int[] NOT_PLACES = {-1, 8, 9, 31, 32, MIN, MAX};
    private static final int[] NOT_COUNTS = {0, 9, -1, -8, MIN, MAX};

    private static int wrong = 0;

    private static void due(String call, int got, int want) {
        if (got != want) {
            wrong++;
            System.out.println(call + " answered " + got + ", due is " + want);
        }
    }

    private static void due(String call, boolean got, boolean want) {
        if (got != want) {
            wrong++;
            System.out.println(call + " answered " + got + ", due is " + want);
        }
    }

    /** Process 0 has places 1, 2, 3 with contents 10, 20, 30; process 1 has nothing; the place 2 is swapped out. */
    private static PageSharer sample() {
        PageSharer x = new PageSharer();
        x.spawn();
        x.spawn();
        x.map(0, 1, 3);
        x.write(0, 1, 10);
        x.write(0, 2, 20);
        x.write(0, 3, 30);
        x.swapOut(0, 2);
        return x;
    }

    private static void sampleUnchanged(String after, PageSharer x) {
        due(after + ": processes()", x.processes(), 3);
        due(after + ": mapped(0)", x.mapped(0), 14);
        due(after + ": mapped(1)", x.mapped(1), 0);
        due(after + ": resident(0)", x.resident(0), 10);
        due(after + ": pages()", x.pages(), 3);
        due(after + ": residentPages()", x.residentPages(), 2);
        for (int v = 1; v <= 3; v++) {
            due(after + ": mappers(0, " + v + ")", x.mappers(0, v), 1 << v);
            due(after + ": read(0, " + v + ")", x.read(0, v), 10 * v);
        }
    }

    private static void promise1NewObject() {
        PageSharer x = new PageSharer();
        due("1: processes()", x.processes(), 0);
        due("1: pages()", x.pages(), 0);
        due("1: residentPages()", x.residentPages(), 0);
        for (int p = 0; p < 4; p++) {
            due("1: mapped(" + p + ")", x.mapped(p), 0);
            due("1: resident(" + p + ")", x.resident(p), 0);
            due("1: exit(" + p + ")", x.exit(p), false);
        }
        PageSharer used = sample();
        due("1: another object's processes()", new PageSharer().processes(), 0);
        sampleUnchanged("1", used);
    }

    private static void promise2Spawn() {
        PageSharer x = new PageSharer();
        for (int p = 0; p < 4; p++) {
            due("2: spawn()", x.spawn(), p);
            due("2: mapped(" + p + ")", x.mapped(p), 0);
        }
        due("2: spawn() of a fifth", x.spawn(), PageSharer.FULL);
        due("2: processes()", x.processes(), 15);
        x.map(1, 0, 8);
        x.exit(3);
        x.exit(1);
        due("2: spawn() takes the least", x.spawn(), 1);
        due("2: mapped(1) anew", x.mapped(1), 0);
        due("2: pages()", x.pages(), 0);
        due("2: spawn() takes the next", x.spawn(), 3);
        due("2: spawn() when full again", x.spawn(), PageSharer.FULL);
    }

    private static void promise3Fork() {
        PageSharer x = sample();
        due("3: fork(0)", x.fork(0), 2);
        due("3: processes()", x.processes(), 7);
        due("3: mapped(2)", x.mapped(2), 14);
        due("3: resident(2)", x.resident(2), 10);
        due("3: pages()", x.pages(), 3);
        due("3: mappers(0, 1)", x.mappers(0, 1), 1 << 1 | 1 << 17);
        due("3: mappers(2, 3)", x.mappers(2, 3), 1 << 3 | 1 << 19);
        due("3: read(2, 1)", x.read(2, 1), 10);
        due("3: fork(1) of an empty one", x.fork(1), 3);
        due("3: mapped(3)", x.mapped(3), 0);
        due("3: fork(0) when full", x.fork(0), PageSharer.FULL);
        due("3: pages() when full", x.pages(), 3);
        due("3: mappers(0, 1) when full", x.mappers(0, 1), 1 << 1 | 1 << 17);
        for (int p : NOT_PROCESSES) {
            due("3: fork(" + p + ") when full", x.fork(p), PageSharer.NONE);
        }
        x.exit(1);
        due("3: fork(1) when it has ended", x.fork(1), PageSharer.NONE);
        due("3: fork(2) takes the least", x.fork(2), 1);
        due("3: mappers(1, 2)", x.mappers(1, 2), 1 << 2 | 1 << 10 | 1 << 18);
        for (int p : NOT_PROCESSES) {
            PageSharer y = sample();
            due("3: fork(" + p + ")", y.fork(p), PageSharer.NONE);
            sampleUnchanged("3: fork(" + p + ")", y);
        }
    }

    private static void promise4Exit() {
        PageSharer x = sample();
        x.fork(0);
        x.write(2, 3, 31);
        due("4: pages() before", x.pages(), 4);
        due("4: exit(0)", x.exit(0), true);
        due("4: processes()", x.processes(), 6);
        due("4: mapped(0)", x.mapped(0), 0);
        due("4: pages()", x.pages(), 3);
        due("4: mappers(2, 1)", x.mappers(2, 1), 1 << 17);
        due("4: read(2, 1)", x.read(2, 1), 10);
        due("4: exit(0) again", x.exit(0), false);
        due("4: exit(3)", x.exit(3), false);
        due("4: exit(2)", x.exit(2), true);
        due("4: pages() at the end", x.pages(), 0);
        due("4: residentPages() at the end", x.residentPages(), 0);
        for (int p : NOT_PROCESSES) {
            PageSharer y = sample();
            due("4: exit(" + p + ")", y.exit(p), false);
            sampleUnchanged("4: exit(" + p + ")", y);
        }
    }

    private static void promise5Processes() {
        PageSharer x = new PageSharer();
        for (int p = 0; p < 4; p++) {
            x.spawn();
            due("5: processes()", x.processes(), (2 << p) - 1);
        }
        x.exit(1);
        due("5: processes() without 1", x.processes(), 13);
        x.exit(3);
        due("5: processes() without 1, 3", x.processes(), 5);
        x.fork(2);
        due("5: processes() without 3", x.processes(), 7);
    }

    private static void promise6Map() {
        PageSharer x = new PageSharer();
        x.spawn();
        due("6: map(0, 0, 8)", x.map(0, 0, 8), true);
        due("6: mapped(0)", x.mapped(0), 255);
        due("6: resident(0)", x.resident(0), 255);
        due("6: pages()", x.pages(), 8);
        for (int v = 0; v < 8; v++) {
            due("6: mappers(0, " + v + ")", x.mappers(0, v), 1 << v);
            due("6: read(0, " + v + ")", x.read(0, v), 0);
        }
        x.write(0, 7, 99);
        x.swapOut(0, 7);
        x.unmap(0, 7, 1);
        due("6: map(0, 7, 1)", x.map(0, 7, 1), true);
        due("6: resident(0) of a page made anew", x.resident(0), 255);
        due("6: read(0, 7) of a page made anew", x.read(0, 7), 0);
        refuseMap(0, 1, 1);
        refuseMap(0, 0, 2);
        refuseMap(0, 3, 5);
        refuseMap(0, 0, 8);
        refuseMap(0, 7, 2);
        refuseMap(0, 5, 4);
        refuseMap(1, 1, 8);
        refuseMap(2, 0, 1);
        for (int p : NOT_PROCESSES) {
            refuseMap(p, 4, 1);
        }
        for (int from : NOT_PLACES) {
            refuseMap(0, from, 1);
            refuseMap(0, from, MAX);
        }
        for (int count : NOT_COUNTS) {
            refuseMap(0, 4, count);
            refuseMap(1, 0, count);
        }
    }

    private static void refuseMap(int p, int from, int count) {
        PageSharer x = sample();
        String call = "6: map(" + p + ", " + from + ", " + count + ")";
        due(call, x.map(p, from, count), false);
        sampleUnchanged(call, x);
    }

    private static void promise6MapEveryPlace() {
        PageSharer x = new PageSharer();
        for (int p = 0; p < 4; p++) {
            x.spawn();
            due("6: map(" + p + ", 0, 8)", x.map(p, 0, 8), true);
        }
        due("6: pages() at the most", x.pages(), 32);
        for (int p = 0; p < 4; p++) {
            for (int v = 0; v < 8; v++) {
                due("6: write at the most", x.write(p, v, 100 + 8 * p + v), true);
            }
        }
        for (int p = 0; p < 4; p++) {
            for (int v = 0; v < 8; v++) {
                due("6: read at the most", x.read(p, v), 100 + 8 * p + v);
                due("6: mappers at the most", x.mappers(p, v), 1 << (8 * p + v));
            }
        }
    }

    private static void promise7Unmap() {
        PageSharer x = sample();
        x.fork(0);
        due("7: unmap(0, 0, 2)", x.unmap(0, 0, 2), 1);
        due("7: mapped(0)", x.mapped(0), 12);
        due("7: mapped(2)", x.mapped(2), 14);
        due("7: mappers(2, 1)", x.mappers(2, 1), 1 << 17);
        due("7: pages()", x.pages(), 3);
        due("7: unmap(0, 4, 4)", x.unmap(0, 4, 4), 0);
        due("7: unmap(2, 0, 8)", x.unmap(2, 0, 8), 3);
        due("7: pages() later", x.pages(), 2);
        due("7: unmap(0, 0, 8)", x.unmap(0, 0, 8), 2);
        due("7: pages() at the end", x.pages(), 0);
        due("7: processes()", x.processes(), 7);
        refuseUnmap(2, 0, 8);
        refuseUnmap(0, 7, 2);
        refuseUnmap(0, 1, 8);
        for (int p : NOT_PROCESSES) {
            refuseUnmap(p, 0, 8);
        }
        for (int from : NOT_PLACES) {
            refuseUnmap(0, from, 3);
            refuseUnmap(0, from, MAX);
        }
        for (int count : NOT_COUNTS) {
            refuseUnmap(0, 0, count);
            refuseUnmap(0, 2, count);
        }
    }

    private static void refuseUnmap(int p, int from, int count) {
        PageSharer x = sample();
        String call = "7: unmap(" + p + ", " + from + ", " + count + ")";
        due(call, x.unmap(p, from, count), PageSharer.NONE);
        sampleUnchanged(call, x);
    }

    private static void promise8Move() {
        PageSharer x = sample();
        x.fork(0);
        due("8: move(0, 1, 3, 5)", x.move(0, 1, 3, 5), true);
        due("8: mapped(0)", x.mapped(0), 224);
        due("8: resident(0)", x.resident(0), 160);
        due("8: pages()", x.pages(), 3);
        for (int i = 0; i < 3; i++) {
            due("8: mappers(0, " + (5 + i) + ")", x.mappers(0, 5 + i), 1 << (5 + i) | 1 << (17 + i));
            due("8: read(0, " + (5 + i) + ")", x.read(0, 5 + i), 10 * (i + 1));
        }
        due("8: move(0, 6, 1, 0) down", x.move(0, 6, 1, 0), true);
        due("8: mapped(0) down", x.mapped(0), 161);
        due("8: read(0, 0)", x.read(0, 0), 20);
        due("8: move(2, 1, 3, 4) to the next ones", x.move(2, 1, 3, 4), true);
        due("8: move(2, 4, 3, 1) and back", x.move(2, 4, 3, 1), true);
        due("8: mappers(2, 2)", x.mappers(2, 2), 1 | 1 << 18);
        refuseMove(0, 1, 3, 1);
        refuseMove(0, 1, 3, 2);
        refuseMove(0, 1, 3, 0);
        refuseMove(0, 1, 2, 3);
        refuseMove(0, 0, 2, 5);
        refuseMove(0, 3, 2, 6);
        refuseMove(0, 4, 1, 5);
        refuseMove(0, 1, 3, 6);
        refuseMove(0, 1, 1, 8);
        refuseMove(0, 7, 2, 4);
        refuseMove(1, 0, 1, 4);
        refuseMove(2, 0, 1, 4);
        for (int p : NOT_PROCESSES) {
            refuseMove(p, 1, 1, 5);
        }
        for (int v : NOT_PLACES) {
            refuseMove(0, v, 1, 5);
            refuseMove(0, 1, 1, v);
            refuseMove(0, v, MAX, v);
        }
        for (int count : NOT_COUNTS) {
            refuseMove(0, 1, count, 5);
        }
    }

    private static void refuseMove(int p, int from, int count, int to) {
        PageSharer x = sample();
        String call = "8: move(" + p + ", " + from + ", " + count + ", " + to + ")";
        due(call, x.move(p, from, count, to), false);
        sampleUnchanged(call, x);
    }

    private static void promise9Read() {
        PageSharer x = sample();
        x.fork(0);
        x.write(0, 1, MIN);
        due("9: read(0, 1)", x.read(0, 1), MIN);
        due("9: read(2, 1)", x.read(2, 1), 10);
        due("9: resident(0) before", x.resident(0), 10);
        due("9: read(2, 2) of a page swapped out", x.read(2, 2), 20);
        due("9: resident(0)", x.resident(0), 14);
        due("9: resident(2)", x.resident(2), 14);
        refuseRead(0, 0);
        refuseRead(0, 4);
        refuseRead(1, 1);
        refuseRead(2, 1);
        for (int p : NOT_PROCESSES) {
            refuseRead(p, 2);
        }
        for (int v : NOT_PLACES) {
            refuseRead(0, v);
            refuseRead(1, v);
        }
    }

    private static void refuseRead(int p, int v) {
        PageSharer x = sample();
        String call = "9: read(" + p + ", " + v + ")";
        due(call, x.read(p, v), 0);
        sampleUnchanged(call, x);
    }

    private static void promise10Write() {
        PageSharer x = sample();
        due("10: write(0, 2, 21) alone, swapped out", x.write(0, 2, 21), true);
        due("10: resident(0)", x.resident(0), 14);
        due("10: pages()", x.pages(), 3);
        due("10: read(0, 2)", x.read(0, 2), 21);
        x.fork(0);
        x.fork(0);
        x.swapOut(0, 2);
        due("10: write(2, 2, 22) shared, swapped out", x.write(2, 2, 22), true);
        due("10: pages() parted", x.pages(), 4);
        due("10: residentPages() parted", x.residentPages(), 4);
        due("10: resident(0) keeps", x.resident(0), 14);
        due("10: resident(3) keeps", x.resident(3), 14);
        due("10: mappers(0, 2)", x.mappers(0, 2), 1 << 2 | 1 << 26);
        due("10: mappers(2, 2)", x.mappers(2, 2), 1 << 18);
        due("10: read(0, 2) keeps", x.read(0, 2), 21);
        due("10: read(2, 2) is new", x.read(2, 2), 22);
        due("10: write(3, 2, 21) of the same content", x.write(3, 2, 21), true);
        due("10: pages() parted though the same", x.pages(), 5);
        due("10: write(0, 2, 5) alone again", x.write(0, 2, 5), true);
        due("10: pages() as before", x.pages(), 5);
        due("10: read(3, 2)", x.read(3, 2), 21);
        refuseWrite(0, 0);
        refuseWrite(0, 4);
        refuseWrite(1, 1);
        refuseWrite(2, 1);
        for (int p : NOT_PROCESSES) {
            refuseWrite(p, 2);
        }
        for (int v : NOT_PLACES) {
            refuseWrite(0, v);
            refuseWrite(1, v);
        }
    }

    private static void refuseWrite(int p, int v) {
        PageSharer x = sample();
        String call = "10: write(" + p + ", " + v + ", 77)";
        due(call, x.write(p, v, 77), false);
        sampleUnchanged(call, x);
    }

    private static void promise10PartEveryPlace() {
        PageSharer x = new PageSharer();
        x.spawn();
        x.map(0, 0, 8);
        x.fork(0);
        x.fork(0);
        x.fork(0);
        due("10: pages() all shared", x.pages(), 8);
        for (int place = 31; place >= 0; place--) {
            due("10: write of place " + place, x.write(place / 8, place % 8, place + 1), true);
        }
        due("10: pages() all parted", x.pages(), 32);
        for (int place = 0; place < 32; place++) {
            due("10: read of place " + place, x.read(place / 8, place % 8), place + 1);
            due("10: mappers of place " + place, x.mappers(place / 8, place % 8), 1 << place);
        }
    }

    private static void promise11SwapOut() {
        PageSharer x = sample();
        due("11: swapOut(0, 1)", x.swapOut(0, 1), 1);
        due("11: swapOut(0, 1) again", x.swapOut(0, 1), 0);
        due("11: resident(0)", x.resident(0), 8);
        due("11: pages()", x.pages(), 3);
        due("11: mapped(0)", x.mapped(0), 14);
        x.exit(1);
        x.fork(0);
        x.fork(0);
        x.fork(0);
        due("11: swapOut(3, 3) of four", x.swapOut(3, 3), 4);
        due("11: swapOut(0, 3) already", x.swapOut(0, 3), 0);
        due("11: residentPages()", x.residentPages(), 0);
        due("11: read(2, 3)", x.read(2, 3), 30);
        due("11: swapOut(1, 3) after a read", x.swapOut(1, 3), 4);
        x.map(3, 7, 1);
        due("11: swapOut(3, 7) of the last place", x.swapOut(3, 7), 1);
        refuseSwapOut(0, 0);
        refuseSwapOut(0, 4);
        refuseSwapOut(1, 1);
        refuseSwapOut(2, 1);
        for (int p : NOT_PROCESSES) {
            refuseSwapOut(p, 1);
        }
        for (int v : NOT_PLACES) {
            refuseSwapOut(0, v);
            refuseSwapOut(1, v);
        }
    }

    private static void refuseSwapOut(int p, int v) {
        PageSharer x = sample();
        String call = "11: swapOut(" + p + ", " + v + ")";
        due(call, x.swapOut(p, v), PageSharer.NONE);
        sampleUnchanged(call, x);
    }

    private static void promise12Mappers() {
        PageSharer x = new PageSharer();
        x.spawn();
        x.map(0, 0, 8);
        x.fork(0);
        x.fork(1);
        x.fork(2);
        due("12: mappers(3, 7)", x.mappers(3, 7), 0x80808080);
        due("12: mappers(0, 0)", x.mappers(0, 0), 0x01010101);
        x.unmap(1, 7, 1);
        due("12: mappers(3, 7) without 1", x.mappers(3, 7), 0x80800080);
        x.write(3, 7, 0);
        due("12: mappers(3, 7) alone", x.mappers(3, 7), MIN);
        due("12: mappers(0, 7)", x.mappers(0, 7), 0x00800080);
        due("12: mappers(1, 7) unmapped", x.mappers(1, 7), 0);
        x.swapOut(0, 7);
        due("12: mappers(2, 7) swapped out", x.mappers(2, 7), 0x00800080);
        due("12: residentPages() unchanged", x.residentPages(), 8);
        for (int p : NOT_PROCESSES) {
            due("12: mappers(" + p + ", 1)", x.mappers(p, 1), 0);
        }
        for (int v : NOT_PLACES) {
            due("12: mappers(0, " + v + ")", x.mappers(0, v), 0);
            due("12: mappers(1, " + v + ")", x.mappers(1, v), 0);
        }
        x.exit(0);
        due("12: mappers(0, 7) ended", x.mappers(0, 7), 0);
        due("12: mappers(2, 7) alone", x.mappers(2, 7), 1 << 23);
    }

    private static void promise13Mapped() {
        PageSharer x = sample();
        due("13: mapped(0)", x.mapped(0), 14);
        due("13: mapped(1)", x.mapped(1), 0);
        x.map(1, 7, 1);
        x.map(1, 0, 1);
        due("13: mapped(1) at the ends", x.mapped(1), 129);
        due("13: mapped(2) without a process", x.mapped(2), 0);
        for (int p : NOT_PROCESSES) {
            due("13: mapped(" + p + ")", x.mapped(p), 0);
        }
        x.exit(0);
        due("13: mapped(0) ended", x.mapped(0), 0);
    }

    private static void promise14Resident() {
        PageSharer x = sample();
        due("14: resident(0)", x.resident(0), 10);
        due("14: resident(1)", x.resident(1), 0);
        x.fork(0);
        x.swapOut(2, 1);
        due("14: resident(0) after swapOut(2, 1)", x.resident(0), 8);
        x.read(0, 2);
        due("14: resident(2) after read(0, 2)", x.resident(2), 12);
        due("14: resident(3) without a process", x.resident(3), 0);
        for (int p : NOT_PROCESSES) {
            due("14: resident(" + p + ")", x.resident(p), 0);
        }
        x.exit(0);
        due("14: resident(0) ended", x.resident(0), 0);
    }

    private static void promises15And16Counts() {
        PageSharer x = sample();
        due("15: pages()", x.pages(), 3);
        due("16: residentPages()", x.residentPages(), 2);
        x.fork(0);
        due("15: pages() shared", x.pages(), 3);
        due("16: residentPages() shared", x.residentPages(), 2);
        x.unmap(0, 1, 3);
        due("15: pages() held by one", x.pages(), 3);
        due("16: residentPages() held by one", x.residentPages(), 2);
        x.unmap(2, 2, 1);
        due("15: pages() less one swapped out", x.pages(), 2);
        due("16: residentPages() less one swapped out", x.residentPages(), 2);
        x.unmap(2, 3, 1);
        due("15: pages() less one resident", x.pages(), 1);
        due("16: residentPages() less one resident", x.residentPages(), 1);
        x.exit(2);
        due("15: pages() none", x.pages(), 0);
        due("16: residentPages() none", x.residentPages(), 0);
    }

    public static void main(String[] args) {
        promise1NewObject();
        promise2Spawn();
        promise3Fork();
        promise4Exit();
        promise5Processes();
        promise6Map();
        promise6MapEveryPlace();
        promise7Unmap();
        promise8Move();
        promise9Read();
        promise10Write();
        promise10PartEveryPlace();
        promise11SwapOut();
        promise12Mappers();
        promise13Mapped();
        promise14Resident();
        promises15And16Counts();
        System.out.println(wrong == 0 ? "all answers are as due" : wrong + " answers are not as due");
        if (wrong != 0) {
            System.exit(1);
        }
    }
}
