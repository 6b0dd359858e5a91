import java.util.Arrays;
import java.util.List;
import java.util.function.Consumer;
import java.util.function.Supplier;

/** A test of its own for each sentence of the document that names a boundary case; main tells them in order. */
public final class EdgeTest {
    private static final int MIN = Integer.MIN_VALUE;
    private static final int MAX = Integer.MAX_VALUE;
    private static final int NONE = PageSharer.NONE;
    private static final int FULL = PageSharer.FULL;

    // Beside the neighbours of 0 .. 3 and 0 .. 7: numbers that 8 * p + v or a shift would bring back into range.
    private static final int[] NOT_PROCESSES =
        {-1, 4, -2, -4, 5, 7, 8, -29, -32, 32, 33, 35, 1 << 29, (1 << 29) + 1, -(1 << 29), MIN, MIN + 1, MAX};
    private static final int[] NOT_PLACES = {-1, 8, -7, -8, -9, 9, 16, 31, 32, 33, -24, -31, -32, MIN, MIN + 1, MAX};
    private static final int[] TOO_SMALL = {-1, -2, -7, -8, -9, -24, -32, MIN, MIN + 1, MIN + 8};
    private static final int[] COUNTS_TOO_SMALL = {0, -1, -2, -7, -8, -9, MIN, MIN + 1, MIN + 8};
    private static final int[] COUNTS_TOO_LARGE = {9, 10, 16, 31, 32, 33, MAX - 8, MAX - 7, MAX};
    private static final int[] TOO_LARGE = {8, 9, 15, 16, 31, 32, MAX - 8, MAX - 7, MAX - 1, MAX};
    private static final int[] CONTENTS = {0, 1, -1, -2, 255, MIN, MIN + 1, MAX};

    private static String sentence = "";
    private static int wrong = 0;

    private record State(String name, Supplier<PageSharer> maker) { }

    private static final List<State> STATES = List.of(
        new State("new", PageSharer::new),
        new State("bare", EdgeTest::bare),
        new State("mixed", EdgeTest::mixed),
        new State("full", EdgeTest::full),
        new State("full and resident", EdgeTest::fullAndResident));

    private static final List<State> STATES_OF_FOUR =
        STATES.stream().filter(s -> s.maker().get().processes() == 15).toList();

    private interface OfProcess {
        int answer(PageSharer x, int p);
    }

    private interface OfPlace {
        int answer(PageSharer x, int p, int v);
    }

    private interface OfRange {
        int answer(PageSharer x, int p, int from, int count);
    }

    private static void due(String call, int got, int want) {
        if (got != want) {
            wrong++;
            System.out.println(sentence + ": " + call + " answered " + got + ", due is " + want);
        }
    }

    private static void due(String call, boolean got, boolean want) {
        due(call, bit(got), bit(want));
    }

    private static int bit(boolean b) {
        return b ? 1 : 0;
    }

    private static void test(String words, Runnable body) {
        sentence = words;
        // No call may throw; one that does is told with its sentence, and the other sentences are tested still.
        try {
            body.run();
        } catch (RuntimeException thrown) {
            wrong++;
            System.out.println(sentence + ": a call threw " + thrown);
        }
    }

    // States to start from.

    /** Four processes, every place unmapped. */
    private static PageSharer bare() {
        PageSharer x = new PageSharer();
        for (int p = 0; p < 4; p++) {
            x.spawn();
        }
        return x;
    }

    /** Processes 0, 1 and 3, with pages alone and shared, moved, and swapped out; process 2 has ended. */
    private static PageSharer mixed() {
        PageSharer x = new PageSharer();
        x.spawn();
        x.map(0, 0, 4);
        for (int v = 0; v < 4; v++) {
            x.write(0, v, 10 + v);
        }
        x.spawn();
        x.fork(0);
        x.fork(0);
        x.exit(2);
        x.write(3, 3, 33);
        x.move(3, 0, 1, 6);
        x.map(1, 2, 2);
        x.write(1, 2, -5);
        x.swapOut(0, 1);
        x.swapOut(3, 3);
        x.swapOut(1, 3);
        return x;
    }

    /** Four processes, every place mapped; some pages shared, some swapped out. */
    private static PageSharer full() {
        PageSharer x = new PageSharer();
        x.spawn();
        x.map(0, 0, 8);
        for (int v = 0; v < 8; v++) {
            x.write(0, v, 100 + v);
        }
        for (int i = 0; i < 3; i++) {
            x.fork(0);
        }
        for (int v = 0; v < 8; v++) {
            x.write(1, v, 200 + v);
        }
        for (int v = 0; v < 8; v += 2) {
            x.write(2, v, 300 + v);
        }
        for (int p = 0; p < 3; p++) {
            x.swapOut(p, 2 * p);
            x.swapOut(p, 2 * p + 1);
        }
        return x;
    }

    private static PageSharer fullAndResident() {
        PageSharer x = full();
        for (int place = 0; place < 32; place++) {
            x.read(place / 8, place % 8);
        }
        return x;
    }

    /** One process with places 0 .. count - 1 of contents 1, 2, .. */
    private static PageSharer one(int count) {
        PageSharer x = new PageSharer();
        x.spawn();
        x.map(0, 0, count);
        for (int v = 0; v < count; v++) {
            x.write(0, v, v + 1);
        }
        return x;
    }

    // What an object shows.

    private static int[] seen(PageSharer x) {
        int[] all = new int[1 + 2 * 4 + 2 + 2 * 32];
        int at = 0;
        all[at++] = x.processes();
        for (int p = 0; p < 4; p++) {
            all[at++] = x.mapped(p);
            all[at++] = x.resident(p);
        }
        all[at++] = x.pages();
        all[at++] = x.residentPages();
        for (int place = 0; place < 32; place++) {
            all[at++] = x.mappers(place / 8, place % 8);
        }
        // Last, because a read brings pages in.
        for (int place = 0; place < 32; place++) {
            all[at++] = x.read(place / 8, place % 8);
        }
        return all;
    }

    private static void dueSame(String call, PageSharer x, PageSharer twin) {
        int[] got = seen(x);
        int[] want = seen(twin);
        if (!Arrays.equals(got, want)) {
            wrong++;
            System.out.println(sentence + ": after " + call + " the object shows " + Arrays.toString(got)
                + ", due is " + Arrays.toString(want));
        }
    }

    private static boolean isThere(PageSharer x, int p) {
        return (x.processes() >> p & 1) == 1;
    }

    private static boolean isMapped(PageSharer x, int p, int v) {
        return (x.mapped(p) >> v & 1) == 1;
    }

    // Refused calls: the answer, and nothing changed.

    private static void refusedOfProcess(State s, int p, OfProcess call, int want) {
        PageSharer x = s.maker().get();
        String told = s.name() + " object, process " + p;
        due(told, call.answer(x, p), want);
        dueSame(told, x, s.maker().get());
    }

    private static void noProcess(OfProcess call, int want) {
        for (State s : STATES) {
            for (int p : NOT_PROCESSES) {
                refusedOfProcess(s, p, call, want);
            }
            for (int p = 0; p < 4; p++) {
                if (!isThere(s.maker().get(), p)) {
                    refusedOfProcess(s, p, call, want);
                }
            }
        }
    }

    private static void refusedOfPlace(State s, int p, int v, OfPlace call, int want) {
        refusedOfProcess(s, p, (x, q) -> call.answer(x, q, v), want);
    }

    private static void noProcessOfPlace(OfPlace call, int want) {
        for (int v = 0; v < 8; v++) {
            int place = v;
            noProcess((x, p) -> call.answer(x, p, place), want);
        }
        for (int v : NOT_PLACES) {
            noProcess((x, p) -> call.answer(x, p, v), want);
        }
    }

    private static void noPlace(OfPlace call, int want) {
        for (State s : STATES) {
            for (int p = 0; p < 4; p++) {
                for (int v : NOT_PLACES) {
                    refusedOfPlace(s, p, v, call, want);
                }
            }
        }
    }

    private static void unmappedPlace(OfPlace call, int want) {
        for (State s : STATES) {
            for (int p = 0; p < 4; p++) {
                for (int v = 0; v < 8; v++) {
                    PageSharer x = s.maker().get();
                    if (isThere(x, p) && !isMapped(x, p, v)) {
                        refusedOfPlace(s, p, v, call, want);
                    }
                }
            }
        }
    }

    private static void refusedOfRange(int from, int count, OfRange call, int want) {
        for (State s : STATES) {
            for (int p = 0; p < 4; p++) {
                PageSharer x = s.maker().get();
                String told = s.name() + " object, process " + p + ", from " + from + ", count " + count;
                due(told, call.answer(x, p, from, count), want);
                dueSame(told, x, s.maker().get());
            }
        }
    }

    private static void countTooSmall(OfRange call, int want) {
        for (int count : COUNTS_TOO_SMALL) {
            for (int from = 0; from < 8; from++) {
                refusedOfRange(from, count, call, want);
            }
        }
    }

    private static void countTooLarge(OfRange call, int want) {
        for (int count : COUNTS_TOO_LARGE) {
            for (int from = -2; from < 8; from++) {
                refusedOfRange(from, count, call, want);
            }
        }
    }

    private static void fromTooSmall(OfRange call, int want) {
        for (int from : TOO_SMALL) {
            for (int count = 1; count <= 8; count++) {
                refusedOfRange(from, count, call, want);
            }
        }
    }

    private static void fromTooLarge(OfRange call, int want) {
        for (int from : TOO_LARGE) {
            for (int count = 1; count <= 8; count++) {
                refusedOfRange(from, count, call, want);
            }
        }
    }

    private static void placeAbove(OfRange call, int want) {
        for (int from = 1; from < 8; from++) {
            for (int count = 9 - from; count <= 8; count++) {
                refusedOfRange(from, count, call, want);
            }
        }
    }

    private static void sumWrapsAround(OfRange call, int want) {
        int[] far = {MIN, MIN + 1, MIN + 8, MAX - 8, MAX - 1, MAX};
        for (int from : far) {
            for (int count : far) {
                refusedOfRange(from, count, call, want);
            }
        }
    }

    private static int mask(int from, int count) {
        return ((1 << count) - 1) << from;
    }

    // What it is, and the terms.

    private static void the512thCallCounts() {
        PageSharer x = one(1);
        int calls = 3;
        while (calls < 511) {
            due("write as call " + (calls + 1), x.write(0, 0, calls), true);
            calls++;
        }
        due("read as call 512", x.read(0, 0), 510);

        PageSharer y = new PageSharer();
        for (int call = 1; call <= 512; call += 2) {
            due("spawn as call " + call, y.spawn(), 0);
            due("exit as call " + (call + 1), y.exit(0), true);
        }
    }

    private static void laterCallsEnd() {
        PageSharer x = full();
        for (int i = 0; i < 5000; i++) {
            x.exit(i % 4);
            x.spawn();
            x.map(i % 4, 0, 8);
            x.unmap(i % 4, 2, 3);
            x.move(i % 4, 0, 2, 3);
            x.fork(i % 3);
            x.write(i % 4, i % 8, i);
            x.swapOut(i % 4, i % 8);
            seen(x);
        }
    }

    private static void pageStaysWhileBacked() {
        PageSharer x = one(1);
        x.write(0, 0, 7);
        for (int p = 1; p < 4; p++) {
            x.fork(0);
        }
        due("pages() of four places", x.pages(), 1);
        x.unmap(0, 0, 1);
        due("pages() of three places", x.pages(), 1);
        x.exit(3);
        due("pages() of two places", x.pages(), 1);
        x.write(1, 0, 8);
        due("pages() when one of two parted", x.pages(), 2);
        due("read of the last place", x.read(2, 0), 7);
        x.unmap(2, 0, 1);
        due("pages() when its last place is unmapped", x.pages(), 1);
        x.exit(1);
        due("pages() when its last process ended", x.pages(), 0);
    }

    private static void samePageOfDifferentPlaces() {
        PageSharer x = one(1);
        x.fork(0);
        x.move(1, 0, 1, 7);
        due("mappers(0, 0)", x.mappers(0, 0), 1 | 1 << 15);
        due("read(1, 7)", x.read(1, 7), 1);
        x.fork(1);
        x.move(2, 7, 1, 3);
        due("mappers(1, 7)", x.mappers(1, 7), 1 | 1 << 15 | 1 << 19);
        due("swapOut(2, 3)", x.swapOut(2, 3), 3);
        due("pages()", x.pages(), 1);
    }

    // Promise 1

    private static void newHasNoProcesses() {
        PageSharer x = new PageSharer();
        int[] all = seen(x);
        due("something shown", Arrays.stream(all).filter(n -> n != 0).findFirst().orElse(0), 0);
        for (int p = 0; p < 4; p++) {
            due("fork(" + p + ")", x.fork(p), NONE);
            due("exit(" + p + ")", x.exit(p), false);
            due("map(" + p + ", 0, 1)", x.map(p, 0, 1), false);
            due("unmap(" + p + ", 0, 1)", x.unmap(p, 0, 1), NONE);
        }
        due("spawn()", x.spawn(), 0);
    }

    private static void objectsAreApart() {
        PageSharer used = full();
        PageSharer fresh = new PageSharer();
        due("processes() of a new one", fresh.processes(), 0);
        due("pages() of a new one", fresh.pages(), 0);
        fresh.spawn();
        fresh.map(0, 0, 8);
        fresh.write(0, 0, 5);
        dueSame("use of a new object", used, full());
    }

    // Promise 2

    private static void spawnUnmapped() {
        for (int p = 0; p < 4; p++) {
            PageSharer x = full();
            x.exit(p);
            int pages = x.pages();
            due("spawn()", x.spawn(), p);
            due("mapped(" + p + ")", x.mapped(p), 0);
            due("resident(" + p + ")", x.resident(p), 0);
            due("pages()", x.pages(), pages);
            due("map(" + p + ", 0, 8)", x.map(p, 0, 8), true);
        }
    }

    /** The object whose processes are the bits of set. */
    private static PageSharer having(int set) {
        PageSharer x = bare();
        for (int p = 0; p < 4; p++) {
            if ((set >> p & 1) == 0) {
                x.exit(p);
            }
        }
        return x;
    }

    private static void spawnTakesLeast() {
        for (int set = 0; set < 15; set++) {
            PageSharer x = having(set);
            int least = Integer.numberOfTrailingZeros(~set);
            due("spawn() beside " + set, x.spawn(), least);
            due("processes() after spawn beside " + set, x.processes(), set | 1 << least);
        }
    }

    private static void spawnFull() {
        due("FULL", FULL, -2);
        due("spawn() of the fourth", having(7).spawn(), 3);
        for (State s : STATES_OF_FOUR) {
            PageSharer x = s.maker().get();
            due("spawn() of a fifth", x.spawn(), FULL);
            due("spawn() of a fifth again", x.spawn(), FULL);
            dueSame("spawn() of a fifth", x, s.maker().get());
        }
    }

    // Promise 3

    private static void forkMapsAlike() {
        for (int set = 0; set < 256; set++) {
            PageSharer x = one(8);
            x.swapOut(0, 1);
            x.swapOut(0, 6);
            for (int v = 0; v < 8; v++) {
                if ((set >> v & 1) == 0) {
                    x.unmap(0, v, 1);
                }
            }
            due("fork(0) of " + set, x.fork(0), 1);
            due("mapped(0) of " + set, x.mapped(0), set);
            due("mapped(1) of " + set, x.mapped(1), set);
            due("resident(1) of " + set, x.resident(1), set & ~(1 << 1 | 1 << 6));
            due("pages() of " + set, x.pages(), Integer.bitCount(set));
            for (int v = 0; v < 8; v++) {
                boolean there = (set >> v & 1) == 1;
                due("mappers(1, " + v + ") of " + set, x.mappers(1, v), there ? 1 << v | 1 << (8 + v) : 0);
                due("read(1, " + v + ") of " + set, x.read(1, v), there ? v + 1 : 0);
            }
        }
    }

    private static void forkTakesLeast() {
        for (int set = 1; set < 15; set++) {
            for (int p = 0; p < 4; p++) {
                if ((set >> p & 1) == 1) {
                    PageSharer x = having(set);
                    x.map(p, p, 1);
                    int least = Integer.numberOfTrailingZeros(~set);
                    due("fork(" + p + ") beside " + set, x.fork(p), least);
                    due("processes() after fork beside " + set, x.processes(), set | 1 << least);
                    due("mapped(" + least + ")", x.mapped(least), 1 << p);
                }
            }
        }
    }

    private static void forkNoneBeforeFull() {
        for (int p : NOT_PROCESSES) {
            due("fork(" + p + ") when four are there", bare().fork(p), NONE);
            due("fork(" + p + ") when all is mapped", full().fork(p), NONE);
        }
    }

    private static void forkFull() {
        due("fork(0) of the fourth", having(7).fork(0), 3);
        for (State s : STATES_OF_FOUR) {
            for (int p = 0; p < 4; p++) {
                refusedOfProcess(s, p, PageSharer::fork, FULL);
            }
        }
    }

    private static void forkOfFork() {
        PageSharer x = one(2);
        x.fork(0);
        x.exit(0);
        due("fork(1) into the number of its parent", x.fork(1), 0);
        due("mappers(0, 1)", x.mappers(0, 1), 1 << 1 | 1 << 9);
        due("read(0, 1)", x.read(0, 1), 2);
    }

    // Promise 4

    private static void exitUnmaps() {
        for (State s : STATES_OF_FOUR) {
            for (int p = 0; p < 4; p++) {
                for (int q = 0; q < 4; q++) {
                    exitSeenBy(q, p, s.maker().get(), s.maker().get());
                }
            }
        }
    }

    private static void exitSeenBy(int q, int p, PageSharer x, PageSharer before) {
        String told = " after exit(" + p + ")";
        due("exit(" + p + ")", x.exit(p), true);
        due("processes()" + told, x.processes(), 15 & ~(1 << p));
        due("mapped(" + q + ")" + told, x.mapped(q), q == p ? 0 : before.mapped(q));
        due("resident(" + q + ")" + told, x.resident(q), q == p ? 0 : before.resident(q));
        for (int v = 0; v < 8; v++) {
            int want = q == p ? 0 : before.mappers(q, v) & ~(255 << 8 * p);
            due("mappers(" + q + ", " + v + ")" + told, x.mappers(q, v), want);
        }
        for (int v = 0; v < 8; v++) {
            due("read(" + q + ", " + v + ")" + told, x.read(q, v), q == p ? 0 : before.read(q, v));
        }
    }

    private static void exitOfLastAndOnly() {
        PageSharer x = one(8);
        x.swapOut(0, 3);
        due("exit(0)", x.exit(0), true);
        dueSame("exit of the only process", x, new PageSharer());
        due("spawn()", x.spawn(), 0);
        due("mapped(0)", x.mapped(0), 0);
    }

    private static void exitTwice() {
        for (int p = 0; p < 4; p++) {
            PageSharer x = bare();
            due("exit(" + p + ")", x.exit(p), true);
            due("exit(" + p + ") again", x.exit(p), false);
            due("processes()", x.processes(), 15 & ~(1 << p));
        }
    }

    // Promise 5

    private static void processesOfEverySet() {
        for (int set = 0; set < 16; set++) {
            due("processes()", having(set).processes(), set);
        }
    }

    // Promise 6

    private static int map(PageSharer x, int p, int from, int count) {
        return bit(x.map(p, from, count));
    }

    private static void mapEveryRange() {
        for (int p = 0; p < 4; p++) {
            for (int from = 0; from < 8; from++) {
                for (int count = 1; count <= 8 - from; count++) {
                    PageSharer x = bare();
                    String call = "map(" + p + ", " + from + ", " + count + ")";
                    due(call, x.map(p, from, count), true);
                    due(call + " mapped", x.mapped(p), mask(from, count));
                    due(call + " resident", x.resident(p), mask(from, count));
                    due(call + " pages", x.pages(), count);
                    due(call + " residentPages", x.residentPages(), count);
                    for (int v = from; v < from + count; v++) {
                        due(call + " mappers of " + v, x.mappers(p, v), 1 << (8 * p + v));
                    }
                }
            }
        }
    }

    private static void mapAnewIsZeroAndResident() {
        PageSharer x = bare();
        for (int p = 0; p < 4; p++) {
            x.map(p, 0, 8);
            for (int v = 0; v < 8; v++) {
                x.write(p, v, -1);
                x.swapOut(p, v);
            }
        }
        for (int p = 0; p < 4; p++) {
            x.unmap(p, 0, 8);
        }
        for (int p = 0; p < 4; p++) {
            due("map(" + p + ", 0, 8)", x.map(p, 0, 8), true);
            due("resident(" + p + ")", x.resident(p), 255);
        }
        due("residentPages()", x.residentPages(), 32);
        for (int place = 0; place < 32; place++) {
            due("read of place " + place, x.read(place / 8, place % 8), 0);
        }
    }

    private static void mapOverOneMapped() {
        for (int held = 0; held < 8; held++) {
            for (int from = 0; from <= held; from++) {
                for (int count = held - from + 1; count <= 8 - from; count++) {
                    PageSharer x = heldAlone(held);
                    String call = "map(0, " + from + ", " + count + ") over " + held;
                    due(call, x.map(0, from, count), false);
                    dueSame(call, x, heldAlone(held));
                }
            }
        }
    }

    /** Place held alone is mapped, with content 9 and swapped out. */
    private static PageSharer heldAlone(int held) {
        PageSharer x = new PageSharer();
        x.spawn();
        x.map(0, held, 1);
        x.write(0, held, 9);
        x.swapOut(0, held);
        return x;
    }

    private static void mapBesideOneMapped() {
        for (int held = 0; held < 8; held++) {
            if (held > 0) {
                due("map up to " + held, heldAlone(held).map(0, 0, held), true);
            }
            if (held < 7) {
                due("map from above " + held, heldAlone(held).map(0, held + 1, 7 - held), true);
            }
            PageSharer x = heldAlone(held);
            x.spawn();
            due("map by another process", x.map(1, 0, 8), true);
            due("mappers(1, " + held + ")", x.mappers(1, held), 1 << (8 + held));
            due("read(0, " + held + ")", x.read(0, held), 9);
        }
    }

    // Promise 7

    private static void unmapOfEverySet() {
        for (int set = 0; set < 256; set++) {
            for (int from = 0; from < 8; from++) {
                for (int count = 1; count <= 8 - from; count++) {
                    PageSharer x = new PageSharer();
                    x.spawn();
                    for (int v = 0; v < 8; v++) {
                        if ((set >> v & 1) == 1) {
                            x.map(0, v, 1);
                        }
                    }
                    int hit = set & mask(from, count);
                    String call = "unmap(0, " + from + ", " + count + ") of " + set;
                    due(call, x.unmap(0, from, count), Integer.bitCount(hit));
                    due(call + " mapped", x.mapped(0), set & ~hit);
                    due(call + " pages", x.pages(), Integer.bitCount(set & ~hit));
                }
            }
        }
    }

    private static void unmapOfNoneMapped() {
        PageSharer x = bare();
        for (int p = 0; p < 4; p++) {
            due("unmap(" + p + ", 0, 8)", x.unmap(p, 0, 8), 0);
            due("unmap(" + p + ", 7, 1)", x.unmap(p, 7, 1), 0);
        }
        dueSame("unmap of unmapped places", x, bare());
    }

    private static void unmapLeavesOthers() {
        PageSharer x = one(8);
        x.fork(0);
        x.swapOut(0, 2);
        due("unmap(0, 2, 3)", x.unmap(0, 2, 3), 3);
        due("mapped(1)", x.mapped(1), 255);
        due("resident(1)", x.resident(1), 255 & ~(1 << 2));
        due("pages()", x.pages(), 8);
        due("mappers(1, 2)", x.mappers(1, 2), 1 << 10);
        due("read(1, 2)", x.read(1, 2), 3);
        due("unmap(0, 2, 3) again", x.unmap(0, 2, 3), 0);
        due("processes()", x.processes(), 3);
    }

    // Promise 8

    private static void moveOfEverySet() {
        for (int set = 0; set < 256; set++) {
            for (int from = 0; from < 8; from++) {
                for (int to = 0; to < 8; to++) {
                    for (int count = 1; count <= 8 - Math.max(from, to); count++) {
                        moveOf(set, from, count, to);
                    }
                }
            }
        }
    }

    private static PageSharer sharedSet(int set) {
        PageSharer x = one(8);
        x.swapOut(0, 2);
        x.swapOut(0, 5);
        x.fork(0);
        for (int v = 0; v < 8; v++) {
            if ((set >> v & 1) == 0) {
                x.unmap(1, v, 1);
            }
        }
        return x;
    }

    private static void moveOf(int set, int from, int count, int to) {
        PageSharer x = sharedSet(set);
        int olds = mask(from, count);
        int news = mask(to, count);
        boolean can = (set & olds) == olds && (set & news) == 0;
        String call = "move(1, " + from + ", " + count + ", " + to + ") of " + set;
        due(call, x.move(1, from, count, to), can);
        if (!can) {
            dueSame(call, x, sharedSet(set));
            return;
        }
        due(call + " mapped(1)", x.mapped(1), set & ~olds | news);
        due(call + " mapped(0)", x.mapped(0), 255);
        due(call + " pages", x.pages(), 8);
        due(call + " residentPages", x.residentPages(), 6);
        for (int i = 0; i < count; i++) {
            int old = from + i;
            due(call + " resident " + i, x.resident(1) >> (to + i) & 1, old == 2 || old == 5 ? 0 : 1);
            due(call + " mappers " + i, x.mappers(1, to + i), 1 << old | 1 << (8 + to + i));
        }
        for (int i = 0; i < count; i++) {
            due(call + " read " + i, x.read(1, to + i), from + i + 1);
        }
    }

    private static void moveOntoItself() {
        for (int from = 0; from < 8; from++) {
            for (int count = 1; count <= 8 - from; count++) {
                PageSharer x = one(8);
                due("move(0, " + from + ", " + count + ", " + from + ")", x.move(0, from, count, from), false);
                dueSame("move onto itself", x, one(8));
            }
        }
    }

    private static void moveOverlapping() {
        for (int count = 2; count < 8; count++) {
            PageSharer up = one(count);
            due("move(0, 0, " + count + ", 1)", up.move(0, 0, count, 1), false);
            dueSame("move up by one", up, one(count));
            PageSharer top = atTop(count);
            int from = 8 - count;
            due("move(0, " + from + ", " + count + ", " + (from - 1) + ")", top.move(0, from, count, from - 1), false);
            dueSame("move down by one", top, atTop(count));
        }
    }

    private static PageSharer atTop(int count) {
        PageSharer x = new PageSharer();
        x.spawn();
        x.map(0, 8 - count, count);
        return x;
    }

    private static void moveEndToEnd() {
        PageSharer x = one(4);
        due("move(0, 0, 4, 4)", x.move(0, 0, 4, 4), true);
        due("mapped(0) above", x.mapped(0), 0xf0);
        for (int i = 0; i < 4; i++) {
            due("read(0, " + (4 + i) + ")", x.read(0, 4 + i), i + 1);
        }
        due("move(0, 4, 4, 0)", x.move(0, 4, 4, 0), true);
        dueSame("move up and down", x, one(4));
        due("move(0, 0, 1, 7)", x.move(0, 0, 1, 7), true);
        due("read(0, 7)", x.read(0, 7), 1);
        due("read(0, 0)", x.read(0, 0), 0);
    }

    private static int moveFrom(PageSharer x, int p, int from, int count) {
        return bit(x.move(p, from, count, 4));
    }

    private static int moveFromToSame(PageSharer x, int p, int from, int count) {
        return bit(x.move(p, from, count, from));
    }

    private static int moveTo(PageSharer x, int p, int to, int count) {
        return bit(x.move(p, 0, count, to));
    }

    private static void moveOldAbove() {
        for (int from = 5; from < 8; from++) {
            PageSharer x = atTop(4);
            int count = 9 - from;
            due("move(0, " + from + ", " + count + ", 0)", x.move(0, from, count, 0), false);
            dueSame("move with an old place above 7", x, atTop(4));
        }
        placeAbove((x, p, from, count) -> bit(x.move(p, from, count, 0)), 0);
    }

    private static void moveNewAbove() {
        for (int to = 5; to < 8; to++) {
            PageSharer x = one(4);
            int count = 9 - to;
            due("move(0, 0, " + count + ", " + to + ")", x.move(0, 0, count, to), false);
            dueSame("move with a new place above 7", x, one(4));
        }
        placeAbove(EdgeTest::moveTo, 0);
    }

    private static void moveIgnoresOthers() {
        PageSharer x = one(8);
        x.spawn();
        x.map(1, 0, 1);
        due("move(1, 0, 1, 7) though place 7 of 0 is mapped", x.move(1, 0, 1, 7), true);
        due("move(1, 0, 1, 6) though place 0 of 0 is mapped", x.move(1, 0, 1, 6), false);
        due("mapped(0)", x.mapped(0), 255);
        due("mapped(1)", x.mapped(1), 128);
    }

    // Promise 9

    private static void readContents() {
        for (int content : CONTENTS) {
            PageSharer x = bare();
            for (int p = 0; p < 4; p++) {
                x.map(p, 0, 8);
                x.write(p, 0, content);
                x.write(p, 7, content);
                x.swapOut(p, 7);
                due("read(" + p + ", 0)", x.read(p, 0), content);
                due("read(" + p + ", 7) swapped out", x.read(p, 7), content);
                due("read(" + p + ", 7) again", x.read(p, 7), content);
            }
        }
    }

    private static void readBringsIn() {
        for (int reader = 0; reader < 4; reader++) {
            PageSharer x = one(2);
            for (int i = 0; i < 3; i++) {
                x.fork(0);
            }
            x.swapOut(0, 0);
            x.swapOut(0, 1);
            due("read(" + reader + ", 1)", x.read(reader, 1), 2);
            for (int p = 0; p < 4; p++) {
                due("resident(" + p + ") after read by " + reader, x.resident(p), 2);
            }
            due("residentPages()", x.residentPages(), 1);
            due("mappers(0, 1) stay", x.mappers(0, 1), 0x02020202);
        }
    }

    // Promise 10

    private static int write(PageSharer x, int p, int v) {
        return bit(x.write(p, v, 77));
    }

    private static void writeBringsInForAll() {
        for (int writer = 0; writer < 4; writer++) {
            PageSharer x = one(2);
            for (int i = 0; i < 3; i++) {
                x.fork(0);
            }
            x.swapOut(0, 0);
            x.swapOut(0, 1);
            due("write(" + writer + ", 1, 50)", x.write(writer, 1, 50), true);
            for (int p = 0; p < 4; p++) {
                due("resident(" + p + ") after write by " + writer, x.resident(p), 2);
            }
            due("pages()", x.pages(), 3);
            due("residentPages()", x.residentPages(), 2);
            for (int p = 0; p < 4; p++) {
                due("read(" + p + ", 1)", x.read(p, 1), p == writer ? 50 : 2);
                due("mappers(" + p + ", 1)", x.mappers(p, 1),
                    p == writer ? 2 << 8 * p : 0x02020202 & ~(2 << 8 * writer));
            }
        }
    }

    private static void writeAloneKeepsPage() {
        PageSharer x = one(1);
        x.swapOut(0, 0);
        due("write(0, 0, 5) swapped out", x.write(0, 0, 5), true);
        due("resident(0)", x.resident(0), 1);
        due("pages()", x.pages(), 1);
        due("read(0, 0)", x.read(0, 0), 5);
        due("write(0, 0, 6) resident", x.write(0, 0, 6), true);
        due("pages() still", x.pages(), 1);
        due("read(0, 0) still", x.read(0, 0), 6);
    }

    private static void writeAloneAmongEveryPage() {
        for (int written = 0; written < 32; written++) {
            PageSharer x = bare();
            for (int p = 0; p < 4; p++) {
                x.map(p, 0, 8);
            }
            due("write of place " + written, x.write(written / 8, written % 8, 50), true);
            due("pages()", x.pages(), 32);
            for (int place = 0; place < 32; place++) {
                due("read of place " + place, x.read(place / 8, place % 8), place == written ? 50 : 0);
                due("mappers of place " + place, x.mappers(place / 8, place % 8), 1 << place);
            }
        }
    }

    private static void writeAloneAgain(String how, Consumer<PageSharer> otherLeaves) {
        PageSharer x = one(1);
        x.fork(0);
        otherLeaves.accept(x);
        int pages = x.pages();
        due("write when the other " + how, x.write(0, 0, 9), true);
        due("pages() when the other " + how, x.pages(), pages);
        due("mappers(0, 0) when the other " + how, x.mappers(0, 0), 1);
        due("read(0, 0) when the other " + how, x.read(0, 0), 9);
    }

    private static void writeWhenOthersLeft() {
        writeAloneAgain("has ended", x -> x.exit(1));
        writeAloneAgain("has unmapped", x -> x.unmap(1, 0, 1));
        writeAloneAgain("has written", x -> x.write(1, 0, 4));
    }

    private static void writeSharedWithMovedPlace() {
        PageSharer x = one(1);
        x.fork(0);
        x.move(1, 0, 1, 7);
        due("write(0, 0, 9)", x.write(0, 0, 9), true);
        due("pages()", x.pages(), 2);
        due("read(1, 7)", x.read(1, 7), 1);
        due("mappers(1, 7)", x.mappers(1, 7), 1 << 15);
        due("mappers(0, 0)", x.mappers(0, 0), 1);
    }

    private static void writeOfSameContentParts() {
        PageSharer x = one(1);
        x.fork(0);
        due("write(1, 0, 1)", x.write(1, 0, 1), true);
        due("pages()", x.pages(), 2);
        due("mappers(1, 0)", x.mappers(1, 0), 1 << 8);
    }

    private static void writeContents() {
        for (int content : CONTENTS) {
            PageSharer x = one(8);
            due("write(0, 7, " + content + ") alone", x.write(0, 7, content), true);
            due("read(0, 7)", x.read(0, 7), content);
            x.fork(0);
            due("write(1, 0, " + content + ") shared", x.write(1, 0, content), true);
            due("read(1, 0)", x.read(1, 0), content);
            due("read(0, 0)", x.read(0, 0), 1);
        }
    }

    private static void writeUpToEveryPage() {
        for (int last = 0; last < 32; last++) {
            PageSharer x = one(8);
            for (int i = 0; i < 3; i++) {
                x.fork(0);
            }
            for (int i = 0; i < 32; i++) {
                int place = (last + 1 + i) % 32;
                x.write(place / 8, place % 8, 1000 + place);
            }
            due("pages() with last place " + last, x.pages(), 32);
            due("residentPages() with last place " + last, x.residentPages(), 32);
            for (int place = 0; place < 32; place++) {
                due("mappers of place " + place, x.mappers(place / 8, place % 8), 1 << place);
                due("read of place " + place, x.read(place / 8, place % 8), 1000 + place);
            }
        }
    }

    // Promise 11

    private static void swapOutCounts() {
        for (int forks = 0; forks < 4; forks++) {
            PageSharer x = one(8);
            for (int i = 0; i < forks; i++) {
                x.fork(0);
            }
            for (int v = 0; v < 8; v++) {
                due("swapOut(" + forks + ", " + v + ")", x.swapOut(forks, v), forks + 1);
                due("resident(0)", x.resident(0), 255 & ~mask(0, v + 1));
                due("resident(" + forks + ")", x.resident(forks), 255 & ~mask(0, v + 1));
            }
            due("pages()", x.pages(), 8);
            due("mapped(0)", x.mapped(0), 255);
            due("read(0, 7)", x.read(0, 7), 8);
        }
    }

    private static void swapOutAlready() {
        PageSharer x = one(2);
        x.fork(0);
        PageSharer twin = one(2);
        twin.fork(0);
        twin.swapOut(0, 0);
        due("swapOut(0, 0)", x.swapOut(0, 0), 2);
        due("swapOut(0, 0) already", x.swapOut(0, 0), 0);
        due("swapOut(1, 0) already, by the other place", x.swapOut(1, 0), 0);
        dueSame("swapOut of a page that is out", x, twin);
    }

    private static void swapOutAfterBringingIn() {
        PageSharer x = one(1);
        x.swapOut(0, 0);
        x.read(0, 0);
        due("swapOut after a read", x.swapOut(0, 0), 1);
        x.write(0, 0, 3);
        due("swapOut after a write", x.swapOut(0, 0), 1);
        x.fork(0);
        due("swapOut after a fork", x.swapOut(1, 0), 0);
        x.write(1, 0, 4);
        due("swapOut of the old page after a write", x.swapOut(0, 0), 1);
        due("swapOut of the new page after a write", x.swapOut(1, 0), 1);
    }

    // Promises 12 to 16

    private static void mappersOfEveryPlace() {
        for (int v = 0; v < 8; v++) {
            PageSharer x = one(8);
            for (int i = 0; i < 3; i++) {
                x.fork(0);
            }
            for (int p = 0; p < 4; p++) {
                due("mappers(" + p + ", " + v + ")", x.mappers(p, v), 0x01010101 << v);
            }
            x.write(3, v, 0);
            due("mappers(3, " + v + ") alone", x.mappers(3, v), 1 << (24 + v));
            due("mappers(0, " + v + ") without it", x.mappers(0, v), 0x00010101 << v);
        }
        PageSharer x = bare();
        x.map(3, 7, 1);
        due("mappers(3, 7), the sign's bit", x.mappers(3, 7), MIN);
    }

    /** Each answer comes from an object of its own: a look by seen itself would hide what the look has done. */
    private static void lookChangesNothing(OfPlace look) {
        List<OfPlace> calls = List.of(
            (x, p, v) -> x.processes(), (x, p, v) -> x.mapped(p), (x, p, v) -> x.resident(p), PageSharer::mappers,
            (x, p, v) -> x.pages(), (x, p, v) -> x.residentPages(), PageSharer::read, PageSharer::swapOut);
        for (State s : STATES) {
            for (int i = 0; i < calls.size(); i++) {
                for (int place = 0; place < 32; place++) {
                    PageSharer x = s.maker().get();
                    for (int looked = 0; looked < 32; looked++) {
                        look.answer(x, looked / 8, looked % 8);
                    }
                    OfPlace call = calls.get(i);
                    int want = call.answer(s.maker().get(), place / 8, place % 8);
                    due(s.name() + " object, call " + i + " at place " + place,
                        call.answer(x, place / 8, place % 8), want);
                }
            }
        }
    }

    private static void mappedOfEverySet() {
        for (int set = 0; set < 256; set++) {
            due("mapped(1)", sharedSet(set).mapped(1), set);
        }
        for (int p = 0; p < 4; p++) {
            due("mapped(" + p + ") of none", bare().mapped(p), 0);
            due("mapped(" + p + ") of all", full().mapped(p), 255);
        }
    }

    private static void residentOfEverySet() {
        for (int set = 0; set < 256; set++) {
            PageSharer x = one(8);
            x.fork(0);
            for (int v = 0; v < 8; v++) {
                if ((set >> v & 1) == 0) {
                    x.swapOut(v % 2, v);
                }
            }
            due("resident(0)", x.resident(0), set);
            due("resident(1)", x.resident(1), set);
            due("mapped(0)", x.mapped(0), 255);
            due("residentPages()", x.residentPages(), Integer.bitCount(set));
            x.unmap(1, 0, 4);
            due("resident(1) of the rest", x.resident(1), set & 0xf0);
        }
    }

    private static void pagesFromNoneToAll() {
        PageSharer x = bare();
        for (int place = 0; place < 32; place++) {
            due("pages()", x.pages(), place);
            x.map(place / 8, place % 8, 1);
        }
        due("pages() at the most", x.pages(), 32);
        for (int place = 0; place < 32; place++) {
            x.swapOut(place / 8, place % 8);
        }
        due("pages() all swapped out", x.pages(), 32);
        for (int place = 0; place < 32; place++) {
            x.unmap(place / 8, place % 8, 1);
            due("pages() on the way down", x.pages(), 31 - place);
        }
    }

    private static void pagesCountSharedOnce() {
        PageSharer x = one(8);
        for (int i = 0; i < 3; i++) {
            x.fork(0);
            due("pages()", x.pages(), 8);
            due("residentPages()", x.residentPages(), 8);
        }
    }

    private static void residentPagesFromAllToNone() {
        PageSharer x = bare();
        for (int p = 0; p < 4; p++) {
            x.map(p, 0, 8);
        }
        for (int place = 0; place < 32; place++) {
            due("residentPages()", x.residentPages(), 32 - place);
            x.swapOut(place / 8, place % 8);
        }
        due("residentPages() of none", x.residentPages(), 0);
        x.read(3, 7);
        due("residentPages() of one", x.residentPages(), 1);
    }

    private static void residentPagesOnlyThoseThere() {
        PageSharer x = one(8);
        x.swapOut(0, 0);
        x.unmap(0, 1, 3);
        due("residentPages() less three", x.residentPages(), 4);
        x.unmap(0, 0, 1);
        due("residentPages() less one swapped out", x.residentPages(), 4);
        x.exit(0);
        due("residentPages() of none", x.residentPages(), 0);
    }

    private static void whatItIsAndTerms() {
        test("What it is, 'at most 512 calls': the 512th still counts", EdgeTest::the512thCallCounts);
        test("LANGUAGE 7: calls after the 512th still end", EdgeTest::laterCallsEnd);
        test("Terms, 'A page is there as long as some place is backed by it'", EdgeTest::pageStaysWhileBacked);
        test("Terms, 'Several places .. can be backed by the same page'", EdgeTest::samePageOfDifferentPlaces);
    }

    private static void promises1To5() {
        test("1 'No processes'", EdgeTest::newHasNoProcesses);
        test("1 a new object has nothing of another", EdgeTest::objectsAreApart);
        test("2 'with all places unmapped'", EdgeTest::spawnUnmapped);
        test("2 'the least that no process has'", EdgeTest::spawnTakesLeast);
        test("2 'FULL when four are there'", EdgeTest::spawnFull);
        test("3 'mapped as those of process p are, each backed by the same page'", EdgeTest::forkMapsAlike);
        test("3 'the least that no process has'", EdgeTest::forkTakesLeast);
        test("3 a fork takes the number of its ended parent", EdgeTest::forkOfFork);
        test("3 'NONE when there is no process p'", () -> noProcess(PageSharer::fork, NONE));
        test("3 'NONE ..; then FULL'", EdgeTest::forkNoneBeforeFull);
        test("3 'FULL when four are there'", EdgeTest::forkFull);
        test("4 'its places are unmapped'", EdgeTest::exitUnmaps);
        test("4 the only process ends", EdgeTest::exitOfLastAndOnly);
        test("4 'false when there is no process p'", () -> noProcess((x, p) -> bit(x.exit(p)), 0));
        test("4 'false when there is no process p': it has ended", EdgeTest::exitTwice);
        test("5 'bit p for process p'", EdgeTest::processesOfEverySet);
        test("5 a look changes nothing", () -> lookChangesNothing((x, p, v) -> x.processes()));
    }

    private static void promise6() {
        test("6 'Maps the places'", EdgeTest::mapEveryRange);
        test("6 'a new resident page with content 0'", EdgeTest::mapAnewIsZeroAndResident);
        test("6 'there is no process p'", () -> {
            noProcess((x, p) -> map(x, p, 0, 1), 0);
            noProcess((x, p) -> map(x, p, 0, 8), 0);
            noProcess((x, p) -> map(x, p, 7, 1), 0);
        });
        test("6 'count is not 1 .. 8': too small", () -> countTooSmall(EdgeTest::map, 0));
        test("6 'count is not 1 .. 8': too large", () -> countTooLarge(EdgeTest::map, 0));
        test("6 'from is not 0 .. 7': too small", () -> fromTooSmall(EdgeTest::map, 0));
        test("6 'from is not 0 .. 7': too large", () -> fromTooLarge(EdgeTest::map, 0));
        test("6 'a place would be above 7'", () -> placeAbove(EdgeTest::map, 0));
        test("6 'a place would be above 7': the sum wraps around", () -> sumWrapsAround(EdgeTest::map, 0));
        test("6 'or one of them is mapped'", EdgeTest::mapOverOneMapped);
        test("6 'or one of them is mapped': only one beside them is", EdgeTest::mapBesideOneMapped);
    }

    private static void promise7() {
        test("7 'those .. that are mapped. Answers how many were'", EdgeTest::unmapOfEverySet);
        test("7 'how many were': none", EdgeTest::unmapOfNoneMapped);
        test("7 the places of others stay", EdgeTest::unmapLeavesOthers);
        test("7 'there is no process p'", () -> {
            noProcess((x, p) -> x.unmap(p, 0, 1), NONE);
            noProcess((x, p) -> x.unmap(p, 0, 8), NONE);
            noProcess((x, p) -> x.unmap(p, 7, 1), NONE);
        });
        test("7 'count is not 1 .. 8': too small", () -> countTooSmall(PageSharer::unmap, NONE));
        test("7 'count is not 1 .. 8': too large", () -> countTooLarge(PageSharer::unmap, NONE));
        test("7 'from is not 0 .. 7': too small", () -> fromTooSmall(PageSharer::unmap, NONE));
        test("7 'from is not 0 .. 7': too large", () -> fromTooLarge(PageSharer::unmap, NONE));
        test("7 'a place would be above 7'", () -> placeAbove(PageSharer::unmap, NONE));
        test("7 'a place would be above 7': the sum wraps around", () -> sumWrapsAround(PageSharer::unmap, NONE));
    }

    private static void promise8() {
        test("8 'some old place is unmapped, or some new place is mapped'", EdgeTest::moveOfEverySet);
        test("8 'some new place is mapped': from is to", EdgeTest::moveOntoItself);
        test("8 'some new place is mapped': the places overlap", EdgeTest::moveOverlapping);
        test("8 'in their order': from one end to the other", EdgeTest::moveEndToEnd);
        test("8 the places of others don't matter", EdgeTest::moveIgnoresOthers);
        test("8 'there is no process p'", () -> {
            noProcess((x, p) -> bit(x.move(p, 0, 1, 4)), 0);
            noProcess((x, p) -> bit(x.move(p, 6, 1, 7)), 0);
        });
        test("8 'count is not 1 .. 8': too small", () -> countTooSmall(EdgeTest::moveFrom, 0));
        test("8 'count is not 1 .. 8': too large", () -> {
            countTooLarge(EdgeTest::moveFrom, 0);
            countTooLarge(EdgeTest::moveFromToSame, 0);
        });
        test("8 'from .. is not 0 .. 7': too small", () -> fromTooSmall(EdgeTest::moveFrom, 0));
        test("8 'from .. is not 0 .. 7': too large", () -> fromTooLarge(EdgeTest::moveFrom, 0));
        test("8 'to is not 0 .. 7': too small", () -> fromTooSmall(EdgeTest::moveTo, 0));
        test("8 'to is not 0 .. 7': too large", () -> fromTooLarge(EdgeTest::moveTo, 0));
        test("8 'from or to is not 0 .. 7': both", () -> {
            fromTooSmall(EdgeTest::moveFromToSame, 0);
            fromTooLarge(EdgeTest::moveFromToSame, 0);
        });
        test("8 'a place would be above 7': an old one", EdgeTest::moveOldAbove);
        test("8 'a place would be above 7': a new one", EdgeTest::moveNewAbove);
        test("8 'a place would be above 7': the sum wraps around", () -> {
            sumWrapsAround(EdgeTest::moveFrom, 0);
            sumWrapsAround(EdgeTest::moveTo, 0);
        });
    }

    private static void promises9To11() {
        test("9 'The content of the page'", EdgeTest::readContents);
        test("9 'the page is resident afterwards'", EdgeTest::readBringsIn);
        test("9 'the place is unmapped'", () -> unmappedPlace(PageSharer::read, 0));
        test("9 'there is no process p'", () -> noProcessOfPlace(PageSharer::read, 0));
        test("9 'v is not 0 .. 7'", () -> noPlace(PageSharer::read, 0));
        test("10 'resident from now on, for all places that it backs'", EdgeTest::writeBringsInForAll);
        test("10 'when no other place is backed by that page'", EdgeTest::writeAloneKeepsPage);
        test("10 'when no other place is backed by that page': all 32 there", EdgeTest::writeAloneAmongEveryPage);
        test("10 'when no other place is backed by that page': any more", EdgeTest::writeWhenOthersLeft);
        test("10 'otherwise': another place's number differs", EdgeTest::writeSharedWithMovedPlace);
        test("10 'otherwise': the content is the same", EdgeTest::writeOfSameContentParts);
        test("10 'its content becomes x': every kind of int", EdgeTest::writeContents);
        test("10 'a new resident page': up to 32 of them", EdgeTest::writeUpToEveryPage);
        test("10 'the place is unmapped'", () -> unmappedPlace(EdgeTest::write, 0));
        test("10 'there is no process p'", () -> noProcessOfPlace(EdgeTest::write, 0));
        test("10 'v is not 0 .. 7'", () -> noPlace(EdgeTest::write, 0));
        test("11 'the number of places that it backs'", EdgeTest::swapOutCounts);
        test("11 '0 when it was swapped out already'", EdgeTest::swapOutAlready);
        test("11 'when it was resident': again", EdgeTest::swapOutAfterBringingIn);
        test("11 'NONE when the place is unmapped'", () -> unmappedPlace(PageSharer::swapOut, NONE));
        test("11 'there is no process p'", () -> noProcessOfPlace(PageSharer::swapOut, NONE));
        test("11 'v is not 0 .. 7'", () -> noPlace(PageSharer::swapOut, NONE));
    }

    private static void promises12To16() {
        test("12 'bit 8 * q + w for place w of process q'", EdgeTest::mappersOfEveryPlace);
        test("12 '0 when the place is unmapped'", () -> unmappedPlace(PageSharer::mappers, 0));
        test("12 'there is no process p'", () -> noProcessOfPlace(PageSharer::mappers, 0));
        test("12 'v is not 0 .. 7'", () -> noPlace(PageSharer::mappers, 0));
        test("12 a look changes nothing", () -> lookChangesNothing(PageSharer::mappers));
        test("13 'bit v for place v'", EdgeTest::mappedOfEverySet);
        test("13 '0 when there is no process p'", () -> noProcess(PageSharer::mapped, 0));
        test("13 a look changes nothing", () -> lookChangesNothing((x, p, v) -> x.mapped(p)));
        test("14 'bit v for place v'", EdgeTest::residentOfEverySet);
        test("14 '0 when there is no process p'", () -> noProcess(PageSharer::resident, 0));
        test("14 a look changes nothing", () -> lookChangesNothing((x, p, v) -> x.resident(p)));
        test("15 'that are there': none to all", EdgeTest::pagesFromNoneToAll);
        test("15 a shared page counts once", EdgeTest::pagesCountSharedOnce);
        test("15 a look changes nothing", () -> lookChangesNothing((x, p, v) -> x.pages()));
        test("16 'and resident': all to none", EdgeTest::residentPagesFromAllToNone);
        test("16 'that are there'", EdgeTest::residentPagesOnlyThoseThere);
        test("16 a look changes nothing", () -> lookChangesNothing((x, p, v) -> x.residentPages()));
    }

    public static void main(String[] args) {
        whatItIsAndTerms();
        promises1To5();
        promise6();
        promise7();
        promise8();
        promises9To11();
        promises12To16();
        System.out.println(wrong == 0 ? "all sentences hold" : wrong + " answers are not as due");
        if (wrong != 0) {
            System.exit(1);
        }
    }
}
