import java.util.ArrayList;
import java.util.HashSet;
import java.util.List;
import java.util.Set;

/** Long runs of mixed calls, each answer held against a model of the document made of page objects. */
public final class ModelTest {
    private static final int RUNS = 3000;
    // The document promises nothing after the 512th call.
    private static final int CALLS = 512;

    private static final class Page {
        int content;
        boolean resident = true;

        Page(int content) {
            this.content = content;
        }
    }

    /** Written from the document alone; a boolean counts 1 or 0. */
    private static final class Model {
        private final Page[][] places = new Page[4][];

        private boolean has(int p) {
            return 0 <= p && p <= 3 && places[p] != null;
        }

        private Page at(int p, int v) {
            return has(p) && 0 <= v && v <= 7 ? places[p][v] : null;
        }

        private boolean fits(int p, int from, int count) {
            return has(p) && 1 <= count && count <= 8 && 0 <= from && from <= 7 && from + count - 1 <= 7;
        }

        private int begin(Page[] start) {
            for (int p = 0; p < 4; p++) {
                if (places[p] == null) {
                    places[p] = start;
                    return p;
                }
            }
            return PageSharer.FULL;
        }

        private int mask(Page page) {
            int bits = 0;
            for (int place = 0; place < 32; place++) {
                if (page != null && at(place / 8, place % 8) == page) {
                    bits |= 1 << place;
                }
            }
            return bits;
        }

        private Set<Page> all() {
            Set<Page> all = new HashSet<>();
            for (int place = 0; place < 32; place++) {
                all.add(at(place / 8, place % 8));
            }
            all.remove(null);
            return all;
        }

        private int map(int p, int from, int count) {
            if (!fits(p, from, count)) {
                return 0;
            }
            for (int v = from; v < from + count; v++) {
                if (places[p][v] != null) {
                    return 0;
                }
            }
            for (int v = from; v < from + count; v++) {
                places[p][v] = new Page(0);
            }
            return 1;
        }

        private int unmap(int p, int from, int count) {
            if (!fits(p, from, count)) {
                return PageSharer.NONE;
            }
            int were = 0;
            for (int v = from; v < from + count; v++) {
                were += places[p][v] != null ? 1 : 0;
                places[p][v] = null;
            }
            return were;
        }

        private int move(int p, int from, int count, int to) {
            if (!fits(p, from, count) || !fits(p, to, count)) {
                return 0;
            }
            List<Page> moved = new ArrayList<>();
            for (int i = 0; i < count; i++) {
                if (places[p][from + i] == null || places[p][to + i] != null) {
                    return 0;
                }
                moved.add(places[p][from + i]);
            }
            for (int i = 0; i < count; i++) {
                places[p][from + i] = null;
            }
            for (int i = 0; i < count; i++) {
                places[p][to + i] = moved.get(i);
            }
            return 1;
        }

        private int read(int p, int v) {
            Page page = at(p, v);
            if (page == null) {
                return 0;
            }
            page.resident = true;
            return page.content;
        }

        private int write(int p, int v, int x) {
            Page page = at(p, v);
            if (page == null) {
                return 0;
            }
            page.resident = true;
            if (Integer.bitCount(mask(page)) == 1) {
                page.content = x;
            } else {
                places[p][v] = new Page(x);
            }
            return 1;
        }

        private int swapOut(int p, int v) {
            Page page = at(p, v);
            if (page == null) {
                return PageSharer.NONE;
            }
            int answer = page.resident ? Integer.bitCount(mask(page)) : 0;
            page.resident = false;
            return answer;
        }

        private int exit(int p) {
            if (!has(p)) {
                return 0;
            }
            places[p] = null;
            return 1;
        }

        private int placeBits(int p, boolean residentOnly) {
            int bits = 0;
            for (int v = 0; v < 8; v++) {
                Page page = at(p, v);
                if (page != null && (page.resident || !residentOnly)) {
                    bits |= 1 << v;
                }
            }
            return bits;
        }

        private int processes() {
            int bits = 0;
            for (int p = 0; p < 4; p++) {
                bits |= has(p) ? 1 << p : 0;
            }
            return bits;
        }

        int answer(int kind, int p, int a, int b, int c) {
            switch (kind) {
                case 0: return begin(new Page[8]);
                case 1: return has(p) ? begin(places[p].clone()) : PageSharer.NONE;
                case 2: return exit(p);
                case 3: return processes();
                case 4: return map(p, a, b);
                case 5: return unmap(p, a, b);
                case 6: return move(p, a, b, c);
                case 7: return read(p, a);
                case 8: return write(p, a, c);
                case 9: return swapOut(p, a);
                case 10: return mask(at(p, a));
                case 11: return placeBits(p, false);
                case 12: return placeBits(p, true);
                case 13: return all().size();
                default: return (int) all().stream().filter(page -> page.resident).count();
            }
        }
    }

    private static int answer(PageSharer x, int kind, int p, int a, int b, int c) {
        switch (kind) {
            case 0: return x.spawn();
            case 1: return x.fork(p);
            case 2: return x.exit(p) ? 1 : 0;
            case 3: return x.processes();
            case 4: return x.map(p, a, b) ? 1 : 0;
            case 5: return x.unmap(p, a, b);
            case 6: return x.move(p, a, b, c) ? 1 : 0;
            case 7: return x.read(p, a);
            case 8: return x.write(p, a, c) ? 1 : 0;
            case 9: return x.swapOut(p, a);
            case 10: return x.mappers(p, a);
            case 11: return x.mapped(p);
            case 12: return x.resident(p);
            case 13: return x.pages();
            default: return x.residentPages();
        }
    }

    private static final int EXIT = 2;
    private static final int MAP = 4;
    private static final int UNMAP = 5;
    private static final int MOVE = 6;
    private static final int WRITE = 8;

    private static String text(int kind, int p, int a, int b, int c) {
        switch (kind) {
            case 0: return "spawn()";
            case 1: return "fork(" + p + ")";
            case 2: return "exit(" + p + ")";
            case 3: return "processes()";
            case 4: return "map(" + p + ", " + a + ", " + b + ")";
            case 5: return "unmap(" + p + ", " + a + ", " + b + ")";
            case 6: return "move(" + p + ", " + a + ", " + b + ", " + c + ")";
            case 7: return "read(" + p + ", " + a + ")";
            case 8: return "write(" + p + ", " + a + ", " + c + ")";
            case 9: return "swapOut(" + p + ", " + a + ")";
            case 10: return "mappers(" + p + ", " + a + ")";
            case 11: return "mapped(" + p + ")";
            case 12: return "resident(" + p + ")";
            case 13: return "pages()";
            default: return "residentPages()";
        }
    }

    // The chances keep processes and pages alive long enough to be shared.
    private static final int[] KINDS = {0, 1, 1, 1, 2, 3, 4, 4, 4, 5, 6, 6, 6, 6, 7, 7, 7, 8, 8, 8, 8, 8, 9, 9, 9, 9,
        10, 10, 10, 11, 12, 12, 12, 13, 13, 14, 14};

    private static final int[] ODD = {-1, -2, 0, 4, 8, 9, 16, 31, 32, Integer.MIN_VALUE, Integer.MAX_VALUE};

    // A fixed sequence, so that a run that fails fails again.
    private static long seed = 20261115L;

    private static int next(int bound) {
        seed = seed * 6364136223846793005L + 1442695040888963407L;
        return (int) ((seed >>> 33) % bound);
    }

    private static int nextOrOdd(int least, int most) {
        return next(25) == 0 ? ODD[next(ODD.length)] : least + next(most - least + 1);
    }

    private static int nextKind(int run) {
        int kind = KINDS[next(KINDS.length)];
        // Every second run keeps its places and fills the rest, to come near the most pages there can be.
        boolean turns = kind == EXIT || kind == UNMAP || kind == MOVE;
        return run % 2 == 0 && turns && next(40) != 0 ? (next(2) == 0 ? MAP : WRITE) : kind;
    }

    private static boolean runPasses(int run) {
        PageSharer x = new PageSharer();
        Model model = new Model();
        for (int call = 1; call <= CALLS; call++) {
            int kind = nextKind(run);
            int p = nextOrOdd(0, 3);
            int a = nextOrOdd(0, 7);
            int b = nextOrOdd(1, next(2) == 0 ? 2 : 8);
            int c = nextOrOdd(0, 7);
            int got = answer(x, kind, p, a, b, c);
            int want = model.answer(kind, p, a, b, c);
            if (got != want) {
                System.out.println("run " + run + ", call " + call + ": " + text(kind, p, a, b, c)
                    + " answered " + got + ", due is " + want);
                return false;
            }
        }
        return true;
    }

    public static void main(String[] args) {
        int wrong = 0;
        for (int run = 1; run <= RUNS; run++) {
            wrong += runPasses(run) ? 0 : 1;
        }
        System.out.println(wrong == 0 ? "all runs are as due" : wrong + " runs are not as due");
        if (wrong != 0) {
            System.exit(1);
        }
    }
}
