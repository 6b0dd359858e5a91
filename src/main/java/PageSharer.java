/** Shares pages between processes that fork, until one of them writes. */
public final class PageSharer {
    public static final int NONE = -1;
    public static final int FULL = -2;

    private static final int PROCESSES = 4;
    private static final int PLACES_EACH = 8;
    private static final int PLACES = PROCESSES * PLACES_EACH;
    // A page is there only while it backs a place, so there are never more pages than places.
    private static final int PAGES = PLACES;
    private static final int NO_PAGE = -1;

    private final boolean[] begun = new boolean[PROCESSES];
    // The only record of who shares what: whether a page is there, and whom it backs, is read off it.
    private final int[] pageAt = new int[PLACES];
    private final int[] content = new int[PAGES];
    private final boolean[] inMemory = new boolean[PAGES];

    public PageSharer() {
        for (int place = 0; place < PLACES; place++) {
            pageAt[place] = NO_PAGE;
        }
    }

    public int spawn() {
        int number = freeProcess();
        if (number >= 0) {
            begun[number] = true;
        }
        return number;
    }

    public int fork(int p) {
        if (!isProcess(p)) {
            return NONE;
        }
        int child = freeProcess();
        if (child < 0) {
            return FULL;
        }
        begun[child] = true;
        for (int v = 0; v < PLACES_EACH; v++) {
            pageAt[PLACES_EACH * child + v] = pageAt[PLACES_EACH * p + v];
        }
        return child;
    }

    public boolean exit(int p) {
        if (!isProcess(p)) {
            return false;
        }
        // A later process with this number begins with all places unmapped because of this.
        for (int v = 0; v < PLACES_EACH; v++) {
            pageAt[PLACES_EACH * p + v] = NO_PAGE;
        }
        begun[p] = false;
        return true;
    }

    public int processes() {
        int bits = 0;
        for (int p = 0; p < PROCESSES; p++) {
            if (begun[p]) {
                bits |= 1 << p;
            }
        }
        return bits;
    }

    public boolean map(int p, int from, int count) {
        if (!isProcess(p) || !isRange(from, count)) {
            return false;
        }
        int first = PLACES_EACH * p + from;
        if (countMapped(first, count) != 0) {
            return false;
        }
        for (int i = 0; i < count; i++) {
            backByNewPage(first + i, 0);
        }
        return true;
    }

    public int unmap(int p, int from, int count) {
        if (!isProcess(p) || !isRange(from, count)) {
            return NONE;
        }
        int first = PLACES_EACH * p + from;
        int were = countMapped(first, count);
        for (int i = 0; i < count; i++) {
            pageAt[first + i] = NO_PAGE;
        }
        return were;
    }

    public boolean move(int p, int from, int count, int to) {
        if (!isProcess(p) || !isRange(from, count) || !isRange(to, count)) {
            return false;
        }
        int oldFirst = PLACES_EACH * p + from;
        int newFirst = PLACES_EACH * p + to;
        // Ranges that overlap are refused here too: a place of both would have to be mapped and unmapped.
        if (countMapped(oldFirst, count) != count || countMapped(newFirst, count) != 0) {
            return false;
        }
        for (int i = 0; i < count; i++) {
            pageAt[newFirst + i] = pageAt[oldFirst + i];
            pageAt[oldFirst + i] = NO_PAGE;
        }
        return true;
    }

    public int read(int p, int v) {
        int page = pageBacking(p, v);
        if (page < 0) {
            return 0;
        }
        inMemory[page] = true;
        return content[page];
    }

    public boolean write(int p, int v, int x) {
        int page = pageBacking(p, v);
        if (page < 0) {
            return false;
        }
        // Before the page is parted from: the places that keep it find it resident too.
        inMemory[page] = true;
        int place = PLACES_EACH * p + v;
        if (placesBackedBy(page) == 1 << place) {
            content[page] = x;
        } else {
            backByNewPage(place, x);
        }
        return true;
    }

    public int swapOut(int p, int v) {
        int page = pageBacking(p, v);
        if (page < 0) {
            return NONE;
        }
        if (!inMemory[page]) {
            return 0;
        }
        inMemory[page] = false;
        int places = placesBackedBy(page);
        return countBits(places);
    }

    public int mappers(int p, int v) {
        int page = pageBacking(p, v);
        return page < 0 ? 0 : placesBackedBy(page);
    }

    public int mapped(int p) {
        int bits = 0;
        for (int v = 0; v < PLACES_EACH; v++) {
            if (pageBacking(p, v) >= 0) {
                bits |= 1 << v;
            }
        }
        return bits;
    }

    public int resident(int p) {
        int bits = 0;
        for (int v = 0; v < PLACES_EACH; v++) {
            int page = pageBacking(p, v);
            if (page >= 0 && inMemory[page]) {
                bits |= 1 << v;
            }
        }
        return bits;
    }

    public int pages() {
        int there = 0;
        for (int page = 0; page < PAGES; page++) {
            if (placesBackedBy(page) != 0) {
                there++;
            }
        }
        return there;
    }

    public int residentPages() {
        int there = 0;
        for (int page = 0; page < PAGES; page++) {
            // A page that is gone may have been resident when it went.
            if (placesBackedBy(page) != 0 && inMemory[page]) {
                there++;
            }
        }
        return there;
    }

    private boolean isProcess(int p) {
        return p >= 0 && p < PROCESSES && begun[p];
    }

    private static boolean isRange(int from, int count) {
        // Each number is bounded before the sum is made, so that it can't wrap around.
        return count >= 1 && count <= PLACES_EACH
            && from >= 0 && from < PLACES_EACH
            && from + count <= PLACES_EACH;
    }

    private int freeProcess() {
        for (int p = 0; p < PROCESSES; p++) {
            if (!begun[p]) {
                return p;
            }
        }
        return FULL;
    }

    private int pageBacking(int p, int v) {
        if (!isProcess(p) || v < 0 || v >= PLACES_EACH) {
            return NO_PAGE;
        }
        return pageAt[PLACES_EACH * p + v];
    }

    private int placesBackedBy(int page) {
        int bits = 0;
        for (int place = 0; place < PLACES; place++) {
            if (pageAt[place] == page) {
                bits |= 1 << place;
            }
        }
        return bits;
    }

    private int countMapped(int first, int count) {
        int found = 0;
        for (int i = 0; i < count; i++) {
            if (pageAt[first + i] >= 0) {
                found++;
            }
        }
        return found;
    }

    private void backByNewPage(int place, int x) {
        int page = freePage();
        content[page] = x;
        inMemory[page] = true;
        pageAt[place] = page;
    }

    private int freePage() {
        // The place that asks is unmapped or shares its page, so the others back at most 31 pages
        // and one is always free: when it is none of those before, it is the last.
        int page = 0;
        while (page < PAGES - 1 && placesBackedBy(page) != 0) {
            page++;
        }
        return page;
    }

    private static int countBits(int bits) {
        int count = 0;
        for (int i = 0; i < PLACES; i++) {
            count += (bits >>> i) & 1;
        }
        return count;
    }
}
