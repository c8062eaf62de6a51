import java.util.Arrays;

/** Reads ticked sheets: scans of darkness, forms told as texts, answers judged, a pile of sheets. */
public final class SheetReader {
    public static final int NONE = -1;

    private static final int NOT_MARKED = -2;
    private static final int NOT_SO_MANY = -2;
    private static final int BADLY_TOLD = -2;
    private static final int PILE_IS_FULL = -3;
    private static final int NOT_JUDGED = -1000;
    private static final int NO_SHEET = -1000000;
    private static final int NOTHING = Integer.MIN_VALUE;

    private static final int SIDE_LEAST = 8;
    private static final int SIDE_MOST = 40;
    private static final int DOTS_MOST = 1600;
    private static final int DARKEST = 9;
    private static final int TAPE_MOST = 480;
    private static final int TEXT_MOST = 400;
    private static final int QUESTIONS_MOST = 12;
    private static final int BOXES_MOST = 6;
    private static final int ALL_BOXES_MOST = 72;
    private static final int SHEETS_MOST = 16;
    private static final int CORNERS = 4;
    private static final int DRAWERS = 3;
    private static final int NOISE_MOST = 500;
    private static final int MARGIN_MOST = 200;

    private static final int LEVEL = 0;
    private static final int SPECK = 1;
    private static final int MARK = 2;
    private static final int MARGIN = 3;
    private static final int CLEAR = 4;
    private static final int RUBBED = 5;
    private static final int PENALTY = 6;
    private static final int SETTINGS = 7;
    private static final int[] SETTING_LEAST = {1, 1, 1, 1, 0, 0, 0};
    private static final int[] SETTING_MOST = {9, 20, 60, 200, 200, 200, 20};

    private static final int DOUBTFUL = 1;
    private static final int DOUBLE = 2;

    private final int[] tape = new int[TAPE_MOST];
    private int tapeLength;
    private Scan scan = new Scan();
    private Scan spare = new Scan();
    private final Scan[] drawers = new Scan[DRAWERS];
    private Form form = new Form();
    private Form draft = new Form();
    private final FormText formText = new FormText();
    private int drawn = 1;
    private final int[] cornerX = new int[CORNERS];
    private final int[] cornerY = new int[CORNERS];
    private final int[] told = new int[QUESTIONS_MOST];
    private final Judge judge = new Judge();
    private final Pile pile = new Pile();

    public SheetReader() {
        for (int i = 0; i < DRAWERS; i++) {
            drawers[i] = new Scan();
        }
        for (int k = 0; k < CORNERS; k++) {
            cornerX[k] = k % 2 == 0 ? 3 : 20;
            cornerY[k] = k / 2 == 0 ? 3 : 20;
        }
        scan.empty(24, 24);
    }

    public int feed(int a, int b, int c, int d, int e) {
        if (tapeLength + 20 > TAPE_MOST) {
            return NONE;
        }
        putOnTape(a);
        putOnTape(b);
        putOnTape(c);
        putOnTape(d);
        putOnTape(e);
        return tapeLength;
    }

    public int form(int n) {
        if (n < 1 || n > TEXT_MOST || n > tapeLength) {
            return NONE;
        }
        tapeLength = 0;
        int fault = formText.read(tape, n, draft);
        if (fault != 0) {
            return fault;
        }
        Form before = form;
        form = draft;
        draft = before;
        Arrays.fill(told, 0);
        pile.sheets = 0;
        return form.questions;
    }

    public int count(int what) {
        switch (what) {
            case 0: return scan.wide;
            case 1: return scan.high;
            case 2: return form.questions;
            case 3: return form.boxes;
            case 4: return form.wide;
            case 5: return form.high;
            case 6: return tapeLength;
            case 7: return drawn;
            case 8: return pile.sheets;
            case 9: return scan.notBelow(judge.settings[LEVEL]);
            case 10: return scan.sumNotBelow(0);
            default: return NONE;
        }
    }

    public int question(int q, int what) {
        if (!form.hasQuestion(q)) {
            return NONE;
        }
        switch (what) {
            case 0: return form.many[q] ? 2 : 1;
            case 1: return form.boxesOf[q];
            case 2: return form.keys[q];
            case 3: return form.worths[q];
            default: break;
        }
        if (what >= 10 && what < 20 && form.hasBox(q, what - 10)) {
            return form.boxX[form.firstOf[q] + what - 10];
        }
        if (what >= 20 && what < 30 && form.hasBox(q, what - 20)) {
            return form.boxY[form.firstOf[q] + what - 20];
        }
        return NONE;
    }

    public int set(int k, int v) {
        if (k < 0 || k >= SETTINGS || v < SETTING_LEAST[k] || v > SETTING_MOST[k]) {
            return NONE;
        }
        int before = judge.settings[k];
        judge.settings[k] = v;
        return before;
    }

    public boolean blank(int w, int h) {
        if (w < SIDE_LEAST || w > SIDE_MOST || h < SIDE_LEAST || h > SIDE_MOST) {
            return false;
        }
        scan.empty(w, h);
        return true;
    }

    public boolean row(int y) {
        int w = scan.wide;
        if (y < 0 || y >= scan.high || tapeLength < w) {
            return false;
        }
        tapeLength = 0;
        for (int x = 0; x < w; x++) {
            if (tape[x] < '0' || tape[x] > '9') {
                return false;
            }
        }
        for (int x = 0; x < w; x++) {
            scan.put(x, y, tape[x] - '0');
        }
        return true;
    }

    public int fill(int x, int y, int w, int h, int v) {
        if (!isPiece(w, h) || v < 0 || v > DARKEST || !scan.has(x, y)) {
            return NONE;
        }
        int right = Math.min(x + w, scan.wide);
        int low = Math.min(y + h, scan.high);
        for (int j = y; j < low; j++) {
            for (int i = x; i < right; i++) {
                scan.put(i, j, v);
            }
        }
        return (right - x) * (low - y);
    }

    public int dot(int x, int y) {
        return scan.has(x, y) ? scan.at(x, y) : NONE;
    }

    public int noise(int many) {
        if (many < 0 || many > NOISE_MOST) {
            return NONE;
        }
        int changed = 0;
        for (int i = 0; i < many; i++) {
            int x = drawBelow(scan.wide);
            int y = drawBelow(scan.high);
            int step = drawBelow(3) == 0 ? -1 : 1;
            int v = Math.max(0, Math.min(DARKEST, scan.at(x, y) + step));
            if (scan.put(x, y, v)) {
                changed++;
            }
        }
        return changed;
    }

    public int seed(int x) {
        int before = drawn;
        drawn = x & 65535;
        return before;
    }

    public int turn(int k) {
        if (k < 0 || k > 3) {
            return NONE;
        }
        spare.takeTurned(scan, k);
        swapScans();
        return scan.wide;
    }

    public int copy(int x, int y, int w, int h, int u, int v) {
        if (!isPiece(w, h) || !scan.has(x, y) || !scan.has(u, v)) {
            return NONE;
        }
        spare.takeAll(scan);
        int right = Math.min(w, scan.wide - Math.max(x, u));
        int low = Math.min(h, scan.high - Math.max(y, v));
        for (int j = 0; j < low; j++) {
            for (int i = 0; i < right; i++) {
                spare.put(u + i, v + j, scan.at(x + i, y + j));
            }
        }
        return takeSpare();
    }

    public int shift(int u, int v) {
        if (u < -SIDE_MOST || u > SIDE_MOST || v < -SIDE_MOST || v > SIDE_MOST) {
            return NONE;
        }
        spare.takeShifted(scan, u, v);
        return takeSpare();
    }

    public int stretch() {
        spare.takeStretched(scan);
        return takeSpare();
    }

    public int clean() {
        return judge.blobs.wipeSpecks(scan, judge.settings[LEVEL], judge.settings[SPECK]);
    }

    public int smooth() {
        spare.takeSmoothed(scan);
        return takeSpare();
    }

    public boolean keep(int i) {
        if (i < 0 || i >= DRAWERS) {
            return false;
        }
        drawers[i].takeAll(scan);
        return true;
    }

    public boolean back(int i) {
        if (i < 0 || i >= DRAWERS || drawers[i].isNothing()) {
            return false;
        }
        scan.takeAll(drawers[i]);
        return true;
    }

    public int blob(int b, int what) {
        Blobs blobs = judge.blobs;
        blobs.find(scan, judge.settings[LEVEL], judge.settings[SPECK]);
        if (b == NONE && what == 0) {
            return blobs.found;
        }
        if (b < 0 || b >= blobs.found) {
            return NONE;
        }
        switch (what) {
            case 0: return blobs.sizes[b];
            case 1: return blobs.sumX[b];
            case 2: return blobs.sumY[b];
            case 3: return blobs.firstX[b];
            case 4: return blobs.firstY[b];
            case 5: return blobs.greatestX[b] - blobs.leastX[b] + 1;
            case 6: return blobs.greatestY[b] - blobs.firstY[b] + 1;
            default: return NONE;
        }
    }

    public int mark(int k) {
        if (k < 0 || k >= CORNERS) {
            return NONE;
        }
        judge.locate(scan);
        return judge.marks[k] < 0 ? NOT_MARKED : judge.marks[k];
    }

    public int marked() {
        return judge.locate(scan) ? 1 : 0;
    }

    public int shape(int what) {
        if (what < 0 || what > 2) {
            return NONE;
        }
        if (!judge.locate(scan)) {
            return NOT_MARKED;
        }
        if (what == 0) {
            return judge.places.turnsOneWay() ? 1 : 0;
        }
        return what == 1 ? judge.places.area() : judge.places.slope();
    }

    public int map(int i, int j, int what) {
        if (!form.told || what < 0 || what > 3) {
            return NONE;
        }
        if (i < 0 || i > 2 * form.wide || j < 0 || j > 2 * form.high) {
            return NONE;
        }
        if (!judge.locate(scan)) {
            return NOT_MARKED;
        }
        Places places = judge.places;
        places.spread(form.wide, form.high);
        switch (what) {
            case 0: return places.dotX(i, j);
            case 1: return places.dotY(i, j);
            case 2: return places.hundredthsX(i, j);
            default: return places.hundredthsY(i, j);
        }
    }

    public int dark(int q, int b) {
        if (!form.hasQuestion(q) || (b != NONE && !form.hasBox(q, b))) {
            return NONE;
        }
        if (!judge.measure(scan, form)) {
            return NOT_MARKED;
        }
        return b == NONE ? judge.paper : judge.darks[form.firstOf[q] + b];
    }

    public int judged(int q, int what) {
        if (!form.hasQuestion(q) || what < 0 || what > 4) {
            return NOTHING;
        }
        if (!judge.read(scan, form)) {
            return NOT_JUDGED;
        }
        switch (what) {
            case 0: return judge.answers[q];
            case 1: return judge.states[q];
            case 2: return judge.rubbed[q];
            case 3: return judge.steps[q];
            default: return judge.gains[q];
        }
    }

    public int sheet(int what) {
        if (!form.told || what < 0 || what > 4) {
            return NOTHING;
        }
        if (!judge.read(scan, form)) {
            return NO_SHEET;
        }
        switch (what) {
            case 0: return judge.allGains(form);
            case 1: return judge.inState(form, DOUBTFUL);
            case 2: return judge.inState(form, DOUBLE);
            case 3: return judge.leftEmpty(form);
            default: return judge.allRubbed(form);
        }
    }

    public int rank(int q, int b) {
        if (!form.hasBox(q, b)) {
            return NONE;
        }
        if (!judge.measure(scan, form)) {
            return NOT_MARKED;
        }
        return judge.rankOf(form, form.firstOf[q] + b);
    }

    public int apart(int what) {
        if (!form.told || what < 0 || what > 2) {
            return NONE;
        }
        if (!judge.read(scan, form)) {
            return NOT_MARKED;
        }
        return judge.partedBy(form, what);
    }

    public int steady(int q, int what) {
        if (!form.hasQuestion(q) || what < 0 || what > 1) {
            return NONE;
        }
        if (!judge.read(scan, form)) {
            return NOT_MARKED;
        }
        return what == 0 ? judge.leastMargin(q) : judge.greatestMargin(q);
    }

    public boolean corner(int k, int x, int y) {
        if (k < 0 || k >= CORNERS || x < 0 || x >= SIDE_MOST || y < 0 || y >= SIDE_MOST) {
            return false;
        }
        cornerX[k] = x;
        cornerY[k] = y;
        return true;
    }

    public int tick(int q, int bits) {
        if (!form.hasQuestion(q) || bits < 0 || bits >= 1 << form.boxesOf[q]) {
            return NONE;
        }
        int before = told[q];
        told[q] = bits;
        return before;
    }

    public int print(int v) {
        if (!form.told || v < 1 || v > DARKEST) {
            return NONE;
        }
        for (int k = 0; k < CORNERS; k++) {
            if (!scan.holdsRound(cornerX[k], cornerY[k])) {
                return BADLY_TOLD;
            }
        }
        scan.empty(scan.wide, scan.high);
        Places places = judge.places;
        for (int k = 0; k < CORNERS; k++) {
            scan.putRound(cornerX[k], cornerY[k], DARKEST);
            places.put(k, cornerX[k], cornerY[k], 1);
        }
        places.spread(form.wide, form.high);
        for (int q = 0; q < form.questions; q++) {
            for (int b = 0; b < form.boxesOf[q]; b++) {
                if ((told[q] >> b & 1) == 1) {
                    inkBox(form.firstOf[q] + b, v);
                }
            }
        }
        return scan.notBelow(1);
    }

    public int unlike() {
        if (!form.told) {
            return NONE;
        }
        if (!judge.read(scan, form)) {
            return NOT_MARKED;
        }
        int others = 0;
        for (int q = 0; q < form.questions; q++) {
            if (judge.answers[q] != told[q]) {
                others++;
            }
        }
        return others;
    }

    public int up() {
        if (!form.told) {
            return NONE;
        }
        int best = NOT_MARKED;
        int most = 0;
        for (int k = 0; k < 4; k++) {
            spare.takeTurned(scan, k);
            if (judge.read(spare, form)) {
                int gained = judge.allGains(form);
                if (best < 0 || gained > most) {
                    best = k;
                    most = gained;
                }
            }
        }
        return best;
    }

    public int lay() {
        if (!form.told) {
            return NONE;
        }
        if (!judge.read(scan, form)) {
            return NOT_MARKED;
        }
        if (pile.sheets >= SHEETS_MOST) {
            return PILE_IS_FULL;
        }
        return pile.add(judge, form);
    }

    public int laid(int s, int what) {
        if (!pile.hasSheet(s)) {
            return NOTHING;
        }
        switch (what) {
            case 0: return pile.gains[s];
            case 1: return pile.doubtful[s];
            case 2: return pile.doubled[s];
            case 3: return pile.rankOf(s);
            default: break;
        }
        if (what >= 10 && what < 10 + form.questions) {
            return pile.answer(s, what - 10);
        }
        return NOTHING;
    }

    public int chosen(int q, int b) {
        if (!form.hasQuestion(q)) {
            return NONE;
        }
        if (b == NONE) {
            return pile.rightOnes(form, q);
        }
        return form.hasBox(q, b) ? pile.choosing(q, b) : NONE;
    }

    public int copied(int n, int k) {
        if (n < 1 || n > QUESTIONS_MOST || k < NONE) {
            return NONE;
        }
        int pairs = 0;
        for (int s = 0; s < pile.sheets; s++) {
            for (int t = s + 1; t < pile.sheets; t++) {
                if (pile.sharedFaults(form, s, t) >= n) {
                    if (pairs == k) {
                        return 100 * s + t;
                    }
                    pairs++;
                }
            }
        }
        return k == NONE ? pairs : NOT_SO_MANY;
    }

    public int telling(int q) {
        return form.hasQuestion(q) ? pile.tellingOf(form, q) : NOTHING;
    }

    public int points(int what) {
        if (pile.sheets == 0 || what < 0 || what > 3) {
            return NOTHING;
        }
        pile.sort();
        switch (what) {
            case 0: return pile.allGains();
            case 1: return pile.gains[pile.order[0]];
            case 2: return pile.gains[pile.order[pile.sheets - 1]];
            default: return pile.gains[pile.order[pile.sheets / 2]];
        }
    }

    public int take(int s) {
        if (!pile.hasSheet(s)) {
            return NONE;
        }
        pile.remove(s);
        return pile.sheets;
    }

    public int level() {
        int best = 1;
        long bestWhole = 0;
        long bestRest = 0;
        long bestBy = 1;
        for (int t = 1; t <= DARKEST; t++) {
            long n1 = scan.notBelow(t);
            long n0 = scan.size() - n1;
            long s1 = scan.sumNotBelow(t);
            long s0 = scan.sumNotBelow(0) - s1;
            long by = n0 * n1;
            if (by > 0) {
                long gap = s1 * n0 - s0 * n1;
                long whole = gap * gap / by;
                long rest = gap * gap % by;
                // the whole parts first: to cross-multiply the full squares would pass a long's bounds
                if (whole > bestWhole || (whole == bestWhole && rest * bestBy > bestRest * by)) {
                    best = t;
                    bestWhole = whole;
                    bestRest = rest;
                    bestBy = by;
                }
            }
        }
        return best;
    }

    private void putOnTape(int four) {
        for (int i = 24; i >= 0; i -= 8) {
            if (tapeLength < TAPE_MOST) {
                tape[tapeLength] = four >> i & 255;
                tapeLength++;
            }
        }
    }

    private static boolean isPiece(int w, int h) {
        return w >= 1 && w <= SIDE_MOST && h >= 1 && h <= SIDE_MOST;
    }

    private int drawBelow(int m) {
        drawn = (25173 * drawn + 13849) & 65535;
        return m < 1 ? 0 : drawn / 4 % m;
    }

    private void swapScans() {
        Scan before = scan;
        scan = spare;
        spare = before;
    }

    private int takeSpare() {
        int others = scan.unlikeDots(spare);
        swapScans();
        return others;
    }

    private void inkBox(int box, int v) {
        Places places = judge.places;
        int left = form.boxX[box];
        int top = form.boxY[box];
        for (int j = top; j < top + form.boxHigh; j++) {
            for (int i = left; i < left + form.boxWide; i++) {
                scan.put(places.dotX(2 * i + 1, 2 * j + 1), places.dotY(2 * i + 1, 2 * j + 1), v);
            }
        }
    }

    /** Dots of darkness, row by row; of no width when nothing is kept in it. */
    private static final class Scan {
        int wide;
        int high;
        final int[] dots = new int[DOTS_MOST];
        final int[] tally = new int[DARKEST + 1];

        boolean isNothing() {
            return wide == 0;
        }

        int size() {
            return wide * high;
        }

        void empty(int w, int h) {
            wide = w;
            high = h;
            Arrays.fill(dots, 0);
        }

        boolean has(int x, int y) {
            return x >= 0 && x < wide && y >= 0 && y < high;
        }

        int at(int x, int y) {
            return has(x, y) ? dots[y * wide + x] : 0;
        }

        /** Answers whether the dot is another one then. */
        boolean put(int x, int y, int v) {
            if (!has(x, y)) {
                return false;
            }
            int i = y * wide + x;
            boolean other = dots[i] != v;
            dots[i] = v;
            return other;
        }

        boolean holdsRound(int x, int y) {
            return has(x - 1, y - 1) && has(x + 1, y + 1);
        }

        void putRound(int x, int y, int v) {
            for (int j = y - 1; j <= y + 1; j++) {
                for (int i = x - 1; i <= x + 1; i++) {
                    put(i, j, v);
                }
            }
        }

        int notBelow(int least) {
            int n = 0;
            for (int i = 0; i < wide * high; i++) {
                if (dots[i] >= least) {
                    n++;
                }
            }
            return n;
        }

        int sumNotBelow(int least) {
            int sum = 0;
            for (int i = 0; i < wide * high; i++) {
                if (dots[i] >= least) {
                    sum += dots[i];
                }
            }
            return sum;
        }

        int unlikeDots(Scan other) {
            int n = 0;
            for (int i = 0; i < wide * high; i++) {
                if (dots[i] != other.dots[i]) {
                    n++;
                }
            }
            return n;
        }

        void takeAll(Scan from) {
            wide = from.wide;
            high = from.high;
            System.arraycopy(from.dots, 0, dots, 0, DOTS_MOST);
        }

        void takeTurned(Scan from, int k) {
            int w = from.wide;
            int h = from.high;
            wide = k % 2 == 0 ? w : h;
            high = k % 2 == 0 ? h : w;
            for (int y = 0; y < h; y++) {
                for (int x = 0; x < w; x++) {
                    int v = from.at(x, y);
                    switch (k) {
                        case 1: put(h - 1 - y, x, v); break;
                        case 2: put(w - 1 - x, h - 1 - y, v); break;
                        case 3: put(y, w - 1 - x, v); break;
                        default: put(x, y, v); break;
                    }
                }
            }
        }

        void takeShifted(Scan from, int u, int v) {
            wide = from.wide;
            high = from.high;
            for (int y = 0; y < high; y++) {
                for (int x = 0; x < wide; x++) {
                    put(x, y, from.at(x - u, y - v));
                }
            }
        }

        void takeStretched(Scan from) {
            takeAll(from);
            int least = DARKEST;
            int greatest = 0;
            for (int i = 0; i < wide * high; i++) {
                least = Math.min(least, dots[i]);
                greatest = Math.max(greatest, dots[i]);
            }
            int range = greatest - least;
            if (range > 0) {
                for (int i = 0; i < wide * high; i++) {
                    dots[i] = (dots[i] - least) * 9 / range;
                }
            }
        }

        void takeSmoothed(Scan from) {
            wide = from.wide;
            high = from.high;
            for (int y = 0; y < high; y++) {
                for (int x = 0; x < wide; x++) {
                    put(x, y, from.middleRound(x, y));
                }
            }
        }

        int middleRound(int x, int y) {
            Arrays.fill(tally, 0);
            int n = 0;
            for (int j = Math.max(y - 1, 0); j <= y + 1 && j < high; j++) {
                for (int i = Math.max(x - 1, 0); i <= x + 1 && i < wide; i++) {
                    int v = at(i, j);
                    if (v >= 0 && v <= DARKEST) {
                        tally[v]++;
                        n++;
                    }
                }
            }
            int below = 0;
            for (int v = 0; v < DARKEST; v++) {
                below += tally[v];
                if (below > (n - 1) / 2) {
                    return v;
                }
            }
            return DARKEST;
        }
    }

    /** Ink that hangs together; in four ways at most half of all dots can be apart from each other. */
    private static final class Blobs {
        private static final int BLOBS_MOST = 800;

        int found;
        final int[] sizes = new int[BLOBS_MOST];
        final int[] sumX = new int[BLOBS_MOST];
        final int[] sumY = new int[BLOBS_MOST];
        final int[] firstX = new int[BLOBS_MOST];
        final int[] firstY = new int[BLOBS_MOST];
        final int[] leastX = new int[BLOBS_MOST];
        final int[] greatestX = new int[BLOBS_MOST];
        final int[] greatestY = new int[BLOBS_MOST];
        final int[] group = new int[DOTS_MOST];
        final byte[] seen = new byte[DOTS_MOST];

        void find(Scan scan, int level, int speck) {
            found = 0;
            Arrays.fill(seen, (byte) 0);
            for (int i = 0; i < scan.size(); i++) {
                int n = gather(scan, level, i);
                if (n >= speck && found < BLOBS_MOST) {
                    describe(scan.wide, n);
                }
            }
        }

        int wipeSpecks(Scan scan, int level, int speck) {
            int wiped = 0;
            Arrays.fill(seen, (byte) 0);
            for (int i = 0; i < scan.size(); i++) {
                int n = gather(scan, level, i);
                if (n < speck) {
                    for (int g = 0; g < n; g++) {
                        scan.dots[group[g]] = 0;
                    }
                    wiped += n;
                }
            }
            return wiped;
        }

        /** The ink that hangs together with a dot comes into group; 0 if it is no ink, or was seen. */
        private int gather(Scan scan, int level, int start) {
            int w = scan.wide;
            int all = scan.size();
            int n = join(scan, level, start, 0);
            for (int g = 0; g < n && g < DOTS_MOST; g++) {
                int i = group[g];
                int x = w > 0 ? i % w : 0;
                if (x > 0) {
                    n = join(scan, level, i - 1, n);
                }
                if (x < w - 1) {
                    n = join(scan, level, i + 1, n);
                }
                if (i >= w) {
                    n = join(scan, level, i - w, n);
                }
                if (i < all - w) {
                    n = join(scan, level, i + w, n);
                }
            }
            return n;
        }

        private int join(Scan scan, int level, int i, int n) {
            if (i < 0 || i >= DOTS_MOST || n >= DOTS_MOST || seen[i] != 0 || scan.dots[i] < level) {
                return n;
            }
            seen[i] = 1;
            group[n] = i;
            return n + 1;
        }

        private void describe(int w, int n) {
            if (w < 1 || n < 1) {
                return;
            }
            int b = found;
            found++;
            sizes[b] = n;
            sumX[b] = 0;
            sumY[b] = 0;
            firstX[b] = group[0] % w;
            firstY[b] = group[0] / w;
            leastX[b] = firstX[b];
            greatestX[b] = firstX[b];
            greatestY[b] = firstY[b];
            for (int g = 0; g < n; g++) {
                int x = group[g] % w;
                int y = group[g] / w;
                sumX[b] += x;
                sumY[b] += y;
                leastX[b] = Math.min(leastX[b], x);
                greatestX[b] = Math.max(greatestX[b], x);
                greatestY[b] = Math.max(greatestY[b], y);
            }
        }

        /** The blob of some size at least whose middle is nearest to (x, y); NONE if there is none. */
        int nearest(int x, int y, int least) {
            int best = NONE;
            long bestFar = 0;
            long bestBy = 1;
            for (int b = 0; b < found; b++) {
                if (sizes[b] >= least) {
                    long n = sizes[b];
                    long dx = sumX[b] - n * x;
                    long dy = sumY[b] - n * y;
                    long far = dx * dx + dy * dy;
                    long by = n * n;
                    if (best < 0 || far * bestBy < bestFar * by) {
                        best = b;
                        bestFar = far;
                        bestBy = by;
                    }
                }
            }
            return best;
        }
    }

    /** The four middles, each a sum by a size, and the map from the form that they span. */
    private static final class Places {
        private static final int[] AROUND = {0, 1, 3, 2};

        final long[] sumX = new long[CORNERS];
        final long[] sumY = new long[CORNERS];
        final long[] sizes = new long[CORNERS];
        final long[] wholeX = new long[CORNERS];
        final long[] wholeY = new long[CORNERS];
        long by;
        int twiceWide;
        int twiceHigh;

        void put(int k, long x, long y, long size) {
            sumX[k] = x;
            sumY[k] = y;
            sizes[k] = size;
        }

        /** Brings all middles to one divisor, for a form so wide and high. */
        void spread(int u, int v) {
            for (int k = 0; k < CORNERS; k++) {
                long others = 1;
                for (int o = 0; o < CORNERS; o++) {
                    if (o != k) {
                        others *= sizes[o];
                    }
                }
                wholeX[k] = sumX[k] * others;
                wholeY[k] = sumY[k] * others;
            }
            twiceWide = 2 * u;
            twiceHigh = 2 * v;
            by = sizes[0] * sizes[1] * sizes[2] * sizes[3] * twiceWide * twiceHigh;
        }

        private long weighed(long[] whole, int i, int j) {
            return whole[0] * ((twiceWide - i) * (twiceHigh - j))
                + whole[1] * (i * (twiceHigh - j))
                + whole[2] * ((twiceWide - i) * j)
                + whole[3] * (i * j);
        }

        private int rounded(long sum) {
            return by > 0 ? (int) ((2 * sum + by) / (2 * by)) : 0;
        }

        private int hundredths(long sum) {
            return by > 0 ? (int) (100 * sum / by) : 0;
        }

        int dotX(int i, int j) {
            return rounded(weighed(wholeX, i, j));
        }

        int dotY(int i, int j) {
            return rounded(weighed(wholeY, i, j));
        }

        int hundredthsX(int i, int j) {
            return hundredths(weighed(wholeX, i, j));
        }

        int hundredthsY(int i, int j) {
            return hundredths(weighed(wholeY, i, j));
        }

        boolean turnsOneWay() {
            int right = 0;
            int left = 0;
            for (int i = 0; i < CORNERS; i++) {
                long side = sideOf(AROUND[i], AROUND[(i + 1) % CORNERS], AROUND[(i + 2) % CORNERS]);
                if (side > 0) {
                    right++;
                } else if (side < 0) {
                    left++;
                }
            }
            return right == CORNERS || left == CORNERS;
        }

        /** To which side one turns at b, from a to c: the sign alone tells. */
        private long sideOf(int a, int b, int c) {
            return sizes[c] * (sumX[a] * sumY[b] - sumX[b] * sumY[a])
                + sizes[a] * (sumX[b] * sumY[c] - sumX[c] * sumY[b])
                + sizes[b] * (sumX[c] * sumY[a] - sumX[a] * sumY[c]);
        }

        int area() {
            long sum = 0;
            for (int i = 0; i < CORNERS; i++) {
                int a = AROUND[i];
                int b = AROUND[(i + 1) % CORNERS];
                int c = AROUND[(i + 2) % CORNERS];
                int d = AROUND[(i + 3) % CORNERS];
                sum += (sumX[a] * sumY[b] - sumX[b] * sumY[a]) * sizes[c] * sizes[d];
            }
            long twice = 2 * sizes[0] * sizes[1] * sizes[2] * sizes[3];
            return twice > 0 ? (int) (Math.abs(sum) / twice) : 0;
        }

        int slope() {
            long first = sumY[0] * sizes[1];
            long second = sumY[1] * sizes[0];
            if (first == second) {
                return 0;
            }
            return second > first ? 1 : 2;
        }
    }

    /** A form: the boxes of all questions stand in one row, question by question. */
    private static final class Form {
        boolean told;
        int wide;
        int high;
        int boxWide;
        int boxHigh;
        int questions;
        int boxes;
        final boolean[] many = new boolean[QUESTIONS_MOST];
        final int[] firstOf = new int[QUESTIONS_MOST];
        final int[] boxesOf = new int[QUESTIONS_MOST];
        final int[] keys = new int[QUESTIONS_MOST];
        final int[] worths = new int[QUESTIONS_MOST];
        final int[] boxX = new int[ALL_BOXES_MOST];
        final int[] boxY = new int[ALL_BOXES_MOST];

        void empty() {
            told = false;
            wide = 0;
            high = 0;
            boxWide = 0;
            boxHigh = 0;
            questions = 0;
            boxes = 0;
        }

        boolean hasQuestion(int q) {
            return q >= 0 && q < questions;
        }

        boolean hasBox(int q, int b) {
            return hasQuestion(q) && b >= 0 && b < boxesOf[q];
        }

        void addQuestion(boolean ofMany) {
            if (questions < QUESTIONS_MOST) {
                many[questions] = ofMany;
                firstOf[questions] = boxes;
                boxesOf[questions] = 0;
                keys[questions] = 0;
                worths[questions] = 1;
                questions++;
            }
        }

        void addBox(int x, int y) {
            if (questions > 0 && boxes < ALL_BOXES_MOST) {
                boxX[boxes] = x;
                boxY[boxes] = y;
                boxes++;
                boxesOf[questions - 1]++;
            }
        }

        boolean isCovered(int x, int y) {
            for (int i = 0; i < boxes; i++) {
                if (Math.abs(boxX[i] - x) < boxWide && Math.abs(boxY[i] - y) < boxHigh) {
                    return true;
                }
            }
            return false;
        }
    }

    /** Reads a form's text, token by token; the first wrong one is kept as the fault. */
    private static final class FormText {
        private static final int END = 0;
        private static final int WORD = 1;
        private static final int NUMBER = 2;
        private static final int COMMA = 3;
        private static final int SEMICOLON = 4;
        private static final int OTHER = 5;
        private static final int NUMBER_MOST = 999;

        final int[] text = new int[TEXT_MOST];
        int length;
        int start;
        int end;
        int kind;
        int number;
        int taken;
        int fault;

        /** Fills the form; answers 0, or the fault as the face tells it. */
        int read(int[] from, int n, Form out) {
            length = Math.min(n, TEXT_MOST);
            System.arraycopy(from, 0, text, 0, length);
            end = 0;
            fault = 0;
            out.empty();
            advance();
            if (readHead(out) && readQuestions(out)) {
                out.told = true;
            }
            return fault;
        }

        private boolean readHead(Form out) {
            if (!takeWord("size") || !takeNumber(4, 40)) {
                return false;
            }
            out.wide = taken;
            if (!takeNumber(4, 40)) {
                return false;
            }
            out.high = taken;
            if (!takeSign(SEMICOLON) || !takeWord("box") || !takeNumber(1, 6)) {
                return false;
            }
            out.boxWide = taken;
            if (!takeNumber(1, 6)) {
                return false;
            }
            out.boxHigh = taken;
            return takeSign(SEMICOLON);
        }

        private boolean readQuestions(Form out) {
            for (int q = 0; q <= QUESTIONS_MOST; q++) {
                if (kind == END) {
                    return true;
                }
                boolean ofMany = isWord("many");
                if (!ofMany && !isWord("one")) {
                    return refuse(1);
                }
                if (q == QUESTIONS_MOST) {
                    return refuse(3);
                }
                advance();
                out.addQuestion(ofMany);
                if (!readPlaces(out) || !readKey(out, q) || !readWorth(out, q) || !takeSign(SEMICOLON)) {
                    return false;
                }
            }
            return true;
        }

        private boolean readPlaces(Form out) {
            for (int b = 0; b <= BOXES_MOST; b++) {
                if (!readPlace(out, b)) {
                    return false;
                }
                if (kind != COMMA) {
                    return true;
                }
                advance();
            }
            return true;
        }

        private boolean readPlace(Form out, int b) {
            if (!isNumber(0, out.wide - out.boxWide)) {
                return false;
            }
            if (b == BOXES_MOST) {
                return refuse(3);
            }
            int x = number;
            advance();
            if (!isNumber(0, out.high - out.boxHigh)) {
                return false;
            }
            if (out.isCovered(x, number)) {
                return refuse(4);
            }
            out.addBox(x, number);
            advance();
            return true;
        }

        private boolean readKey(Form out, int q) {
            if (!isWord("key")) {
                return true;
            }
            advance();
            for (int n = 0; n <= BOXES_MOST; n++) {
                if (!isLetter()) {
                    return n > 0 || refuse(1);
                }
                int box = text[start] - 'a';
                if (box >= out.boxesOf[q] || (out.keys[q] >> box & 1) == 1) {
                    return refuse(5);
                }
                out.keys[q] |= 1 << box;
                advance();
            }
            return true;
        }

        private boolean readWorth(Form out, int q) {
            if (!isWord("worth")) {
                return true;
            }
            advance();
            if (!takeNumber(0, 99)) {
                return false;
            }
            out.worths[q] = taken;
            return true;
        }

        private boolean takeWord(String word) {
            if (!isWord(word)) {
                return refuse(1);
            }
            advance();
            return true;
        }

        private boolean takeSign(int sign) {
            if (kind != sign) {
                return refuse(1);
            }
            advance();
            return true;
        }

        private boolean takeNumber(int least, int most) {
            if (!isNumber(least, most)) {
                return false;
            }
            taken = number;
            advance();
            return true;
        }

        private boolean isNumber(int least, int most) {
            if (kind != NUMBER) {
                return refuse(1);
            }
            return (number >= least && number <= most) || refuse(2);
        }

        private boolean isWord(String word) {
            if (kind != WORD || end - start != word.length()) {
                return false;
            }
            for (int i = 0; i < word.length(); i++) {
                if (text[start + i] != word.charAt(i)) {
                    return false;
                }
            }
            return true;
        }

        private boolean isLetter() {
            return kind == WORD && end - start == 1 && text[start] <= 'f';
        }

        private boolean refuse(int why) {
            fault = -1000 * why - start;
            return false;
        }

        private void advance() {
            start = end;
            while (start < length && (text[start] == ' ' || text[start] == '\n')) {
                start++;
            }
            end = start;
            if (start >= length) {
                kind = END;
                return;
            }
            kind = kindOf(text[start]);
            end++;
            if (kind == WORD || kind == NUMBER) {
                while (end < length && kindOf(text[end]) == kind) {
                    end++;
                }
            }
            if (kind == NUMBER) {
                number = numberRead();
            }
        }

        private int numberRead() {
            int value = 0;
            for (int i = start; i < end; i++) {
                value = value * 10 + text[i] - '0';
                if (value > NUMBER_MOST) {
                    value = NUMBER_MOST;
                }
            }
            return value;
        }

        private static int kindOf(int sign) {
            if (sign >= 'a' && sign <= 'z') {
                return WORD;
            }
            if (sign >= '0' && sign <= '9') {
                return NUMBER;
            }
            if (sign == ',') {
                return COMMA;
            }
            return sign == ';' ? SEMICOLON : OTHER;
        }
    }

    /** What a scan says of a form, by the settings: marks, darkness of boxes, answers. */
    private static final class Judge {
        final int[] settings = {5, 2, 6, 6, 4, 3, 0};
        final Blobs blobs = new Blobs();
        final int[] marks = new int[CORNERS];
        final Places places = new Places();
        final int[] darks = new int[ALL_BOXES_MOST];
        final int[] order = new int[ALL_BOXES_MOST];
        int paper;
        final int[] answers = new int[QUESTIONS_MOST];
        final int[] states = new int[QUESTIONS_MOST];
        final int[] rubbed = new int[QUESTIONS_MOST];
        final int[] steps = new int[QUESTIONS_MOST];
        final int[] gains = new int[QUESTIONS_MOST];

        /** Finds the marks; answers whether the scan is marked. */
        boolean locate(Scan scan) {
            blobs.find(scan, settings[LEVEL], settings[SPECK]);
            for (int k = 0; k < CORNERS; k++) {
                int x = k % 2 == 0 ? 0 : scan.wide - 1;
                int y = k / 2 == 0 ? 0 : scan.high - 1;
                marks[k] = blobs.nearest(x, y, settings[MARK]);
            }
            if (!marksAreFour()) {
                return false;
            }
            for (int k = 0; k < CORNERS; k++) {
                int b = marks[k];
                places.put(k, blobs.sumX[b], blobs.sumY[b], blobs.sizes[b]);
            }
            return true;
        }

        private boolean marksAreFour() {
            for (int k = 0; k < CORNERS; k++) {
                if (marks[k] < 0) {
                    return false;
                }
                for (int o = 0; o < k; o++) {
                    if (marks[o] == marks[k]) {
                        return false;
                    }
                }
            }
            return true;
        }

        /** Finds how dark the boxes and the paper are; answers whether the scan is marked. */
        boolean measure(Scan scan, Form form) {
            if (!locate(scan)) {
                return false;
            }
            places.spread(form.wide, form.high);
            for (int i = 0; i < form.boxes; i++) {
                darks[i] = darkOf(scan, form, i);
                paper = i == 0 ? darks[i] : Math.min(paper, darks[i]);
            }
            return true;
        }

        private int darkOf(Scan scan, Form form, int box) {
            int sum = 0;
            int left = form.boxX[box];
            int top = form.boxY[box];
            for (int j = top; j < top + form.boxHigh; j++) {
                for (int i = left; i < left + form.boxWide; i++) {
                    sum += scan.at(places.dotX(2 * i + 1, 2 * j + 1), places.dotY(2 * i + 1, 2 * j + 1));
                }
            }
            return sum;
        }

        /** Judges all questions; answers whether the scan is marked. */
        boolean read(Scan scan, Form form) {
            if (!measure(scan, form)) {
                return false;
            }
            for (int q = 0; q < form.questions; q++) {
                judgeQuestion(form, q);
                gains[q] = gainOf(form, q);
            }
            return true;
        }

        private void judgeQuestion(Form form, int q) {
            int first = form.firstOf[q];
            int n = form.boxesOf[q];
            sortByDark(first, n);
            int ahead = 0;
            int step = -1;
            for (int i = 0; i < n; i++) {
                int next = i + 1 < n ? darks[order[i + 1]] : paper;
                if (darks[order[i]] - next > step) {
                    step = darks[order[i]] - next;
                    ahead = i + 1;
                }
            }
            steps[q] = step;
            states[q] = 0;
            if (step < settings[MARGIN]) {
                ahead = 0;
                states[q] = 2 * step >= settings[MARGIN] ? DOUBTFUL : 0;
            }
            int staying = ahead;
            if (!form.many[q] && ahead > 1) {
                if (darks[order[0]] - darks[order[1]] >= settings[CLEAR]) {
                    staying = 1;
                } else {
                    states[q] = DOUBLE;
                }
            }
            answers[q] = 0;
            rubbed[q] = 0;
            for (int i = 0; i < n; i++) {
                int bit = 1 << (order[i] - first);
                if (i < staying) {
                    answers[q] |= bit;
                } else if (i < ahead || darks[order[i]] - paper >= settings[RUBBED]) {
                    rubbed[q] |= bit;
                }
            }
        }

        private int gainOf(Form form, int q) {
            if (form.keys[q] == 0 || states[q] != 0) {
                return 0;
            }
            if (answers[q] == form.keys[q]) {
                return form.worths[q];
            }
            return answers[q] == 0 ? 0 : -settings[PENALTY];
        }

        /** Puts n boxes from the first on in order, the most dark ahead, like ones as they stand. */
        private void sortByDark(int first, int n) {
            for (int i = 0; i < n; i++) {
                int box = first + i;
                int at = i;
                while (at > 0 && darks[order[at - 1]] < darks[box]) {
                    order[at] = order[at - 1];
                    at--;
                }
                order[at] = box;
            }
        }

        int allGains(Form form) {
            int sum = 0;
            for (int q = 0; q < form.questions; q++) {
                sum += gains[q];
            }
            return sum;
        }

        int inState(Form form, int state) {
            int n = 0;
            for (int q = 0; q < form.questions; q++) {
                if (states[q] == state) {
                    n++;
                }
            }
            return n;
        }

        int leftEmpty(Form form) {
            int n = 0;
            for (int q = 0; q < form.questions; q++) {
                if (states[q] == 0 && answers[q] == 0) {
                    n++;
                }
            }
            return n;
        }

        int allRubbed(Form form) {
            int n = 0;
            for (int q = 0; q < form.questions; q++) {
                n += Integer.bitCount(rubbed[q]);
            }
            return n;
        }

        int rankOf(Form form, int box) {
            int place = 1;
            for (int i = 0; i < form.boxes; i++) {
                if (darks[i] > darks[box]) {
                    place++;
                }
            }
            return place;
        }

        /** Of the greatest step among all boxes: 0 it, 1 how many are ahead, 2 how many are judged else. */
        int partedBy(Form form, int what) {
            sortByDark(0, form.boxes);
            int ahead = 0;
            int step = 0;
            for (int i = 0; i + 1 < form.boxes; i++) {
                if (darks[order[i]] - darks[order[i + 1]] > step) {
                    step = darks[order[i]] - darks[order[i + 1]];
                    ahead = i + 1;
                }
            }
            if (what == 0) {
                return step;
            }
            return what == 1 ? ahead : judgedElse(form, ahead);
        }

        /** Boxes that are ticked and not among so many most dark ones, or among them and not ticked. */
        private int judgedElse(Form form, int ahead) {
            int n = 0;
            for (int q = 0; q < form.questions; q++) {
                for (int b = 0; b < form.boxesOf[q]; b++) {
                    boolean ticked = (answers[q] >> b & 1) == 1;
                    // a step parts both sides, so that the last one ahead tells which are
                    boolean isAhead = ahead > 0 && darks[form.firstOf[q] + b] >= darks[order[ahead - 1]];
                    if (ticked != isAhead) {
                        n++;
                    }
                }
            }
            return n;
        }

        // by margins up to the step boxes are ticked, up to twice of it it is doubtful, then none is:
        // within each of the three nothing changes, and no two of them are alike
        int leastMargin(int q) {
            int step = steps[q];
            if (settings[MARGIN] <= step) {
                return 1;
            }
            return settings[MARGIN] <= 2 * step ? step + 1 : 2 * step + 1;
        }

        int greatestMargin(int q) {
            int step = steps[q];
            if (settings[MARGIN] <= step) {
                return Math.min(step, MARGIN_MOST);
            }
            return settings[MARGIN] <= 2 * step ? Math.min(2 * step, MARGIN_MOST) : MARGIN_MOST;
        }
    }

    /** The sheets that were laid, as they were judged then. */
    private static final class Pile {
        int sheets;
        final int[] gains = new int[SHEETS_MOST];
        final int[] doubtful = new int[SHEETS_MOST];
        final int[] doubled = new int[SHEETS_MOST];
        final int[] answers = new int[SHEETS_MOST * QUESTIONS_MOST];
        final int[] order = new int[SHEETS_MOST];

        boolean hasSheet(int s) {
            return s >= 0 && s < sheets;
        }

        int answer(int s, int q) {
            return answers[s * QUESTIONS_MOST + q];
        }

        /** Answers the new sheet's number; the pile must not be full. */
        int add(Judge judge, Form form) {
            int s = sheets;
            sheets++;
            gains[s] = judge.allGains(form);
            doubtful[s] = 0;
            doubled[s] = 0;
            for (int q = 0; q < form.questions; q++) {
                answers[s * QUESTIONS_MOST + q] = judge.answers[q];
                if (judge.states[q] == DOUBTFUL) {
                    doubtful[s] |= 1 << q;
                } else if (judge.states[q] == DOUBLE) {
                    doubled[s] |= 1 << q;
                }
            }
            return s;
        }

        void remove(int s) {
            for (int t = s; t + 1 < sheets; t++) {
                gains[t] = gains[t + 1];
                doubtful[t] = doubtful[t + 1];
                doubled[t] = doubled[t + 1];
                for (int q = 0; q < QUESTIONS_MOST; q++) {
                    answers[t * QUESTIONS_MOST + q] = answers[(t + 1) * QUESTIONS_MOST + q];
                }
            }
            sheets--;
        }

        int rankOf(int s) {
            int place = 1;
            for (int t = 0; t < sheets; t++) {
                if (gains[t] > gains[s]) {
                    place++;
                }
            }
            return place;
        }

        /** Without a key none are right: an answer of no box is not a key of none. */
        boolean isRight(Form form, int s, int q) {
            int key = form.keys[q];
            return key != 0 && answer(s, q) == key && ((doubtful[s] | doubled[s]) >> q & 1) == 0;
        }

        int rightOnes(Form form, int q) {
            int n = 0;
            for (int s = 0; s < sheets; s++) {
                if (isRight(form, s, q)) {
                    n++;
                }
            }
            return n;
        }

        int choosing(int q, int b) {
            int n = 0;
            for (int s = 0; s < sheets; s++) {
                n += answer(s, q) >> b & 1;
            }
            return n;
        }

        /** In how many questions with a key both sheets have one answer that is not the key. */
        int sharedFaults(Form form, int s, int t) {
            int n = 0;
            for (int q = 0; q < form.questions; q++) {
                int given = answer(s, q);
                if (form.keys[q] != 0 && given != 0 && given != form.keys[q] && given == answer(t, q)) {
                    n++;
                }
            }
            return n;
        }

        /** Puts the sheets in order, the most points ahead, of like ones the lower number. */
        void sort() {
            for (int s = 0; s < sheets; s++) {
                int at = s;
                while (at > 0 && gains[order[at - 1]] < gains[s]) {
                    order[at] = order[at - 1];
                    at--;
                }
                order[at] = s;
            }
        }

        int allGains() {
            int sum = 0;
            for (int s = 0; s < sheets; s++) {
                sum += gains[s];
            }
            return sum;
        }

        int tellingOf(Form form, int q) {
            sort();
            int half = sheets / 2;
            int n = 0;
            for (int i = 0; i < half; i++) {
                if (isRight(form, order[i], q)) {
                    n++;
                }
                if (isRight(form, order[sheets - 1 - i], q)) {
                    n--;
                }
            }
            return n;
        }
    }
}
