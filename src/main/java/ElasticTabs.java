/**
 * Elastic columns: LINES of CELLS parted by TABS. CELLS of one column in
 * neighbouring LINES form a BLOCK and share one WIDTH. See DOC.md for the words
 * in capitals.
 */
public final class ElasticTabs {
    public static final int BAD = -1, STATE = -2, FULL = -3, NONE = -9;

    private static final int MOST_LINES = 12;
    private static final int MOST_SIGNS = 24;
    private static final int COLUMNS = 24;
    private static final int MOST_PAD = 4;
    private static final int MOST_LEAST = 9;
    private static final int MOST_BYTES = 150;
    private static final int MOST_FIGURES = 3;
    private static final int MOST_UNDONE = 10;
    private static final int IMAGES = 2;
    private static final int FAULT_AT_0 = -10;

    private static final int TAB = 124;
    private static final int POINT_SIGN = 46;
    private static final int DASH = 45;
    private static final int BLANK = 32;
    private static final int END_OF_COMMAND = 59;

    private static final int LEFT = 0;
    private static final int RIGHT = 1;
    private static final int MIDDLE = 2;
    private static final int POINT = 3;
    private static final int ALIGNS = 4;

    private static final int ADD = 0;
    private static final int DROP = 1;
    private static final int SPLIT = 2;
    private static final int JOIN = 3;
    private static final int PUT = 4;
    private static final int CUT = 5;
    private static final int ALIGN = 6;
    private static final int PAD = 7;
    private static final int LEAST = 8;
    private static final int VERBS = 9;

    private static final char NUMBER_WORD = 'n';
    private static final char SIGNS_WORD = 't';
    private static final char SIGN_WORD = 's';
    private static final char ALIGN_WORD = 'w';

    private final Page page = new Page();
    private final Past past = new Past();
    private final Script script = new Script();
    private final Image[] images = new Image[IMAGES];
    private Layout layout = new Layout();
    private Layout former = new Layout();
    private int changed;

    public ElasticTabs() {
        for (int i = 0; i < IMAGES; i++) {
            images[i] = new Image();
        }
    }

    // ---- commands

    public int type(int c) {
        if (c < 0 || c > 255) {
            return BAD;
        }
        if (script.size >= MOST_BYTES) {
            return FULL;
        }
        script.bytes[script.size] = c;
        script.size++;
        return script.size;
    }

    public int clear() {
        int had = script.size;
        script.size = 0;
        return had;
    }

    public int run() {
        int fault = script.firstFault();
        if (fault >= 0) {
            return FAULT_AT_0 - fault;
        }
        int done = 0;
        script.rewind();
        for (int i = 0; i < MOST_BYTES && script.readCommand(); i++) {
            if (perform() >= 0) {
                done++;
            }
        }
        script.size = 0;
        return done;
    }

    public int put(int line, int at, int sign) {
        if (!page.hasLine(line) || at < 0 || at > page.sizes[line] || !Script.isSign(sign)) {
            return BAD;
        }
        if (page.sizes[line] >= MOST_SIGNS) {
            return FULL;
        }
        past.remember(page);
        page.insertSign(line, at, sign);
        settle(NONE, NONE);
        return page.sizes[line];
    }

    public int cut(int line, int at) {
        if (!page.hasSign(line, at)) {
            return BAD;
        }
        int gone = page.signAt(line, at);
        past.remember(page);
        page.removeSign(line, at);
        settle(NONE, NONE);
        return gone;
    }

    public int split(int line, int at) {
        if (!page.hasLine(line) || at < 0 || at > page.sizes[line]) {
            return BAD;
        }
        if (page.lines >= MOST_LINES) {
            return FULL;
        }
        past.remember(page);
        page.openLine(line + 1);
        page.moveSigns(line, at, line + 1);
        settle(line + 1, NONE);
        return page.lines;
    }

    public int join(int line) {
        if (!page.hasLine(line) || !page.hasLine(line + 1)) {
            return BAD;
        }
        if (page.sizes[line] + page.sizes[line + 1] > MOST_SIGNS) {
            return FULL;
        }
        past.remember(page);
        page.moveSigns(line + 1, 0, line);
        page.closeLine(line + 1);
        settle(NONE, line + 1);
        return page.lines;
    }

    public int undo() {
        if (past.known == 0) {
            return STATE;
        }
        page.copyFrom(past.latest());
        past.forgetLatest();
        layout.lay(page);
        changed = 0;
        return past.known;
    }

    // ---- what there is

    public int line(int line, int what) {
        if (!page.hasLine(line)) {
            return BAD;
        }
        switch (what) {
            case 0: return page.sizes[line];
            case 1: return layout.cells[line];
            case 2: return layout.wides[line];
            case 3: return layout.tailBegins[line];
            default: return BAD;
        }
    }

    public int sign(int line, int i) {
        return page.hasSign(line, i) ? page.signAt(line, i) : BAD;
    }

    public int cell(int line, int k, int what) {
        if (!page.hasLine(line) || k < 0 || k >= layout.cells[line]) {
            return BAD;
        }
        int i = line * COLUMNS + k;
        switch (what) {
            case 0: return layout.sizes[i];
            case 1: return layout.widths[i];
            case 2: return layout.begins[i];
            case 3: return layout.firstOfBlock(line, k);
            case 4: return layout.lastOfBlock(line, k);
            case 5: return layout.widest(page, line, k);
            case 6: return layout.saves(page, line, k);
            default: return BAD;
        }
    }

    public int shown(int line, int x) {
        if (!page.hasLine(line) || x < 0 || x >= layout.wides[line]) {
            return BAD;
        }
        if (x >= layout.tailBegins[line]) {
            return page.signAt(line, layout.tails[line] + x - layout.tailBegins[line]);
        }
        int k = layout.cellAt(line, x);
        return layout.shownInCell(page, line, k, x - layout.begins[line * COLUMNS + k]);
    }

    public int align(int k) {
        return k >= 0 && k < COLUMNS ? page.aligns[k] : BAD;
    }

    public int count(int what) {
        switch (what) {
            case 0: return page.lines;
            case 1: return page.pad;
            case 2: return page.least;
            case 3: return changed;
            case 4: return layout.blocks;
            case 5: return layout.widestLine();
            case 6: return layout.allTogether();
            case 7: return past.known;
            case 8: return script.size;
            default: return BAD;
        }
    }

    public long digest() {
        long h = 17;
        for (int l = 0; l < page.lines; l++) {
            h = 31 * h + layout.wides[l];
            for (int k = 0; k < layout.cells[l]; k++) {
                int width = layout.widths[l * COLUMNS + k];
                for (int x = 0; x < width; x++) {
                    h = 31 * h + layout.shownInCell(page, l, k, x);
                }
            }
            for (int p = layout.tails[l]; p < page.sizes[l]; p++) {
                h = 31 * h + page.signAt(l, p);
            }
        }
        return h;
    }

    // ---- images

    public int keep(int image) {
        if (image < 0 || image >= IMAGES) {
            return BAD;
        }
        Image kept = images[image];
        kept.page.copyFrom(page);
        kept.past.copyFrom(past);
        kept.isKept = true;
        return page.lines;
    }

    public int back(int image) {
        if (image < 0 || image >= IMAGES) {
            return BAD;
        }
        Image kept = images[image];
        if (!kept.isKept) {
            return STATE;
        }
        page.copyFrom(kept.page);
        past.copyFrom(kept.past);
        layout.lay(page);
        changed = 0;
        return page.lines;
    }

    // ---- inside: a negative answer of these says that the COMMAND is REFUSED

    private int perform() {
        int first = script.first;
        int second = script.second;
        switch (script.verb) {
            case ADD: return addLine(first);
            case DROP: return dropLine(first);
            case SPLIT: return split(first, second);
            case JOIN: return join(first);
            case PUT: return put(first, second, script.bytes[script.from]);
            case CUT: return cut(first, second);
            case ALIGN: return setAlign(first, second);
            case PAD: return setPad(first);
            case LEAST: return setLeast(first);
            default: return BAD;
        }
    }

    private int addLine(int line) {
        if (line < 0 || line > page.lines) {
            return BAD;
        }
        if (page.lines >= MOST_LINES) {
            return FULL;
        }
        past.remember(page);
        page.openLine(line);
        if (!script.isLoneDash()) {
            for (int i = script.from; i < script.to; i++) {
                page.insertSign(line, i - script.from, script.bytes[i]);
            }
        }
        settle(line, NONE);
        return page.lines;
    }

    private int dropLine(int line) {
        if (!page.hasLine(line)) {
            return BAD;
        }
        past.remember(page);
        page.closeLine(line);
        settle(NONE, line);
        return page.lines;
    }

    private int setAlign(int k, int align) {
        if (k < 0 || k >= COLUMNS || align < 0 || align >= ALIGNS) {
            return BAD;
        }
        past.remember(page);
        page.aligns[k] = align;
        settle(NONE, NONE);
        return align;
    }

    private int setPad(int pad) {
        if (pad < 0 || pad > MOST_PAD) {
            return BAD;
        }
        past.remember(page);
        page.pad = pad;
        settle(NONE, NONE);
        return pad;
    }

    private int setLeast(int least) {
        if (least < 0 || least > MOST_LEAST) {
            return BAD;
        }
        past.remember(page);
        page.least = least;
        settle(NONE, NONE);
        return least;
    }

    /**
     * Lays the page anew behind a COMMAND that was done and finds CHANGED.
     * The LINE opened (of now) is new, the LINE closed (of before) is gone.
     */
    private void settle(int opened, int closed) {
        Layout laidBefore = layout;
        layout = former;
        former = laidBefore;
        layout.lay(page);
        changed = 0;
        for (int l = 0; l < page.lines; l++) {
            int was = formerPlace(l, opened, closed);
            if (was < 0 || isLaidAnew(was, l)) {
                changed |= 1 << l;
            }
        }
    }

    private static int formerPlace(int line, int opened, int closed) {
        if (opened >= 0 && line >= opened) {
            return line == opened ? NONE : line - 1;
        }
        return closed >= 0 && line >= closed ? line + 1 : line;
    }

    /** With the same SIGNS and WIDTHS all CELLS BEGIN where they did, so that needs no look. */
    private boolean isLaidAnew(int was, int line) {
        if (!page.hasSameSigns(line, past.latest(), was)) {
            return true;
        }
        for (int k = 0; k < layout.cells[line]; k++) {
            if (layout.widths[line * COLUMNS + k] != former.widths[was * COLUMNS + k]) {
                return true;
            }
        }
        return false;
    }

    /** All that a COMMAND may change, so that a copy of it is enough to undo one. */
    static final class Page {
        int lines;
        int pad = 1;
        int least;
        final int[] sizes = new int[MOST_LINES];
        final int[] signs = new int[MOST_LINES * MOST_SIGNS];
        final int[] aligns = new int[COLUMNS];

        void copyFrom(Page other) {
            lines = other.lines;
            pad = other.pad;
            least = other.least;
            System.arraycopy(other.sizes, 0, sizes, 0, lines);
            System.arraycopy(other.signs, 0, signs, 0, lines * MOST_SIGNS);
            System.arraycopy(other.aligns, 0, aligns, 0, COLUMNS);
        }

        boolean hasLine(int line) {
            return line >= 0 && line < lines;
        }

        boolean hasSign(int line, int at) {
            return hasLine(line) && at >= 0 && at < sizes[line];
        }

        int signAt(int line, int at) {
            return signs[line * MOST_SIGNS + at];
        }

        boolean hasSameSigns(int line, Page other, int otherLine) {
            if (sizes[line] != other.sizes[otherLine]) {
                return false;
            }
            for (int p = 0; p < sizes[line]; p++) {
                if (signAt(line, p) != other.signAt(otherLine, p)) {
                    return false;
                }
            }
            return true;
        }

        /** The caller has seen that there is room for one LINE more. */
        void openLine(int line) {
            int behind = lines - line;
            System.arraycopy(sizes, line, sizes, line + 1, behind);
            System.arraycopy(signs, line * MOST_SIGNS, signs, (line + 1) * MOST_SIGNS, behind * MOST_SIGNS);
            sizes[line] = 0;
            lines++;
        }

        void closeLine(int line) {
            int behind = lines - line - 1;
            System.arraycopy(sizes, line + 1, sizes, line, behind);
            System.arraycopy(signs, (line + 1) * MOST_SIGNS, signs, line * MOST_SIGNS, behind * MOST_SIGNS);
            lines--;
        }

        /** The caller has seen that there is room for one SIGN more. */
        void insertSign(int line, int at, int sign) {
            int place = line * MOST_SIGNS + at;
            System.arraycopy(signs, place, signs, place + 1, sizes[line] - at);
            signs[place] = sign;
            sizes[line]++;
        }

        void removeSign(int line, int at) {
            int place = line * MOST_SIGNS + at;
            System.arraycopy(signs, place + 1, signs, place, sizes[line] - at - 1);
            sizes[line]--;
        }

        /** What is from a place on goes behind all of another LINE, where the caller has seen room. */
        void moveSigns(int from, int at, int to) {
            int moved = sizes[from] - at;
            System.arraycopy(signs, from * MOST_SIGNS + at, signs, to * MOST_SIGNS + sizes[to], moved);
            sizes[to] += moved;
            sizes[from] = at;
        }
    }

    /** The pages ahead of the latest COMMANDS, in a ring, so that the oldest is lost without a move. */
    static final class Past {
        int known;
        private int oldest;
        private final Page[] pages = new Page[MOST_UNDONE];

        Past() {
            for (int i = 0; i < MOST_UNDONE; i++) {
                pages[i] = new Page();
            }
        }

        private int slot(int age) {
            return (oldest + age) % MOST_UNDONE;
        }

        void remember(Page page) {
            if (known == MOST_UNDONE) {
                oldest = slot(1);
                known--;
            }
            pages[slot(known)].copyFrom(page);
            known++;
        }

        /** If none is known it is a page of no meaning, never null. */
        Page latest() {
            return pages[slot(known == 0 ? 0 : known - 1)];
        }

        void forgetLatest() {
            if (known > 0) {
                known--;
            }
        }

        void copyFrom(Past other) {
            known = other.known;
            oldest = other.oldest;
            for (int age = 0; age < known; age++) {
                pages[slot(age)].copyFrom(other.pages[slot(age)]);
            }
        }
    }

    static final class Image {
        boolean isKept;
        final Page page = new Page();
        final Past past = new Past();
    }

    /** What was measured of one BLOCK: need is its WIDTH without LEAST and PAD. */
    static final class Block {
        int first;
        int last;
        int mostAhead;
        int need;
        int width;
    }

    /** Where all of a page stands; row elements of CELL k of a LINE are at LINE * COLUMNS + k. */
    static final class Layout {
        int blocks;
        final int[] cells = new int[MOST_LINES];
        final int[] tails = new int[MOST_LINES];
        final int[] tailBegins = new int[MOST_LINES];
        final int[] wides = new int[MOST_LINES];
        final int[] sizes = new int[MOST_LINES * COLUMNS];
        final int[] widths = new int[MOST_LINES * COLUMNS];
        final int[] begins = new int[MOST_LINES * COLUMNS];
        private int lines;
        private final Block block = new Block();
        private final int[] starts = new int[MOST_LINES * COLUMNS];
        private final int[] aheads = new int[MOST_LINES * COLUMNS];
        private final int[] mostAheads = new int[MOST_LINES * COLUMNS];

        void lay(Page page) {
            lines = page.lines;
            for (int l = 0; l < lines; l++) {
                partIntoCells(page, l);
            }
            blocks = 0;
            for (int l = 0; l < lines; l++) {
                for (int k = 0; k < cells[l]; k++) {
                    if (l == 0 || cells[l - 1] <= k) {
                        measure(page, l, k, NONE);
                        spreadBlock(k);
                        blocks++;
                    }
                }
            }
            for (int l = 0; l < lines; l++) {
                placeCells(page, l);
            }
        }

        private void partIntoCells(Page page, int line) {
            int k = 0;
            int start = 0;
            int point = NONE;
            for (int p = 0; p < page.sizes[line]; p++) {
                int sign = page.signAt(line, p);
                if (sign == TAB) {
                    int i = line * COLUMNS + k;
                    starts[i] = start;
                    sizes[i] = p - start;
                    aheads[i] = point == NONE ? p - start : point - start;
                    k++;
                    start = p + 1;
                    point = NONE;
                } else if (sign == POINT_SIGN && point == NONE) {
                    point = p;
                }
            }
            cells[line] = k;
            tails[line] = start;
        }

        private void spreadBlock(int k) {
            for (int l = block.first; l <= block.last; l++) {
                widths[l * COLUMNS + k] = block.width;
                mostAheads[l * COLUMNS + k] = block.mostAhead;
            }
        }

        /** The CELL of the LINE shorter counts with its last SIGN fewer, so that SAVES can be asked. */
        private void measure(Page page, int line, int k, int shorter) {
            int mostSize = 0;
            int mostAhead = 0;
            int mostBehind = 0;
            block.first = firstOfBlock(line, k);
            block.last = lastOfBlock(line, k);
            for (int l = block.first; l <= block.last; l++) {
                int i = l * COLUMNS + k;
                int size = l == shorter ? sizes[i] - 1 : sizes[i];
                int ahead = Math.min(aheads[i], size);
                mostSize = Math.max(mostSize, size);
                mostAhead = Math.max(mostAhead, ahead);
                mostBehind = Math.max(mostBehind, size - ahead);
            }
            block.mostAhead = mostAhead;
            block.need = page.aligns[k] == POINT ? mostAhead + mostBehind : mostSize;
            block.width = Math.max(block.need, page.least) + page.pad;
        }

        private void placeCells(Page page, int line) {
            int x = 0;
            for (int k = 0; k < cells[line]; k++) {
                begins[line * COLUMNS + k] = x;
                x += widths[line * COLUMNS + k];
            }
            tailBegins[line] = x;
            wides[line] = x + page.sizes[line] - tails[line];
        }

        int firstOfBlock(int line, int k) {
            int first = line;
            while (first > 0 && cells[first - 1] > k) {
                first--;
            }
            return first;
        }

        int lastOfBlock(int line, int k) {
            int last = line;
            while (last + 1 < lines && cells[last + 1] > k) {
                last++;
            }
            return last;
        }

        int widest(Page page, int line, int k) {
            measure(page, line, k, NONE);
            if (block.need < page.least) {
                return NONE;
            }
            boolean byPoint = page.aligns[k] == POINT;
            int most = byPoint ? block.mostAhead : block.need;
            for (int l = block.first; l <= block.last; l++) {
                int i = l * COLUMNS + k;
                if ((byPoint ? aheads[i] : sizes[i]) == most) {
                    return l;
                }
            }
            return NONE;
        }

        int saves(Page page, int line, int k) {
            int i = line * COLUMNS + k;
            if (sizes[i] == 0) {
                return 0;
            }
            measure(page, line, k, line);
            return (widths[i] - block.width) * (block.last - block.first + 1);
        }

        /** The caller has seen that the place is ahead of the TAIL. */
        int cellAt(int line, int x) {
            int k = 0;
            while (k + 1 < cells[line] && begins[line * COLUMNS + k + 1] <= x) {
                k++;
            }
            return k;
        }

        int shownInCell(Page page, int line, int k, int x) {
            int i = line * COLUMNS + k;
            int p = x - leadOf(page, i, page.aligns[k]);
            return p >= 0 && p < sizes[i] ? page.signAt(line, starts[i] + p) : BLANK;
        }

        private int leadOf(Page page, int i, int align) {
            int free = widths[i] - page.pad - sizes[i];
            switch (align) {
                case RIGHT: return free;
                case MIDDLE: return free / 2;
                case POINT: return mostAheads[i] - aheads[i];
                default: return 0;
            }
        }

        int widestLine() {
            int most = 0;
            for (int l = 0; l < lines; l++) {
                most = Math.max(most, wides[l]);
            }
            return most;
        }

        int allTogether() {
            int sum = 0;
            for (int l = 0; l < lines; l++) {
                sum += wides[l];
            }
            return sum;
        }
    }

    /** THE TEXT and a reader of its COMMANDS, one at a time. */
    static final class Script {
        final int[] bytes = new int[MOST_BYTES];
        int size;
        int verb;
        int first;
        int second;
        int from;
        int to;
        private int at;
        private int fault;

        void rewind() {
            at = 0;
            fault = NONE;
        }

        /** Negative if there is none. */
        int firstFault() {
            rewind();
            int read = 0;
            while (read < MOST_BYTES && readCommand()) {
                read++;
            }
            return fault;
        }

        /** False at the text's end and at a FAULT. */
        boolean readCommand() {
            skipBlanks();
            if (at >= size || !readWord()) {
                return false;
            }
            verb = verbOfWord();
            if (verb < 0) {
                return failAt(from);
            }
            String shape = shapeOf(verb);
            for (int i = 0; i < shape.length(); i++) {
                if (!readWord()) {
                    return false;
                }
                if (!takeWord(shape.charAt(i), i)) {
                    return failAt(from);
                }
            }
            return readEnd();
        }

        private boolean failAt(int place) {
            fault = place;
            return false;
        }

        private void skipBlanks() {
            while (at < size && bytes[at] == BLANK) {
                at++;
            }
        }

        /** A word that does not begin where one must is a text that ends, a ; or a wrong byte: all FAULTS there. */
        private boolean readWord() {
            skipBlanks();
            from = at;
            while (at < size && isSign(bytes[at])) {
                at++;
            }
            to = at;
            return to > from || failAt(at);
        }

        private boolean readEnd() {
            skipBlanks();
            if (at >= size || bytes[at] != END_OF_COMMAND) {
                return failAt(at);
            }
            at++;
            return true;
        }

        private boolean takeWord(char kind, int i) {
            switch (kind) {
                case NUMBER_WORD: return takeNumber(i == 0);
                case ALIGN_WORD: return takeAlign();
                case SIGN_WORD: return to - from == 1;
                case SIGNS_WORD: return to - from <= MOST_SIGNS;
                default: return false;
            }
        }

        private boolean takeNumber(boolean isFirst) {
            int figures = to - from;
            if (figures > MOST_FIGURES || figures > 1 && bytes[from] == '0') {
                return false;
            }
            int number = 0;
            for (int i = from; i < to; i++) {
                if (!isFigure(bytes[i])) {
                    return false;
                }
                number = 10 * number + bytes[i] - '0';
            }
            if (isFirst) {
                first = number;
            } else {
                second = number;
            }
            return true;
        }

        private boolean takeAlign() {
            for (int a = 0; a < ALIGNS; a++) {
                if (isWord(nameOfAlign(a))) {
                    second = a;
                    return true;
                }
            }
            return false;
        }

        private int verbOfWord() {
            for (int v = 0; v < VERBS; v++) {
                if (isWord(nameOfVerb(v))) {
                    return v;
                }
            }
            return NONE;
        }

        private boolean isWord(String name) {
            if (name.length() != to - from) {
                return false;
            }
            for (int i = 0; i < name.length(); i++) {
                if (name.charAt(i) != bytes[from + i]) {
                    return false;
                }
            }
            return true;
        }

        boolean isLoneDash() {
            return to - from == 1 && bytes[from] == DASH;
        }

        static boolean isSign(int c) {
            return c >= 'a' && c <= 'z' || isFigure(c) || c == POINT_SIGN || c == DASH || c == TAB;
        }

        private static boolean isFigure(int c) {
            return c >= '0' && c <= '9';
        }

        private static String nameOfAlign(int align) {
            switch (align) {
                case LEFT: return "left";
                case RIGHT: return "right";
                case MIDDLE: return "middle";
                default: return "point";
            }
        }

        private static String nameOfVerb(int verb) {
            switch (verb) {
                case ADD: return "add";
                case DROP: return "drop";
                case SPLIT: return "split";
                case JOIN: return "join";
                case PUT: return "put";
                case CUT: return "cut";
                case ALIGN: return "align";
                case PAD: return "pad";
                default: return "least";
            }
        }

        private static String shapeOf(int verb) {
            switch (verb) {
                case ADD: return "nt";
                case SPLIT: return "nn";
                case PUT: return "nns";
                case CUT: return "nn";
                case ALIGN: return "nw";
                default: return "n";
            }
        }
    }
}
