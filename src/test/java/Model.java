import java.util.ArrayList;
import java.util.HashMap;
import java.util.List;
import java.util.Map;

/**
 * The document once more, in its plainest form: texts and lists, nothing kept,
 * all asked anew. It stands against ElasticTabs in ModelTest.
 */
final class Model {
    static final int BAD = -1, STATE = -2, FULL = -3, NONE = -9;

    /** A LINE is the same, wherever it stands: by its id. */
    record Line(int id, String signs) { }

    record Page(List<Line> lines, int pad, int least, List<Integer> aligns) { }

    record Image(Page page, List<Page> past) { }

    private Page now;
    private List<Page> past = new ArrayList<>();
    private final Image[] images = new Image[2];
    private String text = "";
    private int changed;
    private int nextId;

    Model() {
        List<Integer> aligns = new ArrayList<>();
        for (int k = 0; k < 24; k++) {
            aligns.add(0);
        }
        now = new Page(List.of(), 1, 0, aligns);
    }

    // ---- what a page is

    static List<String> cells(String signs) {
        List<String> cells = new ArrayList<>(List.of(signs.split("\\|", -1)));
        cells.remove(cells.size() - 1);
        return cells;
    }

    static String tail(String signs) {
        return signs.substring(signs.lastIndexOf('|') + 1);
    }

    static int ahead(String cell) {
        return cell.indexOf('.') < 0 ? cell.length() : cell.indexOf('.');
    }

    static List<Integer> block(Page p, int line, int k) {
        List<Integer> block = new ArrayList<>();
        for (int l = line; l >= 0 && cells(p.lines.get(l).signs).size() > k; l--) {
            block.add(0, l);
        }
        for (int l = line + 1; l < p.lines.size() && cells(p.lines.get(l).signs).size() > k; l++) {
            block.add(l);
        }
        return block;
    }

    static int mostAhead(Page p, int line, int k) {
        return block(p, line, k).stream().mapToInt(l -> ahead(cells(p.lines.get(l).signs).get(k))).max().orElse(0);
    }

    static int need(Page p, int line, int k) {
        List<String> all = new ArrayList<>();
        for (int l : block(p, line, k)) {
            all.add(cells(p.lines.get(l).signs).get(k));
        }
        if (p.aligns.get(k) != 3) {
            return all.stream().mapToInt(String::length).max().orElse(0);
        }
        return mostAhead(p, line, k) + all.stream().mapToInt(c -> c.length() - ahead(c)).max().orElse(0);
    }

    static int width(Page p, int line, int k) {
        return Math.max(need(p, line, k), p.least) + p.pad;
    }

    static String shownCell(Page p, int line, int k) {
        String cell = cells(p.lines.get(line).signs).get(k);
        int width = width(p, line, k);
        int free = width - cell.length() - p.pad;
        int lead = switch (p.aligns.get(k)) {
            case 1 -> free;
            case 2 -> (free - free % 2) / 2;
            case 3 -> mostAhead(p, line, k) - ahead(cell);
            default -> 0;
        };
        String led = " ".repeat(lead) + cell;
        return led + " ".repeat(width - led.length());
    }

    static String shownLine(Page p, int line) {
        StringBuilder shown = new StringBuilder();
        String signs = p.lines.get(line).signs;
        for (int k = 0; k < cells(signs).size(); k++) {
            shown.append(shownCell(p, line, k));
        }
        return shown.append(tail(signs)).toString();
    }

    static int together(Page p) {
        int sum = 0;
        for (int l = 0; l < p.lines.size(); l++) {
            sum += shownLine(p, l).length();
        }
        return sum;
    }

    static List<Integer> begins(Page p, int line) {
        List<Integer> begins = new ArrayList<>(List.of(0));
        for (int k = 0; k < cells(p.lines.get(line).signs).size(); k++) {
            begins.add(begins.get(k) + width(p, line, k));
        }
        return begins;
    }

    // ---- commands

    private boolean done(Page then) {
        Map<Integer, Integer> was = new HashMap<>();
        for (int l = 0; l < now.lines.size(); l++) {
            was.put(now.lines.get(l).id, l);
        }
        changed = 0;
        for (int l = 0; l < then.lines.size(); l++) {
            Integer old = was.get(then.lines.get(l).id);
            if (old == null || !now.lines.get(old).signs.equals(then.lines.get(l).signs)
                    || !begins(now, old).equals(begins(then, l))) {
                changed |= 1 << l;
            }
        }
        past.add(now);
        if (past.size() > 10) {
            past.remove(0);
        }
        now = then;
        return true;
    }

    private boolean done(List<Line> lines) {
        return done(new Page(List.copyOf(lines), now.pad, now.least, now.aligns));
    }

    private boolean has(int line) {
        return line >= 0 && line < now.lines.size();
    }

    private String signs(int line) {
        return now.lines.get(line).signs;
    }

    private int replace(int line, String signs) {
        List<Line> lines = new ArrayList<>(now.lines);
        lines.set(line, new Line(lines.get(line).id, signs));
        done(lines);
        return signs.length();
    }

    int put(int line, int at, int sign) {
        if (!has(line) || at < 0 || at > signs(line).length() || !isSign(sign)) {
            return BAD;
        }
        if (signs(line).length() == 24) {
            return FULL;
        }
        return replace(line, signs(line).substring(0, at) + (char) sign + signs(line).substring(at));
    }

    int cut(int line, int at) {
        if (!has(line) || at < 0 || at >= signs(line).length()) {
            return BAD;
        }
        int gone = signs(line).charAt(at);
        replace(line, signs(line).substring(0, at) + signs(line).substring(at + 1));
        return gone;
    }

    int split(int line, int at) {
        if (!has(line) || at < 0 || at > signs(line).length()) {
            return BAD;
        }
        if (now.lines.size() == 12) {
            return FULL;
        }
        List<Line> lines = new ArrayList<>(now.lines);
        lines.set(line, new Line(lines.get(line).id, signs(line).substring(0, at)));
        lines.add(line + 1, new Line(nextId++, signs(line).substring(at)));
        done(lines);
        return lines.size();
    }

    int join(int line) {
        if (!has(line) || !has(line + 1)) {
            return BAD;
        }
        String both = signs(line) + signs(line + 1);
        if (both.length() > 24) {
            return FULL;
        }
        List<Line> lines = new ArrayList<>(now.lines);
        lines.set(line, new Line(lines.get(line).id, both));
        lines.remove(line + 1);
        done(lines);
        return lines.size();
    }

    private boolean add(int line, String signs) {
        if (line > now.lines.size() || now.lines.size() == 12) {
            return false;
        }
        List<Line> lines = new ArrayList<>(now.lines);
        lines.add(line, new Line(nextId++, signs.equals("-") ? "" : signs));
        return done(lines);
    }

    private boolean drop(int line) {
        if (!has(line)) {
            return false;
        }
        List<Line> lines = new ArrayList<>(now.lines);
        lines.remove(line);
        return done(lines);
    }

    private boolean alignTo(int k, String word) {
        if (k > 23) {
            return false;
        }
        List<Integer> aligns = new ArrayList<>(now.aligns);
        aligns.set(k, List.of("left", "right", "middle", "point").indexOf(word));
        return done(new Page(now.lines, now.pad, now.least, aligns));
    }

    private boolean pad(int n) {
        return n <= 4 && done(new Page(now.lines, n, now.least, now.aligns));
    }

    private boolean least(int n) {
        return n <= 9 && done(new Page(now.lines, now.pad, n, now.aligns));
    }

    int undo() {
        if (past.isEmpty()) {
            return STATE;
        }
        now = past.remove(past.size() - 1);
        changed = 0;
        return past.size();
    }

    int keep(int image) {
        if (image != 0 && image != 1) {
            return BAD;
        }
        images[image] = new Image(now, List.copyOf(past));
        return now.lines.size();
    }

    int back(int image) {
        if (image != 0 && image != 1) {
            return BAD;
        }
        if (images[image] == null) {
            return STATE;
        }
        now = images[image].page;
        past = new ArrayList<>(images[image].past);
        changed = 0;
        return now.lines.size();
    }

    // ---- THE TEXT

    static boolean isSign(int c) {
        return "abcdefghijklmnopqrstuvwxyz0123456789.-|".indexOf(c) >= 0;
    }

    int type(int c) {
        if (c < 0 || c > 255) {
            return BAD;
        }
        if (text.length() == 150) {
            return FULL;
        }
        text += (char) c;
        return text.length();
    }

    int clear() {
        int had = text.length();
        text = "";
        return had;
    }

    private static final Map<String, String> SHAPES = Map.of("add", "NT", "drop", "N", "split", "NN",
            "join", "N", "put", "NNS", "cut", "NN", "align", "NW", "pad", "N", "least", "N");

    private static boolean fits(String word, char kind) {
        return switch (kind) {
            case 'N' -> word.matches("0|[1-9][0-9]{0,2}");
            case 'T' -> word.matches("[a-z0-9.|-]{1,24}");
            case 'S' -> word.matches("[a-z0-9.|-]");
            default -> word.matches("left|right|middle|point");
        };
    }

    /** Fills the COMMANDS; answers the FAULT, or -1. */
    private int read(List<List<String>> commands) {
        List<String> words = new ArrayList<>();
        int at = 0;
        while (at < text.length()) {
            char c = text.charAt(at);
            String shape = words.isEmpty() ? null : SHAPES.get(words.get(0));
            if (c == ' ') {
                at++;
            } else if (c == ';') {
                if (shape == null || words.size() != shape.length() + 1) {
                    return at;
                }
                commands.add(words);
                words = new ArrayList<>();
                at++;
            } else if (!isSign(c)) {
                return at;
            } else {
                int to = at;
                while (to < text.length() && isSign(text.charAt(to))) {
                    to++;
                }
                String word = text.substring(at, to);
                boolean fits = shape == null ? SHAPES.containsKey(word)
                        : words.size() <= shape.length() && fits(word, shape.charAt(words.size() - 1));
                if (!fits) {
                    return at;
                }
                words.add(word);
                at = to;
            }
        }
        return words.isEmpty() ? -1 : text.length();
    }

    int run() {
        List<List<String>> commands = new ArrayList<>();
        int fault = read(commands);
        if (fault >= 0) {
            return -10 - fault;
        }
        text = "";
        int done = 0;
        for (List<String> words : commands) {
            done += perform(words) ? 1 : 0;
        }
        return done;
    }

    private boolean perform(List<String> w) {
        int a = Integer.parseInt(w.get(1));
        return switch (w.get(0)) {
            case "add" -> add(a, w.get(2));
            case "drop" -> drop(a);
            case "split" -> split(a, Integer.parseInt(w.get(2))) >= 0;
            case "join" -> join(a) >= 0;
            case "put" -> put(a, Integer.parseInt(w.get(2)), w.get(3).charAt(0)) >= 0;
            case "cut" -> cut(a, Integer.parseInt(w.get(2))) >= 0;
            case "align" -> alignTo(a, w.get(2));
            case "pad" -> pad(a);
            default -> least(a);
        };
    }

    // ---- what there is

    int line(int line, int what) {
        if (!has(line)) {
            return BAD;
        }
        return switch (what) {
            case 0 -> signs(line).length();
            case 1 -> cells(signs(line)).size();
            case 2 -> shownLine(now, line).length();
            case 3 -> shownLine(now, line).length() - tail(signs(line)).length();
            default -> BAD;
        };
    }

    int sign(int line, int i) {
        return has(line) && i >= 0 && i < signs(line).length() ? signs(line).charAt(i) : BAD;
    }

    int cell(int line, int k, int what) {
        if (!has(line) || k < 0 || k >= cells(signs(line)).size()) {
            return BAD;
        }
        List<Integer> block = block(now, line, k);
        return switch (what) {
            case 0 -> cells(signs(line)).get(k).length();
            case 1 -> width(now, line, k);
            case 2 -> begins(now, line).get(k);
            case 3 -> block.get(0);
            case 4 -> block.get(block.size() - 1);
            case 5 -> widest(line, k);
            case 6 -> saves(line, k);
            default -> BAD;
        };
    }

    private int widest(int line, int k) {
        if (need(now, line, k) < now.least) {
            return NONE;
        }
        for (int l : block(now, line, k)) {
            String cell = cells(signs(l)).get(k);
            if (now.aligns.get(k) == 3 ? ahead(cell) == mostAhead(now, line, k)
                    : cell.length() == width(now, line, k) - now.pad) {
                return l;
            }
        }
        return NONE;
    }

    private int saves(int line, int k) {
        List<String> cells = cells(signs(line));
        String cell = cells.get(k);
        if (cell.isEmpty()) {
            return 0;
        }
        cells.set(k, cell.substring(0, cell.length() - 1));
        List<Line> lines = new ArrayList<>(now.lines);
        lines.set(line, new Line(0, String.join("|", cells) + "|" + tail(signs(line))));
        return together(now) - together(new Page(lines, now.pad, now.least, now.aligns));
    }

    int shown(int line, int x) {
        if (!has(line)) {
            return BAD;
        }
        String shown = shownLine(now, line);
        return x >= 0 && x < shown.length() ? shown.charAt(x) : BAD;
    }

    int align(int k) {
        return k >= 0 && k < 24 ? now.aligns.get(k) : BAD;
    }

    int count(int what) {
        return switch (what) {
            case 0 -> now.lines.size();
            case 1 -> now.pad;
            case 2 -> now.least;
            case 3 -> changed;
            case 4 -> blocks();
            case 5 -> widestLine();
            case 6 -> together(now);
            case 7 -> past.size();
            case 8 -> text.length();
            default -> BAD;
        };
    }

    private int blocks() {
        int blocks = 0;
        for (int l = 0; l < now.lines.size(); l++) {
            for (int k = 0; k < cells(signs(l)).size(); k++) {
                blocks += block(now, l, k).get(0) == l ? 1 : 0;
            }
        }
        return blocks;
    }

    private int widestLine() {
        int most = 0;
        for (int l = 0; l < now.lines.size(); l++) {
            most = Math.max(most, shownLine(now, l).length());
        }
        return most;
    }

    long digest() {
        long h = 17;
        for (int l = 0; l < now.lines.size(); l++) {
            String shown = shownLine(now, l);
            h = 31 * h + shown.length();
            for (char c : shown.toCharArray()) {
                h = 31 * h + c;
            }
        }
        return h;
    }
}
