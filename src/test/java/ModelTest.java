import java.util.Random;

/**
 * Many runs of calls, the same every time, on ElasticTabs and on the plain model of the document.
 * It looks at all there is behind each call, so that an object gets more calls than the 512 that
 * are promised: the class has no count of calls that could make that matter.
 */
public final class ModelTest {
    private static final String SIGNS = "abz019..--||||||";
    private static final String[] VERBS = {"add", "add", "add", "drop", "split", "join", "put", "cut", "align",
        "pad", "least"};
    private static final String[] WORDS = {"left", "right", "middle", "point", "poin", "0"};
    private static final String[] JUNK = {";", " ", "  ;", "add", "add 0", "00", "01", "1000", "A", "#", "\n", "\t",
        "ad", "put 0 0 ab;", "-", "|", "pad 1 1;", "align 0 lef;", "drop;", "x;", "add 0 aaaaaaaaaaaaaaaaaaaaaaaaa;"};

    private static final int RUNS = 400;
    private static final int STEPS = 40;

    private final Due due;
    private final Random random;
    private final ElasticTabs real = new ElasticTabs();
    private final Model model = new Model();
    private final String name;

    private ModelTest(int seed, Due due) {
        this.due = due;
        random = new Random(seed);
        name = "seed " + seed + ": ";
    }

    public static void main(String[] args) {
        Due due = new Due();
        for (int seed = 1; seed <= RUNS && due.wrong() == 0; seed++) {
            ModelTest test = new ModelTest(seed, due);
            for (int step = 0; step < STEPS && due.wrong() == 0; step++) {
                test.step();
            }
        }
        due.end("ModelTest");
    }

    private void same(String call, long got, long want) {
        due.is(name + call, got, want);
    }

    private int small(int bound) {
        return random.nextInt(bound + 2) - 1;
    }

    private int number(int most) {
        return random.nextInt(12) == 0 ? random.nextInt(1000) : random.nextInt(most + 1);
    }

    private String signs(int most) {
        StringBuilder text = new StringBuilder();
        int size = 1 + random.nextInt(most);
        for (int i = 0; i < size; i++) {
            text.append(SIGNS.charAt(random.nextInt(SIGNS.length())));
        }
        return text.toString();
    }

    private String command() {
        String verb = VERBS[random.nextInt(VERBS.length)];
        int lines = Math.max(1, model.count(0));
        String rest = switch (verb) {
            case "add" -> number(lines) + " " + (random.nextInt(8) == 0 ? "-" : signs(random.nextInt(6) == 0 ? 24 : 9));
            case "drop", "join" -> "" + number(lines);
            case "split", "cut" -> number(lines) + " " + number(8);
            case "put" -> number(lines) + " " + number(8) + " " + signs(1);
            case "align" -> number(random.nextInt(4) == 0 ? 25 : 3) + " " + WORDS[random.nextInt(random.nextInt(9) == 0 ? 6 : 4)];
            case "pad" -> "" + number(5);
            default -> "" + number(10);
        };
        return verb + " " + rest + (random.nextInt(9) == 0 ? " ; " : ";");
    }

    private void typeAndRun() {
        StringBuilder text = new StringBuilder();
        int commands = 1 + random.nextInt(6);
        for (int i = 0; i < commands; i++) {
            text.append(random.nextInt(25) == 0 ? JUNK[random.nextInt(JUNK.length)] : command());
        }
        for (int i = 0; i < text.length(); i++) {
            same("type", real.type(text.charAt(i)), model.type(text.charAt(i)));
        }
        same("run() of '" + text + "'", real.run(), model.run());
        same("bytes", real.count(8), model.count(8));
        if (random.nextInt(2) == 0) {
            same("clear()", real.clear(), model.clear());
        }
    }

    private void step() {
        int l = small(model.count(0));
        int p = small(model.line(l, 0) < 0 ? 24 : model.line(l, 0) + 1);
        switch (random.nextInt(14)) {
            case 0, 1, 2, 3 -> typeAndRun();
            case 4, 5 -> {
                int s = random.nextInt(9) == 0 ? random.nextInt(300) - 20 : SIGNS.charAt(random.nextInt(SIGNS.length()));
                same("put(" + l + ", " + p + ", " + s + ")", real.put(l, p, s), model.put(l, p, s));
            }
            case 6 -> same("cut(" + l + ", " + p + ")", real.cut(l, p), model.cut(l, p));
            case 7, 8 -> same("split(" + l + ", " + p + ")", real.split(l, p), model.split(l, p));
            case 9 -> same("join(" + l + ")", real.join(l), model.join(l));
            case 10, 11 -> same("undo()", real.undo(), model.undo());
            case 12 -> {
                int i = small(2);
                same("keep(" + i + ")", real.keep(i), model.keep(i));
            }
            default -> {
                int i = small(2);
                same("back(" + i + ")", real.back(i), model.back(i));
            }
        }
        lookAtAll();
    }

    private void lookAtAll() {
        for (int what = -1; what <= 9; what++) {
            same("count(" + what + ")", real.count(what), model.count(what));
        }
        same("digest()", real.digest(), model.digest());
        for (int k = -1; k <= 24; k++) {
            same("align(" + k + ")", real.align(k), model.align(k));
        }
        for (int l = -1; l <= model.count(0); l++) {
            lookAtLine(l);
        }
    }

    private void lookAtLine(int l) {
        for (int what = -1; what <= 4; what++) {
            same("line(" + l + ", " + what + ")", real.line(l, what), model.line(l, what));
        }
        for (int i = -1; i <= model.line(l, 0); i++) {
            same("sign(" + l + ", " + i + ")", real.sign(l, i), model.sign(l, i));
        }
        for (int x = -1; x <= model.line(l, 2); x++) {
            same("shown(" + l + ", " + x + ")", real.shown(l, x), model.shown(l, x));
        }
        for (int k = -1; k <= model.line(l, 1); k++) {
            for (int what = -1; what <= 7; what++) {
                same("cell(" + l + ", " + k + ", " + what + ")", real.cell(l, k, what), model.cell(l, k, what));
            }
        }
    }
}
