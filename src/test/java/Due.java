/** Counts the answers that are not the ones that are due, and tells them. */
final class Due {
    private String name = "";
    private int right;
    private int wrong;

    /** What is told ahead of each wrong answer from now on. */
    void name(String name) {
        this.name = name;
    }

    void is(String what, long got, long want) {
        if (got == want) {
            right++;
            return;
        }
        wrong++;
        System.out.println(name + what + " answered " + got + ", due is " + want);
    }

    void is(String what, String got, String want) {
        if (got.equals(want)) {
            right++;
            return;
        }
        wrong++;
        System.out.println(name + what + " answered '" + got + "', due is '" + want + "'");
    }

    void holds(String what, boolean holds) {
        is(what, holds ? 1 : 0, 1);
    }

    int wrong() {
        return wrong;
    }

    void end(String name) {
        System.out.println(name + ": " + right + " answers as due, " + wrong + " not");
        if (wrong != 0 || right == 0) {
            System.exit(1);
        }
    }

    static void type(ElasticTabs x, String text) {
        for (int i = 0; i < text.length(); i++) {
            x.type(text.charAt(i));
        }
    }

    static int run(ElasticTabs x, String text) {
        x.clear();
        type(x, text);
        return x.run();
    }

    static ElasticTabs with(String text) {
        ElasticTabs x = new ElasticTabs();
        run(x, text);
        return x;
    }

    /** A LINE's SIGNS, as text. */
    static String signs(ElasticTabs x, int line) {
        StringBuilder text = new StringBuilder();
        for (int i = 0; i < x.line(line, 0); i++) {
            text.append((char) x.sign(line, i));
        }
        return text.toString();
    }

    static String allSigns(ElasticTabs x) {
        StringBuilder text = new StringBuilder();
        for (int l = 0; l < x.count(0); l++) {
            text.append(l == 0 ? "" : "/").append(signs(x, l));
        }
        return text.toString();
    }

    /** A LINE as it is SHOWN. */
    static String shown(ElasticTabs x, int line) {
        StringBuilder text = new StringBuilder();
        for (int i = 0; i < x.line(line, 2); i++) {
            text.append((char) x.shown(line, i));
        }
        return text.toString();
    }

    /** All that can be asked of an object, so that two of them tell whether anything changed. */
    static String state(ElasticTabs x) {
        StringBuilder text = new StringBuilder(allSigns(x));
        for (int what = 0; what <= 8; what++) {
            text.append(' ').append(x.count(what));
        }
        for (int k = 0; k < 24; k++) {
            text.append(' ').append(x.align(k));
        }
        return text.append(' ').append(x.digest()).toString();
    }

    static ElasticTabs withLines(int lines, String signs) {
        ElasticTabs x = new ElasticTabs();
        for (int l = 0; l < lines; l++) {
            run(x, "add " + l + " " + signs + ";");
        }
        return x;
    }

    /** One row a LINE, parted by slashes, as it is SHOWN. */
    static String allShown(ElasticTabs x) {
        StringBuilder text = new StringBuilder();
        for (int l = 0; l < x.count(0); l++) {
            text.append(l == 0 ? "" : "/").append(shown(x, l));
        }
        return text.toString();
    }
}
