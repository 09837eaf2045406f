/** Counts the answers that are not the ones that are due, and tells them. */
final class Due {
    private int right;
    private int wrong;

    void is(String what, long got, long want) {
        if (got == want) {
            right++;
            return;
        }
        wrong++;
        System.out.println(what + " answered " + got + ", due is " + want);
    }

    void is(String what, String got, String want) {
        if (got.equals(want)) {
            right++;
            return;
        }
        wrong++;
        System.out.println(what + " answered '" + got + "', due is '" + want + "'");
    }

    void holds(String what, boolean holds) {
        is(what, holds ? 1 : 0, 1);
    }

    int wrong() {
        return wrong;
    }

    void end(String name) {
        System.out.println(name + ": " + right + " answers as due, " + wrong + " not");
        if (wrong != 0 || right == 0) {
            System.exit(1);
        }
    }

    static void type(ElasticTabs x, String text) {
        for (int i = 0; i < text.length(); i++) {
            x.type(text.charAt(i));
        }
    }

    static int run(ElasticTabs x, String text) {
        x.clear();
        type(x, text);
        return x.run();
    }

    static ElasticTabs with(String text) {
        ElasticTabs x = new ElasticTabs();
        run(x, text);
        return x;
    }

    /** A LINE's SIGNS, as text. */
    static String signs(ElasticTabs x, int line) {
        StringBuilder text = new StringBuilder();
        for (int i = 0; i < x.line(line, 0); i++) {
            text.append((char) x.sign(line, i));
        }
        return text.toString();
    }

    static String allSigns(ElasticTabs x) {
        StringBuilder text = new StringBuilder();
        for (int l = 0; l < x.count(0); l++) {
            text.append(l == 0 ? "" : "/").append(signs(x, l));
        }
        return text.toString();
    }

    /** A LINE as it is SHOWN. */
    static String shown(ElasticTabs x, int line) {
        StringBuilder text = new StringBuilder();
        for (int i = 0; i < x.line(line, 2); i++) {
            text.append((char) x.shown(line, i));
        }
        return text.toString();
    }
}
