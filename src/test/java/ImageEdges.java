/** IMAGES: promises 17 and 18. */
final class ImageEdges {
    private static final int[] FAR = {Integer.MIN_VALUE, Integer.MIN_VALUE + 1, -1, 2, 3, Integer.MAX_VALUE - 1,
        Integer.MAX_VALUE};

    private static ElasticTabs some() {
        return Due.with("add 0 a|b;add 1 1.5|;pad 3;least 4;align 0 point;align 23 middle;");
    }

    // ---- 17: keep

    @Says("keep: An IMAGE (0, 1) is kept: LINES.")
    static void p17BothImages(Due due) {
        ElasticTabs x = new ElasticTabs();
        due.is("of no LINES", x.keep(0), 0);
        Due.run(x, "add 0 a;add 1 b;");
        due.is("of two", x.keep(1), 2);
        due.is("of twelve", Due.withLines(12, "a").keep(0), 12);
    }

    @Says("keep: BAD.")
    static void p17NoSuchImage(Due due) {
        ElasticTabs x = some();
        String before = Due.state(x);
        for (int far : FAR) {
            due.is("keep(" + far + ")", x.keep(far), -1);
        }
        due.is("all", Due.state(x), before);
        due.is("none was kept", x.back(0), -2);
        due.is("none was kept", x.back(1), -2);
    }

    @Says("keep: An IMAGE is kept (and nothing else changes)")
    static void p17NothingElseChanges(Due due) {
        ElasticTabs x = some();
        x.put(0, 0, 'z');
        Due.type(x, "pad");
        String before = Due.state(x);
        x.keep(1);
        due.is("all", Due.state(x), before);
    }

    @Says("keep: An IMAGE is kept (the one that was there is no more)")
    static void p17KeptAnew(Due due) {
        ElasticTabs x = Due.with("add 0 a;");
        x.keep(0);
        Due.run(x, "add 1 b;");
        due.is("keep(0)", x.keep(0), 2);
        Due.run(x, "drop 0;drop 0;");
        due.is("back(0)", x.back(0), 2);
        due.is("LINES", Due.allSigns(x), "a/b");
    }

    // ---- 18: back

    @Says("back: All of that becomes as an IMAGE has it: LINES, PAD, LEAST, ALIGNS")
    static void p18AllOfThat(Due due) {
        ElasticTabs x = some();
        String lines = Due.allSigns(x) + Due.allShown(x);
        x.keep(0);
        Due.run(x, "drop 0;put 0 0 |;add 0 zz|;pad 0;least 0;align 0 right;align 23 left;align 5 right;");
        due.is("back(0)", x.back(0), 2);
        due.is("LINES", Due.allSigns(x) + Due.allShown(x), lines);
        due.is("PAD", x.count(1), 3);
        due.is("LEAST", x.count(2), 4);
        due.is("ALIGN 0", x.align(0), 3);
        due.is("ALIGN 23", x.align(23), 2);
        due.is("ALIGN 5", x.align(5), 0);
        due.is("BLOCKS", x.count(4), 1);
    }

    @Says("back: what may be UNDONE (as it was kept, though all ten are others now)")
    static void p18WhatMayBeUndone(Due due) {
        ElasticTabs x = Due.with("add 0 a;put 0 1 b;put 0 2 c;");
        x.keep(1);
        for (int i = 0; i < 15; i++) {
            x.put(0, 0, 'z');
        }
        x.back(1);
        due.is("may be UNDONE", x.count(7), 3);
        due.is("undo()", x.undo(), 2);
        due.is("LINES", Due.allSigns(x), "ab");
        due.is("undo()", x.undo(), 1);
        due.is("LINES", Due.allSigns(x), "a");
        due.is("undo()", x.undo(), 0);
        due.is("LINES", x.count(0), 0);
        due.is("undo()", x.undo(), -2);
    }

    @Says("back: what may be UNDONE (ten, of which older ones were lost)")
    static void p18TenMayBeUndone(Due due) {
        ElasticTabs x = Due.with("add 0 -;");
        String signs = "abcdefghijklmn";
        for (int i = 0; i < 14; i++) {
            x.put(0, i, signs.charAt(i));
        }
        x.keep(0);
        for (int i = 0; i < 7; i++) {
            x.cut(0, 0);
        }
        x.back(0);
        for (int more = 9; more >= 0; more--) {
            due.is("undo()", x.undo(), more);
            due.is("SIGNS", Due.signs(x, 0), signs.substring(0, 4 + more));
        }
        due.is("undo()", x.undo(), -2);
    }

    @Says("back: what may be UNDONE (none; and back() itself is not what can be)")
    static void p18NothingMayBeUndone(Due due) {
        ElasticTabs x = new ElasticTabs();
        x.keep(0);
        Due.run(x, "add 0 a;pad 2;");
        due.is("back(0)", x.back(0), 0);
        due.is("may be UNDONE", x.count(7), 0);
        due.is("undo()", x.undo(), -2);
        due.is("PAD", x.count(1), 1);
        Due.run(x, "add 0 b;");
        due.is("undo()", x.undo(), 0);
    }

    @Says("back: BAD")
    static void p18NoSuchImage(Due due) {
        ElasticTabs x = some();
        x.keep(0);
        x.keep(1);
        x.put(0, 0, 'z');
        String before = Due.state(x);
        for (int far : FAR) {
            due.is("back(" + far + ")", x.back(far), -1);
        }
        due.is("all", Due.state(x), before);
    }

    @Says("back: STATE: none was kept.")
    static void p18NoneWasKept(Due due) {
        ElasticTabs x = some();
        String before = Due.state(x);
        due.is("back(0)", x.back(0), -2);
        due.is("back(1)", x.back(1), -2);
        due.is("all", Due.state(x), before);
        x.keep(1);
        due.is("back(0), the other one was", x.back(0), -2);
        due.is("back(1)", x.back(1), 2);
    }

    @Says("Refused, the first of these: BAD, STATE, FULL")
    static void p18BadAheadOfState(Due due) {
        for (int far : FAR) {
            due.is("back(" + far + ")", new ElasticTabs().back(far), -1);
        }
    }

    @Says("An IMAGE of LINES, PAD, LEAST, ALIGNS, what may be UNDONE (THE TEXT is not in it)")
    static void p18TheTextStays(Due due) {
        ElasticTabs x = Due.with("add 0 a;");
        Due.type(x, "drop 0;");
        x.keep(0);
        x.clear();
        Due.type(x, "pad 3;");
        due.is("back(0)", x.back(0), 1);
        due.is("bytes", x.count(8), 6);
        due.is("run()", x.run(), 1);
        due.is("PAD", x.count(1), 3);
        due.is("LINES", x.count(0), 1);
    }

    @Says("back: as an IMAGE has it (it stays as it is, whatever comes behind)")
    static void p18AgainAndAgain(Due due) {
        ElasticTabs x = Due.with("add 0 a|;add 1 b;");
        x.keep(0);
        for (int i = 0; i < 4; i++) {
            due.is("back(0)", x.back(0), 2);
            due.is("LINES", Due.allSigns(x), "a|/b");
            due.is("may be UNDONE", x.count(7), 2);
            x.undo();
            x.put(0, 0, 'z');
            Due.run(x, "add 0 q;align 0 right;pad 0;");
        }
    }

    @Says("An IMAGE (0, 1) (each by itself; IMAGES are not in an IMAGE)")
    static void p18EachByItself(Due due) {
        ElasticTabs x = Due.with("add 0 a;");
        x.keep(0);
        Due.run(x, "add 1 b;");
        x.keep(1);
        due.is("back(0)", x.back(0), 1);
        due.is("back(1)", x.back(1), 2);
        due.is("LINES", Due.allSigns(x), "a/b");
        due.is("back(0)", x.back(0), 1);
        due.is("LINES", Due.allSigns(x), "a");
        x.keep(1);
        due.is("back(1), kept anew", x.back(1), 1);
    }
}
