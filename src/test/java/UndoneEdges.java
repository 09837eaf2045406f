/** What may be UNDONE: promise 9. */
final class UndoneEdges {
    private static final String FIRST = "add 0 a|b;add 1 c|;pad 2;";

    @Says("What is done can be UNDONE (each COMMAND)")
    static void p09EachCommand(Due due) {
        for (String text : new String[] {"add 0 x|;", "add 2 -;", "drop 0;", "drop 1;", "split 0 1;", "split 1 2;",
            "join 0;", "put 0 0 z;", "put 1 2 |;", "cut 0 1;", "align 0 right;", "align 23 point;", "pad 0;",
            "least 9;"}) {
            ElasticTabs x = Due.with(FIRST);
            String lines = Due.allShown(x);
            String before = Due.allSigns(x) + lines + x.count(1) + x.count(2) + x.align(0) + x.align(23);
            due.is("run() of '" + text + "'", Due.run(x, text), 1);
            due.is("undo()", x.undo(), 3);
            String behind = Due.allSigns(x) + Due.allShown(x) + x.count(1) + x.count(2) + x.align(0) + x.align(23);
            due.is("all behind '" + text + "'", behind, before);
        }
    }

    @Says("UNDONE, the latest first: how many more may be")
    static void p09TheLatestFirst(Due due) {
        ElasticTabs x = Due.with("add 0 a;add 1 b;");
        x.put(1, 1, 'c');
        x.split(1, 1);
        due.is("LINES", Due.allSigns(x), "a/b/c");
        due.is("undo()", x.undo(), 3);
        due.is("LINES", Due.allSigns(x), "a/bc");
        due.is("undo()", x.undo(), 2);
        due.is("LINES", Due.allSigns(x), "a/b");
        due.is("undo()", x.undo(), 1);
        due.is("LINES", Due.allSigns(x), "a");
        due.is("undo()", x.undo(), 0);
        due.is("LINES", x.count(0), 0);
    }

    @Says("undo: STATE: none.")
    static void p09None(Due due) {
        ElasticTabs x = new ElasticTabs();
        due.is("undo() of a new one", x.undo(), -2);
        due.is("all", Due.state(x), Due.state(new ElasticTabs()));
        Due.run(x, "add 0 a;");
        due.is("undo()", x.undo(), 0);
        due.is("undo() again", x.undo(), -2);
        due.is("and again", x.undo(), -2);
        due.is("may be UNDONE", x.count(7), 0);
        due.is("a COMMAND behind it", Due.run(x, "add 0 b;"), 1);
        due.is("may be UNDONE", x.count(7), 1);
    }

    @Says("10 are known")
    static void p09TenAreKnown(Due due) {
        ElasticTabs x = Due.with("add 0 -;");
        for (int i = 0; i < 9; i++) {
            x.put(0, i, 'a' + i);
            due.is("may be UNDONE", x.count(7), i + 2);
        }
        for (int more = 9; more >= 0; more--) {
            due.is("undo()", x.undo(), more);
        }
        due.is("all of them", x.count(0), 0);
        due.is("no more", x.undo(), -2);
    }

    @Says("10 are known, older ones are lost")
    static void p09TheEleventhIsLost(Due due) {
        ElasticTabs x = Due.with("add 0 -;");
        for (int i = 0; i < 10; i++) {
            x.put(0, i, 'a' + i);
        }
        due.is("may be UNDONE", x.count(7), 10);
        for (int more = 9; more >= 0; more--) {
            due.is("undo()", x.undo(), more);
            due.is("SIGNS", Due.allSigns(x), "abcdefghij".substring(0, more));
        }
        due.is("the first one is lost", x.undo(), -2);
        due.is("so its LINE stays", x.count(0), 1);
    }

    @Says("older ones are lost (round and round)")
    static void p09ManyAreLost(Due due) {
        ElasticTabs x = Due.with("add 0 -;");
        String signs = "abcdefghijklmnopqrstuvwx";
        for (int i = 0; i < 24; i++) {
            x.put(0, i, signs.charAt(i));
            if (i % 5 == 4) {
                x.undo();
                x.put(0, i, signs.charAt(i));
            }
            due.is("may be UNDONE", x.count(7), Math.min(10, i + 2));
        }
        for (int more = 9; more >= 0; more--) {
            due.is("undo()", x.undo(), more);
            due.is("SIGNS", Due.signs(x, 0), signs.substring(0, 14 + more));
        }
        due.is("no more", x.undo(), -2);
    }

    @Says("What is done can be UNDONE (also if nothing changed by it)")
    static void p09AlsoIfNothingChanged(Due due) {
        ElasticTabs x = Due.with("add 0 a;add 1 -;");
        due.is("run()", Due.run(x, "pad 1;least 0;align 0 left;"), 3);
        due.is("may be UNDONE", x.count(7), 5);
        due.is("undo()", x.undo(), 4);
        due.is("LINES", Due.allSigns(x), "a/");
        for (int i = 0; i < 10; i++) {
            Due.run(x, "pad 1;");
        }
        due.is("they make older ones lost", x.count(7), 10);
        for (int i = 0; i < 10; i++) {
            x.undo();
        }
        due.is("LINES", Due.allSigns(x), "a/");
        due.is("undo()", x.undo(), -2);
    }

    @Says("REFUSED: nothing changes by it (so there is nothing to be UNDONE)")
    static void p09RefusedIsNotKnown(Due due) {
        ElasticTabs x = Due.withLines(12, "aaaaaaaaaaaaaaaaaaaaaaaa");
        due.is("run()", Due.run(x, "drop 12;pad 5;least 10;align 24 left;add 0 a;"), 0);
        x.put(0, 0, 'a');
        x.cut(0, 24);
        x.split(0, 0);
        x.join(0);
        due.is("may be UNDONE", x.count(7), 10);
        due.is("undo()", x.undo(), 9);
        due.is("LINES", x.count(0), 11);
    }

    @Says("run: COMMANDS are done one behind the other (and UNDONE one by one)")
    static void p09OneByOne(Due due) {
        ElasticTabs x = Due.with("add 0 a;pad 3;least 4;");
        due.is("undo()", x.undo(), 2);
        due.is("LEAST", x.count(2), 0);
        due.is("PAD", x.count(1), 3);
        due.is("undo()", x.undo(), 1);
        due.is("PAD", x.count(1), 1);
    }

    @Says("undo: UNDONE (THE TEXT is not what was done)")
    static void p09TheTextStays(Due due) {
        ElasticTabs x = Due.with("add 0 a;");
        Due.type(x, "pad 3;");
        due.is("undo()", x.undo(), 0);
        due.is("bytes", x.count(8), 6);
        due.is("run()", x.run(), 1);
    }

    @Says("UNDONE, the latest first (what was undone is not known any more)")
    static void p09UndoIsNoCommand(Due due) {
        ElasticTabs x = Due.with("add 0 a;add 1 b;");
        x.undo();
        Due.run(x, "add 1 c;");
        due.is("undo()", x.undo(), 1);
        due.is("LINES", Due.allSigns(x), "a");
    }
}
