/** COMMANDS that can't be done, by words: promise 4. */
final class RefusedEdges {
    private static final String A24 = "a".repeat(24);

    private static void refused(Due due, ElasticTabs x, String text) {
        String before = Due.state(x);
        due.is("run() of '" + text + "'", Due.run(x, text), 0);
        due.is("all behind '" + text + "'", Due.state(x), before);
    }

    private static ElasticTabs twoLines() {
        return Due.with("add 0 a|b;add 1 cc|;");
    }

    @Says("REFUSED: no such LINE (none at all)")
    static void p04NoLines(Due due) {
        for (String text : new String[] {"add 1 a;", "drop 0;", "split 0 0;", "join 0;", "put 0 0 a;", "cut 0 0;"}) {
            refused(due, new ElasticTabs(), text);
        }
    }

    @Says("REFUSED: no such LINE (the first beyond)")
    static void p04NoSuchLine(Due due) {
        for (String text : new String[] {"add 3 a;", "drop 2;", "split 2 0;", "join 2;", "put 2 0 a;", "cut 2 0;"}) {
            refused(due, twoLines(), text);
        }
    }

    @Says("REFUSED: no such LINE (numbers have 3 figures at most)")
    static void p04GreatestNumber(Due due) {
        for (String text : new String[] {"add 999 a;", "drop 999;", "split 999 0;", "join 999;", "put 999 0 a;",
            "cut 999 0;", "split 0 999;", "put 0 999 a;", "cut 0 999;", "align 999 left;", "pad 999;", "least 999;"}) {
            refused(due, twoLines(), text);
        }
    }

    @Says("REFUSED: no such LINE (join: no next one)")
    static void p04NoNextLine(Due due) {
        refused(due, twoLines(), "join 1;");
        refused(due, Due.with("add 0 a;"), "join 0;");
    }

    @Says("REFUSED: no such place")
    static void p04NoSuchPlace(Due due) {
        refused(due, twoLines(), "split 0 4;");
        refused(due, twoLines(), "put 0 4 a;");
        refused(due, twoLines(), "cut 0 3;");
        refused(due, Due.with("add 0 -;"), "cut 0 0;");
        refused(due, Due.with("add 0 -;"), "put 0 1 a;");
        refused(due, Due.with("add 0 -;"), "split 0 1;");
    }

    @Says("REFUSED: no such COLUMN")
    static void p04NoSuchColumn(Due due) {
        refused(due, twoLines(), "align 24 right;");
    }

    @Says("REFUSED: PAD beyond")
    static void p04PadBeyond(Due due) {
        refused(due, twoLines(), "pad 5;");
    }

    @Says("REFUSED: LEAST beyond")
    static void p04LeastBeyond(Due due) {
        refused(due, twoLines(), "least 10;");
    }

    @Says("REFUSED: a thirteenth LINE")
    static void p04ThirteenthLine(Due due) {
        refused(due, Due.withLines(12, "a|b"), "add 0 a;");
        refused(due, Due.withLines(12, "a|b"), "add 12 -;");
        refused(due, Due.withLines(12, "a|b"), "split 11 1;");
    }

    @Says("REFUSED: a twenty-fifth SIGN")
    static void p04TwentyFifthSign(Due due) {
        refused(due, Due.with("add 0 " + A24 + ";"), "put 0 0 b;");
        refused(due, Due.with("add 0 " + A24 + ";"), "put 0 24 b;");
        refused(due, Due.with("add 0 " + A24 + ";add 1 b;"), "join 0;");
        due.is("none more is fine", Due.run(Due.with("add 0 " + A24 + ";add 1 -;"), "join 0;"), 1);
    }

    @Says("how many were not REFUSED; nothing changes by it (the others are done)")
    static void p04OthersAreDone(Due due) {
        ElasticTabs x = new ElasticTabs();
        due.is("run()", Due.run(x, "drop 0;add 0 a;pad 5;add 1 b;cut 1 1;pad 4;least 10;"), 3);
        due.is("LINES", Due.allSigns(x), "a/b");
        due.is("PAD", x.count(1), 4);
        due.is("may be UNDONE", x.count(7), 3);
    }

    @Says("how many were not REFUSED (also if nothing changed by it)")
    static void p04DoneWithoutChangeCounts(Due due) {
        due.is("run()", Due.run(Due.with("add 0 a;add 1 -;"), "pad 1;least 0;align 3 left;join 0;"), 4);
    }
}
