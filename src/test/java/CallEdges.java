/** Edges of the calls put, cut, split and join: promises 5 to 8. */
final class CallEdges {
    private static final String A24 = "a".repeat(24);
    private static final int[] FAR = {Integer.MIN_VALUE, Integer.MIN_VALUE + 1, -1000, -1, 1000,
        Integer.MAX_VALUE - 1, Integer.MAX_VALUE};

    private static ElasticTabs lines() {
        return Due.with("add 0 a|b;add 1 -;add 2 cc|;");
    }

    private static void changesNothing(Due due, ElasticTabs x, String before) {
        due.is("all", Due.state(x), before);
    }

    // ---- 5: put

    @Says("put: A SIGN comes into a LINE ahead of a place (or behind all): how many it has.")
    static void p05FirstAndLastPlace(Due due) {
        ElasticTabs x = lines();
        due.is("ahead of all", x.put(0, 0, 'x'), 4);
        due.is("behind all", x.put(0, 4, 'y'), 5);
        due.is("into none", x.put(1, 0, 'z'), 1);
        due.is("LINES", Due.allSigns(x), "xa|by/z/cc|");
    }

    @Says("put: (as put): it can be UNDONE and tells CHANGED")
    static void p05AsTheCommand(Due due) {
        ElasticTabs x = Due.with("add 0 a|;add 1 b|;");
        due.is("put", x.put(1, 0, 'z'), 3);
        due.is("CHANGED", x.count(3), 3);
        due.is("may be UNDONE", x.count(7), 3);
        due.is("undo()", x.undo(), 2);
        due.is("LINES", Due.allSigns(x), "a|/b|");
    }

    @Says("put: BAD: no such LINE")
    static void p05NoSuchLine(Due due) {
        ElasticTabs x = lines();
        String before = Due.state(x);
        due.is("the first beyond", x.put(3, 0, 'a'), -1);
        for (int far : FAR) {
            due.is("line " + far, x.put(far, 0, 'a'), -1);
        }
        due.is("of none", new ElasticTabs().put(0, 0, 'a'), -1);
        changesNothing(due, x, before);
    }

    @Says("put: BAD: no such place")
    static void p05NoSuchPlace(Due due) {
        ElasticTabs x = lines();
        String before = Due.state(x);
        due.is("the first beyond", x.put(0, 4, 'a'), -1);
        due.is("of no SIGNS", x.put(1, 1, 'a'), -1);
        for (int far : FAR) {
            due.is("place " + far, x.put(0, far, 'a'), -1);
        }
        changesNothing(due, x, before);
    }

    @Says("put: BAD: no such SIGN (letters a .. z, figures, points (46), dashes (45), TABS, told as 124)")
    static void p05NoSuchSign(Due due) {
        String signs = "abcdefghijklmnopqrstuvwxyz0123456789.-|";
        for (int s = -300; s <= 600; s++) {
            ElasticTabs x = lines();
            boolean isSign = s >= 0 && signs.indexOf(s) >= 0;
            due.is("SIGN " + s, x.put(0, 1, s), isSign ? 4 : -1);
            due.is("what stands there", x.sign(0, 1), isSign ? s : '|');
            due.is("may be UNDONE", x.count(7), isSign ? 4 : 3);
        }
        for (int far : FAR) {
            due.is("SIGN " + far, lines().put(0, 0, far), -1);
        }
    }

    @Says("SIGNS (24 at most); put: FULL")
    static void p05FullAt24(Due due) {
        ElasticTabs x = Due.with("add 0 aaaaaaaaaaaaaaaaaaaaaaa;add 1 b;");
        due.is("the 24th", x.put(0, 23, 'z'), 24);
        String before = Due.state(x);
        due.is("the 25th, ahead", x.put(0, 0, 'z'), -3);
        due.is("the 25th, between", x.put(0, 12, '|'), -3);
        due.is("the 25th, behind", x.put(0, 24, 'z'), -3);
        changesNothing(due, x, before);
        due.is("another LINE is not", x.put(1, 1, 'c'), 2);
    }

    @Says("Refused, the first of these: BAD, STATE, FULL")
    static void p05BadAheadOfFull(Due due) {
        ElasticTabs x = Due.with("add 0 " + A24 + ";");
        due.is("no such place", x.put(0, 25, 'a'), -1);
        due.is("no such place", x.put(0, -1, 'a'), -1);
        due.is("no such SIGN", x.put(0, 0, ' '), -1);
        due.is("no such LINE", x.put(1, 0, 'a'), -1);
    }

    // ---- 6: cut

    @Says("cut: The SIGN at a place goes (as cut): it.")
    static void p06FirstLastAndOnly(Due due) {
        ElasticTabs x = Due.with("add 0 a.|-9;add 1 z;");
        due.is("the last", x.cut(0, 4), '9');
        due.is("the first", x.cut(0, 0), 'a');
        due.is("a TAB", x.cut(0, 1), 124);
        due.is("LINES", Due.allSigns(x), ".-/z");
        due.is("a dash", x.cut(0, 1), 45);
        due.is("the only one", x.cut(0, 0), 46);
        due.is("LINES", Due.allSigns(x), "/z");
    }

    @Says("cut: The SIGN at a place goes (of 24)")
    static void p06OfAFullLine(Due due) {
        ElasticTabs x = Due.with("add 0 abcdefghijklmnopqrstuvwx;add 1 " + A24 + ";");
        due.is("the first", x.cut(0, 0), 'a');
        due.is("the last", x.cut(0, 22), 'x');
        due.is("LINES", Due.allSigns(x), "bcdefghijklmnopqrstuvw/" + A24);
    }

    @Says("cut: The SIGN at a place goes (of 24 in the twelfth LINE)")
    static void p06OfTheLastFullLine(Due due) {
        ElasticTabs x = Due.withLines(11, "-");
        Due.run(x, "add 11 abcdefghijklmnopqrstuvwx;");
        due.is("the last", x.cut(11, 23), 'x');
        due.is("put again", x.put(11, 23, 'y'), 24);
        due.is("the first", x.cut(11, 0), 'a');
        due.is("SIGNS", Due.signs(x, 11), "bcdefghijklmnopqrstuvwy");
    }

    @Says("cut: (as cut): it can be UNDONE and tells CHANGED")
    static void p06AsTheCommand(Due due) {
        ElasticTabs x = Due.with("add 0 aa|;add 1 b|;add 2 c;");
        due.is("cut", x.cut(0, 0), 'a');
        due.is("CHANGED", x.count(3), 3);
        due.is("may be UNDONE", x.count(7), 4);
        due.is("undo()", x.undo(), 3);
        due.is("LINES", Due.allSigns(x), "aa|/b|/c");
    }

    @Says("cut: BAD (no such LINE)")
    static void p06NoSuchLine(Due due) {
        ElasticTabs x = lines();
        String before = Due.state(x);
        due.is("the first beyond", x.cut(3, 0), -1);
        for (int far : FAR) {
            due.is("line " + far, x.cut(far, 0), -1);
        }
        due.is("of none", new ElasticTabs().cut(0, 0), -1);
        changesNothing(due, x, before);
    }

    @Says("cut: BAD (no such place)")
    static void p06NoSuchPlace(Due due) {
        ElasticTabs x = lines();
        String before = Due.state(x);
        due.is("the first beyond", x.cut(0, 3), -1);
        due.is("of no SIGNS", x.cut(1, 0), -1);
        for (int far : FAR) {
            due.is("place " + far, x.cut(0, far), -1);
        }
        changesNothing(due, x, before);
        due.is("behind the 24th", Due.with("add 0 " + A24 + ";add 1 b;").cut(0, 24), -1);
    }

    // ---- 7: split

    @Says("split: A LINE is split (what is from place P on is a LINE of its own): how many LINES there are.")
    static void p07FirstAndLastPlace(Due due) {
        ElasticTabs x = Due.with("add 0 a|b;add 1 z;");
        due.is("at 0", x.split(0, 0), 3);
        due.is("LINES", Due.allSigns(x), "/a|b/z");
        due.is("at the last SIGN", x.split(1, 2), 4);
        due.is("LINES", Due.allSigns(x), "/a|/b/z");
        due.is("nothing from there on", x.split(3, 1), 5);
        due.is("LINES", Due.allSigns(x), "/a|/b/z/");
        due.is("of no SIGNS", x.split(0, 0), 6);
        due.is("LINES", Due.allSigns(x), "//a|/b/z/");
    }

    @Says("split: A LINE is split (of 24 SIGNS)")
    static void p07OfAFullLine(Due due) {
        ElasticTabs x = Due.with("add 0 abcdefghijklmnopqrstuvwx;");
        due.is("split", x.split(0, 23), 2);
        due.is("LINES", Due.allSigns(x), "abcdefghijklmnopqrstuvw/x");
        x.undo();
        due.is("split", x.split(0, 24), 2);
        due.is("LINES", Due.allSigns(x), "abcdefghijklmnopqrstuvwx/");
        due.is("split", x.split(0, 0), 3);
        due.is("LINES", Due.allSigns(x), "/abcdefghijklmnopqrstuvwx/");
    }

    @Says("split: (as split): it can be UNDONE and tells CHANGED")
    static void p07AsTheCommand(Due due) {
        ElasticTabs x = Due.with("add 0 a;add 1 bbb|c;add 2 d|;");
        due.is("split", x.split(1, 4), 4);
        due.is("CHANGED", x.count(3), 14);
        due.is("may be UNDONE", x.count(7), 4);
        due.is("undo()", x.undo(), 3);
        due.is("LINES", Due.allSigns(x), "a/bbb|c/d|");
    }

    @Says("split: BAD (no such LINE)")
    static void p07NoSuchLine(Due due) {
        ElasticTabs x = lines();
        String before = Due.state(x);
        due.is("the first beyond", x.split(3, 0), -1);
        for (int far : FAR) {
            due.is("line " + far, x.split(far, 0), -1);
        }
        due.is("of none", new ElasticTabs().split(0, 0), -1);
        changesNothing(due, x, before);
    }

    @Says("split: BAD (no such place)")
    static void p07NoSuchPlace(Due due) {
        ElasticTabs x = lines();
        String before = Due.state(x);
        due.is("the first beyond", x.split(0, 4), -1);
        due.is("of no SIGNS", x.split(1, 1), -1);
        for (int far : FAR) {
            due.is("place " + far, x.split(0, far), -1);
        }
        changesNothing(due, x, before);
    }

    @Says("LINES (12 at most); split: FULL")
    static void p07FullAtTwelve(Due due) {
        ElasticTabs x = Due.withLines(11, "a|b");
        due.is("the twelfth", x.split(10, 2), 12);
        due.is("the last", Due.signs(x, 11), "b");
        String before = Due.state(x);
        due.is("the thirteenth", x.split(0, 1), -3);
        due.is("the thirteenth", x.split(11, 0), -3);
        changesNothing(due, x, before);
    }

    @Says("Refused, the first of these: BAD, STATE, FULL")
    static void p07BadAheadOfFull(Due due) {
        ElasticTabs x = Due.withLines(12, "a|b");
        due.is("no such LINE", x.split(12, 0), -1);
        due.is("no such place", x.split(0, 4), -1);
        due.is("no such place", x.split(0, -1), -1);
    }

    // ---- 8: join

    @Says("join: The next LINE comes behind it (as join): how many LINES there are.")
    static void p08FirstAndLast(Due due) {
        ElasticTabs x = Due.with("add 0 a|;add 1 b;add 2 c;add 3 d|;");
        due.is("the last two", x.join(2), 3);
        due.is("LINES", Due.allSigns(x), "a|/b/cd|");
        due.is("the first two", x.join(0), 2);
        due.is("LINES", Due.allSigns(x), "a|b/cd|");
        due.is("all", x.join(0), 1);
        due.is("LINES", Due.allSigns(x), "a|bcd|");
    }

    @Says("join: The next LINE comes behind it (of LINES without SIGNS)")
    static void p08WithoutSigns(Due due) {
        ElasticTabs x = Due.with("add 0 -;add 1 -;add 2 a;");
        due.is("none and none", x.join(0), 2);
        due.is("LINES", Due.allSigns(x), "/a");
        due.is("none and one", x.join(0), 1);
        due.is("LINES", Due.allSigns(x), "a");
    }

    @Says("join: The next LINE comes behind it (of twelve)")
    static void p08OfTwelve(Due due) {
        ElasticTabs x = Due.withLines(10, "a|");
        Due.run(x, "add 10 bbbbbbbbbbbb;add 11 cccccccccccc;");
        due.is("the last two", x.join(10), 11);
        due.is("SIGNS", Due.signs(x, 10), "bbbbbbbbbbbbcccccccccccc");
        due.is("the first two", x.join(0), 10);
        due.is("SIGNS", Due.signs(x, 0), "a|a|");
        due.is("the last moves up", Due.signs(x, 9), "bbbbbbbbbbbbcccccccccccc");
    }

    @Says("join: (as join): it can be UNDONE and tells CHANGED")
    static void p08AsTheCommand(Due due) {
        ElasticTabs x = Due.with("add 0 a|;add 1 b;add 2 ccc|;");
        due.is("join", x.join(0), 2);
        due.is("CHANGED", x.count(3), 1);
        due.is("may be UNDONE", x.count(7), 4);
        due.is("undo()", x.undo(), 3);
        due.is("LINES", Due.allSigns(x), "a|/b/ccc|");
    }

    @Says("join: BAD: no next one, too")
    static void p08NoNextOne(Due due) {
        ElasticTabs x = lines();
        String before = Due.state(x);
        due.is("the last", x.join(2), -1);
        changesNothing(due, x, before);
        due.is("the only one", Due.with("add 0 a;").join(0), -1);
        due.is("the twelfth", Due.withLines(12, "a").join(11), -1);
    }

    @Says("join: BAD (no such LINE)")
    static void p08NoSuchLine(Due due) {
        ElasticTabs x = lines();
        String before = Due.state(x);
        due.is("the first beyond", x.join(3), -1);
        for (int far : FAR) {
            due.is("line " + far, x.join(far), -1);
        }
        due.is("of none", new ElasticTabs().join(0), -1);
        changesNothing(due, x, before);
    }

    @Says("join: FULL: more than 24 SIGNS")
    static void p08FullBeyond24(Due due) {
        ElasticTabs x = Due.with("add 0 aaaaaaaaaaaa;add 1 bbbbbbbbbbbb;");
        due.is("24", x.join(0), 1);
        due.is("SIGNS", Due.signs(x, 0), "aaaaaaaaaaaabbbbbbbbbbbb");
        x = Due.with("add 0 aaaaaaaaaaaaa;add 1 bbbbbbbbbbbb;");
        String before = Due.state(x);
        due.is("25", x.join(0), -3);
        changesNothing(due, x, before);
        due.is("48", Due.withLines(2, A24).join(0), -3);
        due.is("24 and none", Due.with("add 0 " + A24 + ";add 1 -;").join(0), 1);
        due.is("none and 24", Due.with("add 0 -;add 1 " + A24 + ";").join(0), 1);
    }

    @Says("Refused, the first of these: BAD, STATE, FULL")
    static void p08BadAheadOfFull(Due due) {
        due.is("no next one", Due.withLines(2, A24).join(1), -1);
    }
}
