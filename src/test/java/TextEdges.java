/** Edges of a new object, of THE TEXT and of what run() does with it: promises 1 to 4. */
final class TextEdges {
    private static final String A24 = "a".repeat(24);

    // ---- 1: a new object

    @Says("LINES (12 at most; none at first); ElasticTabs(): No LINES.")
    static void p01NoLinesAtFirst(Due due) {
        ElasticTabs x = new ElasticTabs();
        due.is("LINES", x.count(0), 0);
        due.is("line(0, 0)", x.line(0, 0), -1);
        due.is("BLOCKS", x.count(4), 0);
        due.is("the widest LINE", x.count(5), 0);
        due.is("all LINES", x.count(6), 0);
        due.is("digest()", x.digest(), 17);
    }

    @Says("PAD (0 .. 4; 1 at first)")
    static void p01PadIsOneAtFirst(Due due) {
        due.is("PAD", new ElasticTabs().count(1), 1);
    }

    @Says("LEAST (0 .. 9; 0 at first)")
    static void p01LeastIsNoneAtFirst(Due due) {
        due.is("LEAST", new ElasticTabs().count(2), 0);
    }

    @Says("ALIGN of COLUMN k (0 .. 23): LEFT at first")
    static void p01AlignIsLeftAtFirst(Due due) {
        ElasticTabs x = new ElasticTabs();
        for (int k = 0; k < 24; k++) {
            due.is("align(" + k + ")", x.align(k), 0);
        }
    }

    @Says("A new object: nothing CHANGED, nothing to be UNDONE, no bytes, no IMAGE")
    static void p01NothingElseAtFirst(Due due) {
        ElasticTabs x = new ElasticTabs();
        due.is("CHANGED", x.count(3), 0);
        due.is("may be UNDONE", x.count(7), 0);
        due.is("bytes", x.count(8), 0);
        due.is("undo()", x.undo(), -2);
        due.is("back(0)", x.back(0), -2);
        due.is("back(1)", x.back(1), -2);
        due.is("run()", x.run(), 0);
    }

    @Says("BAD = -1, STATE = -2, FULL = -3, NONE = -9")
    static void p01Constants(Due due) {
        due.is("BAD", ElasticTabs.BAD, -1);
        due.is("STATE", ElasticTabs.STATE, -2);
        due.is("FULL", ElasticTabs.FULL, -3);
        due.is("NONE", ElasticTabs.NONE, -9);
    }

    @Says("A new object: another object's LINES, TEXT and IMAGES are not in it")
    static void p01ObjectsAreApart(Due due) {
        ElasticTabs one = Due.with("add 0 a|;align 0 right;pad 3;");
        one.keep(0);
        Due.type(one, "drop");
        ElasticTabs other = new ElasticTabs();
        due.is("the other one", Due.state(other), Due.state(new ElasticTabs()));
        due.is("its image", other.back(0), -2);
    }

    @Says("An object is used for at most 512 calls after it has been made")
    static void p01AnswersUntilTheLastCall(Due due) {
        ElasticTabs x = new ElasticTabs();
        Due.run(x, "add 0 -;");
        int calls = 10;
        while (calls < 510) {
            due.is("put, call " + calls, x.put(0, 0, 'a'), 1);
            due.is("cut, call " + calls, x.cut(0, 0), 'a');
            calls += 2;
        }
        due.is("the 511th call", x.put(0, 0, '|'), 1);
        due.is("the 512th call", x.line(0, 2), 1);
    }

    // ---- 2: type

    @Says("type: A byte (0 .. 255) comes to THE TEXT: how many it has.")
    static void p02EveryByteComes(Due due) {
        for (int c = 0; c <= 255; c++) {
            ElasticTabs x = new ElasticTabs();
            due.is("type(" + c + ")", x.type(c), 1);
            due.is("bytes", x.count(8), 1);
        }
    }

    @Says("type: BAD (a byte that is too small)")
    static void p02TooSmall(Due due) {
        ElasticTabs x = new ElasticTabs();
        due.is("type(-1)", x.type(-1), -1);
        due.is("type(the least int)", x.type(Integer.MIN_VALUE), -1);
        due.is("bytes", x.count(8), 0);
    }

    @Says("type: BAD (a byte that is too large; 256 more than a byte is not that byte)")
    static void p02TooLarge(Due due) {
        ElasticTabs x = new ElasticTabs();
        due.is("type(256)", x.type(256), -1);
        due.is("type(256 + 'a')", x.type(256 + 'a'), -1);
        due.is("type(the greatest int)", x.type(Integer.MAX_VALUE), -1);
        due.is("bytes", x.count(8), 0);
    }

    @Says("They are a text (150 bytes at most); type: FULL")
    static void p02FullBehind150(Due due) {
        ElasticTabs x = new ElasticTabs();
        for (int i = 1; i <= 150; i++) {
            due.is("byte " + i, x.type('x'), i);
        }
        due.is("byte 151", x.type('x'), -3);
        due.is("bytes", x.count(8), 150);
    }

    @Says("Refused, and nothing changes: FULL")
    static void p02FullChangesNothing(Due due) {
        ElasticTabs x = new ElasticTabs();
        Due.type(x, " ".repeat(144) + "pad 3;");
        due.is("type", x.type('#'), -3);
        due.is("run()", x.run(), 1);
        due.is("PAD", x.count(1), 3);
    }

    @Says("Refused, the first of these: BAD, STATE, FULL")
    static void p02BadAheadOfFull(Due due) {
        ElasticTabs x = new ElasticTabs();
        Due.type(x, " ".repeat(150));
        due.is("type(256)", x.type(256), -1);
        due.is("type(-1)", x.type(-1), -1);
    }

    @Says("clear: THE TEXT is empty; run: it is empty then (so bytes come again)")
    static void p02RoomAgain(Due due) {
        ElasticTabs x = new ElasticTabs();
        Due.type(x, " ".repeat(150));
        x.clear();
        due.is("behind clear()", x.type('a'), 1);
        x.clear();
        Due.type(x, " ".repeat(150));
        x.run();
        due.is("behind run()", x.type('a'), 1);
    }

    // ---- 3: clear

    @Says("clear: THE TEXT is empty: how many bytes it had. (none)")
    static void p03NoBytes(Due due) {
        ElasticTabs x = new ElasticTabs();
        due.is("clear()", x.clear(), 0);
        due.is("clear() again", x.clear(), 0);
    }

    @Says("clear: THE TEXT is empty: how many bytes it had. (150)")
    static void p03AllBytes(Due due) {
        ElasticTabs x = new ElasticTabs();
        Due.type(x, "a".repeat(150));
        due.is("clear()", x.clear(), 150);
        due.is("bytes", x.count(8), 0);
        due.is("run()", x.run(), 0);
    }

    @Says("clear: THE TEXT is empty (and nothing but it changes)")
    static void p03LinesStay(Due due) {
        ElasticTabs x = Due.with("add 0 a|b;add 1 c|;pad 2;least 3;align 0 point;");
        String before = Due.state(x);
        Due.type(x, "drop 0;");
        due.is("clear()", x.clear(), 7);
        due.is("all", Due.state(x), before);
    }

    // ---- 4: run

    @Says("run: how many were not REFUSED (an empty text has none)")
    static void p04EmptyText(Due due) {
        ElasticTabs x = Due.with("add 0 a|;");
        String before = Due.state(x);
        due.is("run()", x.run(), 0);
        due.is("all", Due.state(x), before);
    }

    @Says("a COMMAND is some words (a text of blanks alone has none)")
    static void p04BlanksAlone(Due due) {
        ElasticTabs x = new ElasticTabs();
        due.is("run()", Due.run(x, " "), 0);
        due.is("bytes", x.count(8), 0);
        due.is("run()", Due.run(x, " ".repeat(150)), 0);
        due.is("bytes", x.count(8), 0);
    }

    @Says("THE TEXT's COMMANDS are done one behind the other, and it is empty then")
    static void p04OneBehindTheOther(Due due) {
        ElasticTabs x = new ElasticTabs();
        due.is("run()", Due.run(x, "add 0 c;add 0 b;add 0 a;drop 1;put 1 0 |;"), 5);
        due.is("LINES", Due.allSigns(x), "a/|c");
        due.is("bytes", x.count(8), 0);
        due.is("run() again", x.run(), 0);
    }

    @Says("They are a text (150 bytes at most)")
    static void p04TextOf150Bytes(Due due) {
        ElasticTabs x = new ElasticTabs();
        due.is("25 COMMANDS of 6 bytes", Due.run(x, "pad 0;".repeat(24) + "pad 4;"), 25);
        due.is("PAD", x.count(1), 4);
        due.is("blanks and one", Due.run(x, " ".repeat(142) + "least 7;"), 1);
        due.is("LEAST", x.count(2), 7);
    }

    @Says("words with blanks (32) between")
    static void p04BlanksBetween(Due due) {
        ElasticTabs x = new ElasticTabs();
        due.is("many", Due.run(x, "   add    0     a|b   ;   add  1  c  ;   "), 2);
        due.is("LINES", Due.allSigns(x), "a|b/c");
        due.is("none between COMMANDS", Due.run(x, "drop 1;drop 0;"), 2);
    }

    @Says("add L T (a LINE of the SIGNS T comes ahead of LINE L, or behind all)")
    static void p04AddAheadOrBehindAll(Due due) {
        ElasticTabs x = Due.with("add 0 b;");
        due.is("ahead of the first", Due.run(x, "add 0 a;"), 1);
        due.is("LINES", Due.allSigns(x), "a/b");
        due.is("behind all", Due.run(x, "add 2 d;"), 1);
        due.is("LINES", Due.allSigns(x), "a/b/d");
        due.is("ahead of the last", Due.run(x, "add 2 c;"), 1);
        due.is("LINES", Due.allSigns(x), "a/b/c/d");
    }

    @Says("add: \"-\" alone: without SIGNS")
    static void p04AddWithoutSigns(Due due) {
        ElasticTabs x = Due.with("add 0 -;");
        due.is("LINES", x.count(0), 1);
        due.is("its SIGNS", x.line(0, 0), 0);
    }

    @Says("add: \"-\" alone (a dash that is not alone is a SIGN)")
    static void p04AddDashes(Due due) {
        due.is("LINES", Due.allSigns(Due.with("add 0 --;add 1 -|;add 2 a-;add 3 |-;")), "--/-|/a-/|-");
    }

    @Says("SIGNS (24 at most)")
    static void p04AddOf24Signs(Due due) {
        ElasticTabs x = new ElasticTabs();
        due.is("run()", Due.run(x, "add 0 " + A24 + ";"), 1);
        due.is("SIGNS", Due.signs(x, 0), A24);
    }

    @Says("SIGNS: letters a .. z, figures, points (46), dashes (45), TABS, told as 124")
    static void p04AddOfAllSigns(Due due) {
        ElasticTabs x = Due.with("add 0 abcdefghijklmnopqrstuvwx;add 1 yz0123456789.-|;");
        due.is("LINES", Due.allSigns(x), "abcdefghijklmnopqrstuvwx/yz0123456789.-|");
    }

    @Says("LINES (12 at most)")
    static void p04TwelfthLine(Due due) {
        ElasticTabs x = Due.withLines(11, "a");
        due.is("run()", Due.run(x, "add 11 z;"), 1);
        due.is("LINES", x.count(0), 12);
        due.is("the last", Due.signs(x, 11), "z");
    }

    @Says("drop L")
    static void p04DropFirstLastAndOnly(Due due) {
        ElasticTabs x = Due.with("add 0 a;add 1 b;add 2 c;");
        due.is("the first", Due.run(x, "drop 0;"), 1);
        due.is("LINES", Due.allSigns(x), "b/c");
        due.is("the last", Due.run(x, "drop 1;"), 1);
        due.is("LINES", Due.allSigns(x), "b");
        due.is("the only one", Due.run(x, "drop 0;"), 1);
        due.is("LINES", x.count(0), 0);
        due.is("digest()", x.digest(), 17);
    }

    @Says("drop L (of twelve LINES)")
    static void p04DropOfTwelve(Due due) {
        ElasticTabs x = Due.withLines(11, "a|");
        Due.run(x, "add 11 z;");
        due.is("the first", Due.run(x, "drop 0;"), 1);
        due.is("the last moves up", Due.signs(x, 10), "z");
        due.is("no twelfth", x.line(11, 0), -1);
        Due.run(x, "add 0 b;");
        due.is("the last", Due.run(x, "drop 11;"), 1);
        due.is("LINES", x.count(0), 11);
        due.is("the last one then", Due.signs(x, 10), "a|");
    }

    @Says("split L P (what is from place P on is a LINE of its own behind it)")
    static void p04Split(Due due) {
        ElasticTabs x = Due.with("add 0 a|b;add 1 z;");
        due.is("between", Due.run(x, "split 0 1;"), 1);
        due.is("LINES", Due.allSigns(x), "a/|b/z");
        due.is("at 0", Due.run(x, "split 1 0;"), 1);
        due.is("LINES", Due.allSigns(x), "a//|b/z");
        due.is("nothing from there on", Due.run(x, "split 3 1;"), 1);
        due.is("LINES", Due.allSigns(x), "a//|b/z/");
    }

    @Says("join L (the next LINE's SIGNS come behind it, and that goes)")
    static void p04Join(Due due) {
        ElasticTabs x = Due.with("add 0 a|;add 1 -;add 2 b;add 3 c;");
        due.is("with none", Due.run(x, "join 0;"), 1);
        due.is("LINES", Due.allSigns(x), "a|/b/c");
        due.is("with the last", Due.run(x, "join 1;"), 1);
        due.is("LINES", Due.allSigns(x), "a|/bc");
    }

    @Says("put L P S (the SIGN S comes ahead of place P, or behind all)")
    static void p04PutAheadOrBehindAll(Due due) {
        ElasticTabs x = Due.with("add 0 -;");
        due.is("into none", Due.run(x, "put 0 0 b;"), 1);
        due.is("ahead of all", Due.run(x, "put 0 0 -;"), 1);
        due.is("behind all", Due.run(x, "put 0 2 |;"), 1);
        due.is("between", Due.run(x, "put 0 1 .;put 0 1 7;"), 2);
        due.is("SIGNS", Due.signs(x, 0), "-7.b|");
    }

    @Says("cut L P (the SIGN at P goes)")
    static void p04CutFirstAndLast(Due due) {
        ElasticTabs x = Due.with("add 0 a|b;");
        due.is("the last", Due.run(x, "cut 0 2;"), 1);
        due.is("SIGNS", Due.signs(x, 0), "a|");
        due.is("the first", Due.run(x, "cut 0 0;"), 1);
        due.is("SIGNS", Due.signs(x, 0), "|");
        due.is("the only one", Due.run(x, "cut 0 0;"), 1);
        due.is("SIGNS", x.line(0, 0), 0);
        due.is("the LINE stays", x.count(0), 1);
    }

    @Says("align K W (W a word: left, right, middle, point); COLUMN k (0 .. 23)")
    static void p04AlignFirstAndLastColumn(Due due) {
        ElasticTabs x = new ElasticTabs();
        due.is("run()", Due.run(x, "align 0 right;align 23 point;align 22 middle;align 1 right;align 1 left;"), 5);
        int[] want = new int[24];
        want[0] = 1;
        want[22] = 2;
        want[23] = 3;
        for (int k = 0; k < 24; k++) {
            due.is("align(" + k + ")", x.align(k), want[k]);
        }
    }

    @Says("PAD (0 .. 4)")
    static void p04PadFromNoneToFour(Due due) {
        ElasticTabs x = new ElasticTabs();
        for (int n = 0; n <= 4; n++) {
            due.is("pad " + n, Due.run(x, "pad " + n + ";"), 1);
            due.is("PAD", x.count(1), n);
        }
    }

    @Says("LEAST (0 .. 9)")
    static void p04LeastFromNoneToNine(Due due) {
        ElasticTabs x = new ElasticTabs();
        for (int n = 0; n <= 9; n++) {
            due.is("least " + n, Due.run(x, "least " + n + ";"), 1);
            due.is("LEAST", x.count(2), n);
        }
    }
}
