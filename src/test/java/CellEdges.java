/** Edges of LINES, SIGNS, CELLS, BLOCKS, WIDTHS, WIDEST and SAVES: promises 10 to 12. */
final class CellEdges {
    private static final int[] FAR = {Integer.MIN_VALUE, Integer.MIN_VALUE + 1, -1000, -1, 1000,
        Integer.MAX_VALUE - 1, Integer.MAX_VALUE};

    private static void lineIs(Due due, ElasticTabs x, int line, int... want) {
        for (int what = 0; what < want.length; what++) {
            due.is("line(" + line + ", " + what + ")", x.line(line, what), want[what]);
        }
    }

    private static void blockIs(Due due, ElasticTabs x, int line, int k, int... firstLast) {
        due.is("the first of " + line + ", " + k, x.cell(line, k, 3), firstLast[0]);
        due.is("the last of " + line + ", " + k, x.cell(line, k, 4), firstLast[1]);
    }

    private static int width(String text) {
        return Due.with(text).cell(0, 0, 1);
    }

    // ---- 10: line

    @Says("line: 0 how many SIGNS, 1 how many CELLS, 2 how wide it is SHOWN, 3 where its TAIL begins")
    static void p10WithoutSigns(Due due) {
        lineIs(due, Due.with("add 0 -;pad 4;least 9;"), 0, 0, 0, 0, 0);
    }

    @Says("TAIL: what is behind the last TAB (all, if there is none)")
    static void p10TailAlone(Due due) {
        lineIs(due, Due.with("add 0 a.-9;pad 4;least 9;"), 0, 4, 0, 4, 0);
    }

    @Says("TAIL: what is behind the last TAB (nothing, too)")
    static void p10WithoutTail(Due due) {
        lineIs(due, Due.with("add 0 ab|;"), 0, 3, 1, 3, 3);
        lineIs(due, Due.with("add 0 |;"), 0, 1, 1, 1, 1);
    }

    @Says("CELLS: what is ahead of its first TAB, between it and the next, and so on (24 SIGNS at most)")
    static void p10TabsAlone(Due due) {
        lineIs(due, Due.with("add 0 ||||||||||||||||||||||||;"), 0, 24, 24, 24, 24);
        lineIs(due, Due.with("add 0 ||||||||||||||||||||||||;pad 0;"), 0, 24, 24, 0, 0);
        lineIs(due, Due.with("add 0 ||||||||||||||||||||||||;pad 4;least 9;"), 0, 24, 24, 312, 312);
    }

    @Says("a LINE is as wide as its CELLS' WIDTHS and its TAIL (PAD is not behind the TAIL)")
    static void p10CellsAndTail(Due due) {
        ElasticTabs x = Due.with("add 0 a|bb|ccc;add 1 dddd|e;pad 2;least 3;");
        lineIs(due, x, 0, 8, 2, 14, 11);
        lineIs(due, x, 1, 6, 1, 7, 6);
    }

    @Says("line: BAD (no such LINE)")
    static void p10NoSuchLine(Due due) {
        ElasticTabs x = Due.with("add 0 a|;add 1 b;");
        for (int what = 0; what < 4; what++) {
            due.is("the first beyond", x.line(2, what), -1);
            due.is("-1", x.line(-1, what), -1);
            due.is("of none", new ElasticTabs().line(0, what), -1);
        }
        for (int far : FAR) {
            due.is("line " + far, x.line(far, 0), -1);
        }
        due.is("the thirteenth of twelve", Due.withLines(12, "a").line(12, 0), -1);
    }

    @Says("line: BAD (a number is not as told: 0 .. 3)")
    static void p10NoSuchWhat(Due due) {
        ElasticTabs x = Due.with("add 0 a|;");
        due.is("4", x.line(0, 4), -1);
        for (int far : FAR) {
            due.is("what " + far, x.line(0, far), -1);
        }
    }

    // ---- 11: sign

    @Says("sign: SIGN i of a LINE. (TABS, told as 124)")
    static void p11FirstAndLast(Due due) {
        ElasticTabs x = Due.with("add 0 |a.;add 1 abcdefghijklmnopqrstuvw-;");
        due.is("the first, a TAB", x.sign(0, 0), 124);
        due.is("the last, a point", x.sign(0, 2), 46);
        due.is("the 24th, a dash", x.sign(1, 23), 45);
    }

    @Says("sign: BAD (no such SIGN)")
    static void p11NoSuchSign(Due due) {
        ElasticTabs x = Due.with("add 0 |a.;add 1 -;add 2 abcdefghijklmnopqrstuvwx;");
        due.is("behind the last", x.sign(0, 3), -1);
        due.is("of none", x.sign(1, 0), -1);
        due.is("the 25th", x.sign(2, 24), -1);
        for (int far : FAR) {
            due.is("sign " + far, x.sign(0, far), -1);
        }
        x.cut(0, 2);
        due.is("one that was cut", x.sign(0, 2), -1);
    }

    @Says("sign: BAD (no such LINE)")
    static void p11NoSuchLine(Due due) {
        ElasticTabs x = Due.with("add 0 a;add 1 b;");
        due.is("the first beyond", x.sign(2, 0), -1);
        for (int far : FAR) {
            due.is("line " + far, x.sign(far, 0), -1);
        }
        Due.run(x, "drop 1;");
        due.is("one that was dropped", x.sign(1, 0), -1);
        due.is("of none", new ElasticTabs().sign(0, 0), -1);
    }

    // ---- 12: cell

    @Says("cell: 0 its size (CELLS without SIGNS)")
    static void p12Size(Due due) {
        ElasticTabs x = Due.with("add 0 |a||bcd|;");
        int[] want = {0, 1, 0, 3};
        for (int k = 0; k < 4; k++) {
            due.is("cell " + k, x.cell(0, k, 0), want[k]);
        }
        due.is("of 23", Due.with("add 0 abcdefghijklmnopqrstuvw|;").cell(0, 0, 0), 23);
    }

    @Says("BLOCK: that LINE and all above it and below it, side by side, as far as each has a CELL k")
    static void p12BlockEndsWhereOneHasNone(Due due) {
        ElasticTabs x = Due.with("add 0 a|;add 1 b|b|;add 2 -;add 3 c|;add 4 d;add 5 e|e|;add 6 f|f|;");
        blockIs(due, x, 0, 0, 0, 1);
        blockIs(due, x, 1, 0, 0, 1);
        blockIs(due, x, 1, 1, 1, 1);
        blockIs(due, x, 3, 0, 3, 3);
        blockIs(due, x, 5, 0, 5, 6);
        blockIs(due, x, 6, 1, 5, 6);
        due.is("BLOCKS", x.count(4), 5);
    }

    @Says("BLOCK: as far as each has a CELL k (a TAIL is none)")
    static void p12TailIsInNoBlock(Due due) {
        ElasticTabs x = Due.with("add 0 a|b|;add 1 c|dddddd;add 2 e|f|;");
        blockIs(due, x, 0, 1, 0, 0);
        blockIs(due, x, 2, 1, 2, 2);
        due.is("its WIDTH", x.cell(0, 1, 1), 2);
        blockIs(due, x, 1, 0, 0, 2);
    }

    @Says("BLOCK: as far as each has a CELL k (all twelve LINES, all 24 CELLS)")
    static void p12BlockOfAll(Due due) {
        ElasticTabs x = Due.withLines(12, "|".repeat(24));
        for (int k = 0; k < 24; k++) {
            blockIs(due, x, k / 2, k, 0, 11);
        }
        blockIs(due, x, 11, 0, 0, 11);
        blockIs(due, x, 0, 23, 0, 11);
    }

    @Says("WIDTH: the greatest size of its CELLS, and PAD (PAD 0 .. 4)")
    static void p12WidthWithPad(Due due) {
        due.is("at first", width("add 0 a|;add 1 abc|;"), 4);
        due.is("PAD 0", width("add 0 a|;add 1 abc|;pad 0;"), 3);
        due.is("PAD 4", width("add 0 a|;add 1 abc|;pad 4;"), 7);
    }

    @Says("WIDTH: LEAST at least, and PAD")
    static void p12WidthWithLeast(Due due) {
        due.is("less than LEAST", width("add 0 ab|;least 3;"), 4);
        due.is("as LEAST", width("add 0 abc|;least 3;"), 4);
        due.is("more than LEAST", width("add 0 abcd|;least 3;"), 5);
        due.is("the most of both", width("add 0 |;least 9;pad 4;"), 13);
    }

    @Says("WIDTH: the greatest size (of CELLS without SIGNS)")
    static void p12WidthOfNothing(Due due) {
        due.is("with PAD", width("add 0 |;"), 1);
        due.is("without PAD", width("add 0 |;pad 0;"), 0);
        due.is("without PAD, by POINT", width("add 0 |;pad 0;align 0 point;"), 0);
    }

    @Says("by POINT: the most SIGNS ahead of its first point (all, if it has none), and the most from that on")
    static void p12WidthByPoint(Due due) {
        due.is("ahead and behind of several", width("add 0 1.25|;add 1 100.0|;add 2 7|;align 0 point;"), 7);
        due.is("none has a point", width("add 0 12|;add 1 1234|;align 0 point;"), 5);
        due.is("all ahead, if it has none", width("add 0 1.2|;add 1 12345|;align 0 point;"), 8);
        due.is("a point at the begin", width("add 0 .25|;align 0 point;"), 4);
        due.is("a point at the end", width("add 0 25.|;align 0 point;"), 4);
        due.is("a point alone", width("add 0 .|;align 0 point;"), 2);
        due.is("the first of several points", width("add 0 1.2.3|;add 1 123.|;align 0 point;"), 8);
        due.is("one point behind another", width("add 0 ..|;add 1 aa|;align 0 point;"), 5);
        due.is("of the tail there is none", width("add 0 a|1.234;align 0 point;"), 2);
    }

    @Says("by POINT: its first point (of each CELL its own, in each COLUMN)")
    static void p12WidthByPointInOtherColumns(Due due) {
        ElasticTabs x = Due.with("add 0 1.5|200|.|;add 1 7|1.25|a|;align 1 point;align 2 point;");
        due.is("COLUMN 0 is LEFT", x.cell(0, 0, 1), 4);
        due.is("COLUMN 1", x.cell(0, 1, 1), 7);
        due.is("COLUMN 2", x.cell(0, 2, 1), 3);
        due.is("WIDEST of COLUMN 1", x.cell(1, 1, 5), 0);
        due.is("WIDEST of COLUMN 2", x.cell(0, 2, 5), 1);
        due.is("SAVES of COLUMN 1", x.cell(1, 1, 6), 2);
        due.is("SAVES of COLUMN 2", x.cell(0, 2, 6), 2);
    }

    @Says("by POINT: together, LEAST at least, and PAD")
    static void p12WidthByPointWithLeast(Due due) {
        String lines = "add 0 1.25|;add 1 100|;align 0 point;pad 2;";
        due.is("less than LEAST", width(lines + "least 7;"), 9);
        due.is("as LEAST", width(lines + "least 6;"), 8);
        due.is("more than LEAST", width(lines + "least 5;"), 8);
    }

    @Says("CELL k BEGINS where all WIDTHS of CELLS ahead of it in its LINE come to; the TAIL behind all")
    static void p12Begins(Due due) {
        ElasticTabs x = Due.with("add 0 a||bcd|e;add 1 aaaa|bb|c;");
        int[] want = {0, 5, 8};
        for (int k = 0; k < 3; k++) {
            due.is("cell " + k, x.cell(0, k, 2), want[k]);
        }
        due.is("the TAIL", x.line(0, 3), 12);
        x = Due.with("add 0 |||;pad 0;");
        due.is("of no WIDTHS", x.cell(0, 2, 2), 0);
        due.is("the last of 24", Due.with("add 0 ||||||||||||||||||||||||;pad 4;least 9;").cell(0, 23, 2), 299);
    }

    @Says("cell: BAD (no such CELL; the TAIL is none)")
    static void p12NoSuchCell(Due due) {
        ElasticTabs x = Due.with("add 0 a|b;add 1 -;add 2 abc;");
        for (int what = 0; what <= 6; what++) {
            due.is("the TAIL", x.cell(0, 1, what), -1);
            due.is("of no SIGNS", x.cell(1, 0, what), -1);
            due.is("of no TABS", x.cell(2, 0, what), -1);
            due.is("-1", x.cell(0, -1, what), -1);
        }
        for (int far : FAR) {
            due.is("cell " + far, x.cell(0, far, 0), -1);
        }
        due.is("the 25th", Due.with("add 0 ||||||||||||||||||||||||;add 1 a|;").cell(0, 24, 0), -1);
    }

    @Says("cell: BAD (no such LINE)")
    static void p12NoSuchLine(Due due) {
        ElasticTabs x = Due.with("add 0 a|b;add 1 c|;");
        for (int what = 0; what <= 6; what++) {
            due.is("the first beyond", x.cell(2, 0, what), -1);
            due.is("-1", x.cell(-1, 0, what), -1);
            due.is("of none", new ElasticTabs().cell(0, 0, what), -1);
        }
        for (int far : FAR) {
            due.is("line " + far, x.cell(far, 0, 0), -1);
        }
    }

    @Says("cell: BAD (a number is not as told: 0 .. 6)")
    static void p12NoSuchWhat(Due due) {
        ElasticTabs x = Due.with("add 0 a|b;");
        due.is("7", x.cell(0, 0, 7), -1);
        for (int far : FAR) {
            due.is("what " + far, x.cell(0, 0, far), -1);
        }
    }

    @Says("WIDEST of a BLOCK: the first LINE whose CELL makes it so wide")
    static void p12WidestIsTheFirst(Due due) {
        ElasticTabs x = Due.with("add 0 cccc|;add 1 -;add 2 a|;add 3 bbb|;add 4 ccc|;add 5 b|;");
        for (int l = 2; l <= 5; l++) {
            due.is("WIDEST, asked of LINE " + l, x.cell(l, 0, 5), 3);
        }
        due.is("WIDEST of the other BLOCK", x.cell(0, 0, 5), 0);
    }

    @Says("WIDEST of a BLOCK (of each COLUMN its own)")
    static void p12WidestInOtherColumns(Due due) {
        ElasticTabs x = Due.with("add 0 aaa|b|c|;add 1 a|bb|c|;add 2 a|b|ccc|;");
        for (int k = 0; k < 3; k++) {
            due.is("COLUMN " + k, x.cell(0, k, 5), k);
        }
    }

    @Says("WIDEST (by POINT: the first with the most ahead of the point)")
    static void p12WidestByPoint(Due due) {
        ElasticTabs x = Due.with("add 0 1.2345|;add 1 12|;add 2 12.3|;add 3 .|;align 0 point;");
        for (int l = 0; l <= 3; l++) {
            due.is("WIDEST, asked of LINE " + l, x.cell(l, 0, 5), 1);
        }
        due.is("none has one ahead", Due.with("add 0 .|;add 1 .55|;add 2 |;align 0 point;").cell(2, 0, 5), 0);
    }

    @Says("WIDEST (NONE: LEAST alone does)")
    static void p12WidestIsNone(Due due) {
        String lines = "add 0 a|;add 1 bbb|;";
        due.is("less than LEAST", Due.with(lines + "least 4;").cell(0, 0, 5), -9);
        due.is("as LEAST: the CELL does, too", Due.with(lines + "least 3;").cell(0, 0, 5), 1);
        due.is("more than LEAST", Due.with(lines + "least 2;").cell(0, 0, 5), 1);
        due.is("no SIGNS and LEAST", Due.with("add 0 |;least 1;").cell(0, 0, 5), -9);
        due.is("no SIGNS, no LEAST", Due.with("add 0 |;add 1 |;").cell(1, 0, 5), 0);
    }

    @Says("WIDEST (NONE: LEAST alone does; by POINT what is ahead and behind together counts)")
    static void p12WidestByPointIsNone(Due due) {
        String lines = "add 0 1.25|;add 1 100|;align 0 point;";
        due.is("less than LEAST", Due.with(lines + "least 7;").cell(0, 0, 5), -9);
        due.is("as LEAST", Due.with(lines + "least 6;").cell(0, 0, 5), 1);
        due.is("more than LEAST", Due.with(lines + "least 5;").cell(0, 0, 5), 1);
    }

    @Says("SAVES of a CELL: how much less all LINES would be wide together, had it its last SIGN fewer")
    static void p12SavesInAllLinesOfItsBlock(Due due) {
        ElasticTabs x = Due.with("add 0 a|;add 1 bbb|x|;add 2 cc|y|;add 3 -;add 4 dddd|;");
        due.is("the widest of three", x.cell(1, 0, 6), 3);
        due.is("one less wide", x.cell(2, 0, 6), 0);
        due.is("the widest alone", x.cell(4, 0, 6), 1);
        due.is("two as wide", x.cell(1, 1, 6), 0);
        due.is("all twelve", Due.withLines(12, "a|").cell(0, 0, 6), 0);
        x = Due.withLines(12, "a|");
        x.put(6, 0, 'b');
        due.is("the widest of twelve", x.cell(6, 0, 6), 12);
    }

    @Says("SAVES (0: it has none)")
    static void p12SavesOfNoSign(Due due) {
        due.is("no SIGN", Due.with("add 0 |;").cell(0, 0, 6), 0);
        due.is("no SIGN, by POINT", Due.with("add 0 |;add 1 |;align 0 point;").cell(0, 0, 6), 0);
        due.is("no SIGN beside others", Due.with("add 0 |;add 1 aa|;").cell(0, 0, 6), 0);
        due.is("the only SIGN", Due.with("add 0 a|;").cell(0, 0, 6), 1);
    }

    @Says("SAVES: how much less (LEAST at least)")
    static void p12SavesWithLeast(Due due) {
        String lines = "add 0 a|;add 1 bbb|;";
        due.is("more than LEAST", Due.with(lines + "least 2;").cell(1, 0, 6), 2);
        due.is("as LEAST", Due.with(lines + "least 3;").cell(1, 0, 6), 0);
        due.is("less than LEAST", Due.with(lines + "least 4;").cell(1, 0, 6), 0);
    }

    @Says("SAVES, by POINT: had it its last SIGN fewer")
    static void p12SavesByPoint(Due due) {
        ElasticTabs x = Due.with("add 0 1.25|;add 1 100|;add 2 7.|;align 0 point;");
        due.is("the most behind", x.cell(0, 0, 6), 3);
        due.is("the most ahead", x.cell(1, 0, 6), 3);
        due.is("a point that is not the most", x.cell(2, 0, 6), 0);
        due.is("a point at its end goes", Due.with("add 0 12.|;add 1 3|;align 0 point;").cell(0, 0, 6), 2);
        due.is("a point at the end of two", Due.with("add 0 12.|;add 1 3.|;align 0 point;").cell(0, 0, 6), 0);
        due.is("a point alone", Due.with("add 0 .|;align 0 point;").cell(0, 0, 6), 1);
        due.is("one of two points", Due.with("add 0 ..|;align 0 point;").cell(0, 0, 6), 1);
        due.is("ahead and behind in one", Due.with("add 0 100.25|;add 1 1|;align 0 point;").cell(0, 0, 6), 2);
        due.is("LEAST at least", Due.with("add 0 1.25|;align 0 point;least 4;").cell(0, 0, 6), 0);
    }

    @Says("4 (Nothing is changed.) (by asking WIDEST and SAVES)")
    static void p12AskingChangesNothing(Due due) {
        ElasticTabs x = Due.with("add 0 1.25|a|;add 1 100|b|;add 2 c|;align 0 point;align 1 right;least 2;");
        String before = Due.state(x) + Due.allShown(x);
        for (int l = 0; l < 3; l++) {
            for (int k = 0; k < 2; k++) {
                for (int what = 0; what <= 6; what++) {
                    x.cell(l, k, what);
                }
            }
        }
        due.is("all", Due.state(x) + Due.allShown(x), before);
    }
}
