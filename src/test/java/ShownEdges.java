import java.math.BigInteger;
import java.util.Arrays;

/** Edges of what is SHOWN, of ALIGN, of the counts and of the digest: promises 13 to 16. */
final class ShownEdges {
    private static final int[] FAR = {Integer.MIN_VALUE, Integer.MIN_VALUE + 1, -1000, -1, 1000,
        Integer.MAX_VALUE - 1, Integer.MAX_VALUE};
    private static final String MOST = "|".repeat(24);

    private static String shown(String text) {
        return Due.allShown(Due.with(text));
    }

    // ---- 13: shown

    @Says("in a CELL its SIGNS stand LEFT at where it BEGINS; elsewhere blanks (32)")
    static void p13Left(Due due) {
        due.is("SHOWN", shown("add 0 a|b|t;add 1 ccc||;add 2 |dd|u;"), "a   b  t/ccc    /    dd u");
        due.is("with LEAST", shown("add 0 a|t;least 3;pad 2;"), "a    t");
    }

    @Says("RIGHT so that behind them there is PAD")
    static void p13Right(Due due) {
        String lines = "add 0 a|t;add 1 ccc|;add 2 |u;align 0 right;";
        due.is("PAD 1", shown(lines), "  a t/ccc /    u");
        due.is("PAD 0", shown(lines + "pad 0;"), "  at/ccc/   u");
        due.is("PAD 4", shown(lines + "pad 4;"), "  a    t/ccc    /       u");
        due.is("with LEAST", shown(lines + "least 5;"), "    a t/  ccc /      u");
    }

    @Says("MIDDLE with half of what is free (less PAD) ahead of them, the lesser half")
    static void p13Middle(Due due) {
        String lines = "add 0 aaaa|t;add 1 b|t;add 2 cc|t;add 3 ddd|t;add 4 |t;align 0 middle;";
        due.is("PAD 1", shown(lines), "aaaa t/ b   t/ cc  t/ddd  t/     t");
        due.is("PAD 0", shown(lines + "pad 0;"), "aaaat/ b  t/ cc t/ddd t/    t");
        due.is("PAD 3", shown(lines + "pad 3;"), "aaaa   t/ b     t/ cc    t/ddd    t/       t");
        due.is("with LEAST", shown("add 0 ab|t;align 0 middle;least 7;"), "  ab    t");
        due.is("with LEAST", shown("add 0 ab|t;align 0 middle;least 8;"), "   ab    t");
    }

    @Says("POINT with so many ahead as it has fewer SIGNS ahead of its first point than the most")
    static void p13Point(Due due) {
        String lines = "add 0 1.25|t;add 1 100|t;add 2 .5|t;add 3 10.|t;add 4 |t;add 5 a.b.c|t;align 0 point;";
        due.is("PAD 1", shown(lines), "  1.25  t/100     t/   .5   t/ 10.    t/        t/  a.b.c t");
        due.is("PAD 0", shown(lines + "pad 0;"), "  1.25 t/100    t/   .5  t/ 10.   t/       t/  a.b.ct");
    }

    @Says("POINT (the first point of a CELL is not the one of a CELL ahead of it)")
    static void p13PointInOtherColumns(Due due) {
        due.is("SHOWN", shown("add 0 1.5|200|t;add 1 7|1.25|t;align 1 point;"), "1.5 200    t/7     1.25 t");
    }

    @Says("POINT (what LEAST adds is behind them)")
    static void p13PointWithLeast(Due due) {
        due.is("SHOWN", shown("add 0 1.5|t;add 1 22|t;align 0 point;least 6;"), " 1.5   t/22     t");
    }

    @Says("ALIGN of COLUMN k (of that one alone, in all its BLOCKS)")
    static void p13AlignOfItsColumn(Due due) {
        due.is("SHOWN", shown("add 0 a|b|;add 1 cc|dd|;add 2 -;add 3 e|f|;add 4 gg|hh|;align 1 right;"),
                "a   b /cc dd //e   f /gg hh ");
        ElasticTabs x = Due.with("add 0 " + MOST + ";align 23 right;least 1;pad 0;");
        x.cut(0, 0);
        x.put(0, 22, 'z');
        due.is("COLUMN 22", Due.shown(x, 0), " ".repeat(22) + "z");
        x = Due.with("add 0 " + MOST + ";");
        due.is("all blanks", Due.shown(x, 0), " ".repeat(24));
    }

    @Says("a LINE is as wide as its CELLS' WIDTHS and its TAIL (CELLS of no WIDTH are not seen)")
    static void p13CellsOfNoWidth(Due due) {
        due.is("SHOWN", shown("add 0 ||a|||b||c;pad 0;"), "abc");
        due.is("SHOWN", shown("add 0 |||;pad 0;"), "");
        due.is("SHOWN", shown("add 0 ||a|||b||c;pad 0;align 0 right;align 1 middle;align 2 point;align 5 right;"), "abc");
    }

    @Says("TAIL: all, if there is none (it is SHOWN as it is, wherever the next ones stand)")
    static void p13TailAsItIs(Due due) {
        due.is("SHOWN", shown("add 0 a.b-9;add 1 cccccccc|;align 0 right;least 9;"), "a.b-9/ cccccccc ");
    }

    @Says("shown: BAD: also behind its end.")
    static void p13BehindItsEnd(Due due) {
        ElasticTabs x = Due.with("add 0 a|b;add 1 c|;add 2 -;add 3 d;");
        due.is("the last place", x.shown(0, 2), 'b');
        due.is("behind a TAIL", x.shown(0, 3), -1);
        due.is("the last blank", x.shown(1, 1), 32);
        due.is("behind a CELL", x.shown(1, 2), -1);
        due.is("of no SIGNS", x.shown(2, 0), -1);
        due.is("behind a TAIL alone", x.shown(3, 1), -1);
        for (int far : FAR) {
            due.is("place " + far, x.shown(0, far), -1);
        }
        x = Due.with("add 0 |;pad 0;");
        due.is("of no WIDTH", x.shown(0, 0), -1);
        x = Due.with("add 0 " + MOST + ";pad 4;least 9;");
        due.is("the last of the widest", x.shown(0, 311), 32);
        due.is("behind it", x.shown(0, 312), -1);
    }

    @Says("shown: BAD (no such LINE)")
    static void p13NoSuchLine(Due due) {
        ElasticTabs x = Due.with("add 0 a|b;");
        due.is("the first beyond", x.shown(1, 0), -1);
        for (int far : FAR) {
            due.is("line " + far, x.shown(far, 0), -1);
        }
        due.is("of none", new ElasticTabs().shown(0, 0), -1);
    }

    // ---- 14: align

    @Says("align: ALIGN of a COLUMN: 0 LEFT, 1 RIGHT, 2 MIDDLE, 3 POINT.")
    static void p14EachAlign(Due due) {
        String[] words = {"left", "right", "middle", "point"};
        for (int k = 0; k < 24; k++) {
            ElasticTabs x = Due.with("align " + k + " " + words[(k + 1) % 4] + ";");
            due.is("at first", x.align(k), (k + 1) % 4);
            Due.run(x, "align " + k + " " + words[k % 4] + ";");
            due.is("behind another", x.align(k), k % 4);
        }
    }

    @Says("COLUMN k (0 .. 23); align: BAD.")
    static void p14NoSuchColumn(Due due) {
        ElasticTabs x = Due.with("align 0 right;align 23 right;");
        due.is("the first", x.align(0), 1);
        due.is("the last", x.align(23), 1);
        due.is("the first beyond", x.align(24), -1);
        for (int far : FAR) {
            due.is("column " + far, x.align(far), -1);
        }
    }

    @Says("ALIGN of COLUMN k (it needs no CELL there, and stays when LINES go)")
    static void p14WithoutLines(Due due) {
        ElasticTabs x = Due.with("align 2 point;add 0 a|b|1.5|;");
        Due.run(x, "drop 0;");
        due.is("align(2)", x.align(2), 3);
        due.is("SHOWN", Due.allShown(Due.with("align 0 right;add 0 a|;add 1 bb|;")), " a /bb ");
    }

    // ---- 15: count

    @Says("count: 0 LINES (12 at most)")
    static void p15Lines(Due due) {
        for (int lines = 0; lines <= 12; lines++) {
            due.is("LINES", Due.withLines(lines, "-").count(0), lines);
        }
    }

    @Says("count: 4 BLOCKS (none; one for each CELL; as few as CELLS in a LINE)")
    static void p15Blocks(Due due) {
        due.is("no LINES", new ElasticTabs().count(4), 0);
        due.is("no CELLS", Due.with("add 0 a;add 1 -;").count(4), 0);
        due.is("one LINE", Due.with("add 0 a|b|c;").count(4), 2);
        due.is("side by side", Due.withLines(12, MOST).count(4), 24);
        due.is("parted", Due.with("add 0 a|b|;add 1 c;add 2 a|b|;").count(4), 4);
        due.is("parted in one COLUMN", Due.with("add 0 a|b|;add 1 c|;add 2 a|b|;").count(4), 3);
        ElasticTabs x = new ElasticTabs();
        for (int l = 0; l < 12; l++) {
            Due.run(x, "add " + l + " " + (l % 2 == 0 ? MOST : "-") + ";");
        }
        due.is("the most", x.count(4), 144);
    }

    @Says("count: 5 how wide the widest LINE is (CELLS and TAIL)")
    static void p15WidestLine(Due due) {
        due.is("no LINES", new ElasticTabs().count(5), 0);
        due.is("no SIGNS", Due.with("add 0 -;").count(5), 0);
        due.is("by its TAIL", Due.with("add 0 a|bbbbb;add 1 cccc|;").count(5), 10);
        due.is("the first", Due.with("add 0 aaa;add 1 b;").count(5), 3);
        due.is("the last", Due.with("add 0 a;add 1 bbb;").count(5), 3);
        due.is("the most", Due.with("add 0 " + MOST + ";pad 4;least 9;").count(5), 312);
    }

    @Says("count: 6 how wide all LINES are together")
    static void p15AllLines(Due due) {
        due.is("no LINES", new ElasticTabs().count(6), 0);
        due.is("some", Due.with("add 0 a|b;add 1 cccc|;add 2 -;add 3 z;").count(6), 12);
        ElasticTabs x = Due.withLines(12, MOST);
        Due.run(x, "pad 4;least 9;");
        due.is("the most", x.count(6), 3744);
    }

    @Says("count: 7 how many may be UNDONE (10 are known)")
    static void p15MayBeUndone(Due due) {
        ElasticTabs x = new ElasticTabs();
        for (int done = 0; done <= 12; done++) {
            due.is("may be UNDONE", x.count(7), Math.min(done, 10));
            Due.run(x, "pad 2;");
        }
    }

    @Says("count: 8 bytes of THE TEXT (150 at most)")
    static void p15Bytes(Due due) {
        ElasticTabs x = new ElasticTabs();
        for (int bytes = 0; bytes < 150; bytes++) {
            due.is("bytes", x.count(8), bytes);
            x.type(0);
        }
        due.is("bytes", x.count(8), 150);
    }

    @Says("count: BAD (a number is not as told: 0 .. 8)")
    static void p15NoSuchWhat(Due due) {
        ElasticTabs x = Due.with("add 0 a|;");
        due.is("9", x.count(9), -1);
        for (int far : FAR) {
            due.is("what " + far, x.count(far), -1);
        }
    }

    // ---- 16: digest

    /** Told with numbers that have no end, and cut to a long at last. */
    private static long digestOf(String... shown) {
        BigInteger h = BigInteger.valueOf(17);
        for (String line : shown) {
            h = h.multiply(BigInteger.valueOf(31)).add(BigInteger.valueOf(line.length()));
            for (int i = 0; i < line.length(); i++) {
                h = h.multiply(BigInteger.valueOf(31)).add(BigInteger.valueOf(line.charAt(i)));
            }
        }
        return h.longValue();
    }

    @Says("digest: h = 17 (no LINES)")
    static void p16NoLines(Due due) {
        due.is("digest()", new ElasticTabs().digest(), 17);
        due.is("digest()", Due.with("pad 4;least 9;align 0 right;").digest(), 17);
    }

    @Says("of each LINE how wide it is (0, too)")
    static void p16WithoutSigns(Due due) {
        due.is("one LINE", Due.with("add 0 -;").digest(), 17 * 31);
        due.is("two LINES", Due.with("add 0 -;add 1 -;").digest(), 17 * 31 * 31);
        due.is("of no WIDTH", Due.with("add 0 |;pad 0;").digest(), 17 * 31);
    }

    @Says("then what is SHOWN at each place (blanks, too)")
    static void p16Blanks(Due due) {
        due.is("a blank", Due.with("add 0 |;").digest(), (17 * 31 + 1) * 31 + 32);
        due.is("a SIGN", Due.with("add 0 a;").digest(), (17 * 31 + 1) * 31 + 97);
    }

    @Says("of each LINE how wide it is, then what is SHOWN at each place (as it is now, when CELLS or LINES went)")
    static void p16BehindChanges(Due due) {
        ElasticTabs x = Due.with("add 0 a|bb|c;add 1 d;");
        x.cut(0, 4);
        due.is("a CELL went", x.digest(), digestOf("a bbc", "d"));
        x.cut(0, 1);
        due.is("the last CELL went", x.digest(), digestOf("abbc", "d"));
        x.join(0);
        due.is("a LINE went", x.digest(), digestOf("abbcd"));
        x.undo();
        x.undo();
        due.is("undone", x.digest(), digestOf("a bbc", "d"));
    }

    @Says("h = 31 h + v (a long wraps around)")
    static void p16WrapsAround(Due due) {
        due.is("24 SIGNS", Due.with("add 0 zzzzzzzzzzzzzzzzzzzzzzzz;").digest(), digestOf("z".repeat(24)));
        ElasticTabs x = Due.withLines(12, "|z".repeat(12));
        Due.run(x, "pad 4;least 9;align 1 right;align 2 middle;align 3 point;");
        String line = " ".repeat(13) + " ".repeat(8) + "z    " + "    z        " + ("z" + " ".repeat(12)).repeat(9) + "z";
        String[] lines = new String[12];
        Arrays.fill(lines, line);
        due.is("twelve wide LINES", x.digest(), digestOf(lines));
    }

    @Says("digest: of each LINE .. what is SHOWN (by each ALIGN)")
    static void p16EachAlign(Due due) {
        String lines = "add 0 1.25|t;add 1 100|;add 2 |u;";
        due.is("LEFT", Due.with(lines).digest(), digestOf("1.25 t", "100  ", "     u"));
        due.is("RIGHT", Due.with(lines + "align 0 right;").digest(), digestOf("1.25 t", " 100 ", "     u"));
        due.is("MIDDLE", Due.with(lines + "align 0 middle;least 6;").digest(),
                digestOf(" 1.25  t", " 100   ", "       u"));
        due.is("POINT", Due.with(lines + "align 0 point;").digest(), digestOf("  1.25 t", "100    ", "       u"));
    }
}
