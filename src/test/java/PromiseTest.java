/** Each promise of the document by its number: ordinary inputs, the edges it names, wrong inputs. */
public final class PromiseTest {
    private static final String A24 = "aaaaaaaaaaaaaaaaaaaaaaaa";
    private static final int[] FAR = {Integer.MIN_VALUE, Integer.MIN_VALUE + 1, -1, 1000, Integer.MAX_VALUE - 1,
        Integer.MAX_VALUE};
    private static final Due due = new Due();

    public static void main(String[] args) {
        newObject();
        type();
        clear();
        run();
        faults();
        refusedCommands();
        put();
        cut();
        split();
        join();
        undo();
        line();
        sign();
        cell();
        widestAndSaves();
        shown();
        align();
        count();
        changed();
        digest();
        images();
        farNumbers();
        fullPage();
        due.end("PromiseTest");
    }

    private static ElasticTabs with(String text) {
        return Due.with(text);
    }

    private static ElasticTabs withTwelveLines() {
        ElasticTabs x = new ElasticTabs();
        for (int l = 0; l < 12; l++) {
            Due.run(x, "add 0 a|b;");
        }
        return x;
    }

    private static void newObject() {
        ElasticTabs x = new ElasticTabs();
        long[] want = {0, 1, 0, 0, 0, 0, 0, 0, 0};
        for (int what = 0; what < want.length; what++) {
            due.is("1: new count(" + what + ")", x.count(what), want[what]);
        }
        due.is("1: new digest()", x.digest(), 17);
        for (int k = 0; k < 24; k++) {
            due.is("1: new align(" + k + ")", x.align(k), 0);
        }
        due.is("1: BAD", ElasticTabs.BAD, -1);
        due.is("1: STATE", ElasticTabs.STATE, -2);
        due.is("1: FULL", ElasticTabs.FULL, -3);
        due.is("1: NONE", ElasticTabs.NONE, -9);
    }

    private static void type() {
        ElasticTabs x = new ElasticTabs();
        due.is("2: type(-1)", x.type(-1), -1);
        due.is("2: type(256)", x.type(256), -1);
        due.is("2: type(0)", x.type(0), 1);
        due.is("2: type(255)", x.type(255), 2);
        for (int i = 3; i <= 150; i++) {
            due.is("2: type, byte " + i, x.type(32), i);
        }
        due.is("2: the 151st byte", x.type(32), -3);
        due.is("2: BAD goes ahead of FULL", x.type(256), -1);
        due.is("2: bytes when full", x.count(8), 150);
    }

    private static void clear() {
        ElasticTabs x = new ElasticTabs();
        due.is("3: clear() of nothing", x.clear(), 0);
        Due.type(x, "add");
        due.is("3: clear()", x.clear(), 3);
        due.is("3: bytes behind it", x.count(8), 0);
        due.is("3: clear() again", x.clear(), 0);
        Due.type(x, "add 0 a;");
        due.is("3: the old text is gone", x.run(), 1);
    }

    private static void run() {
        ElasticTabs x = new ElasticTabs();
        due.is("4: run() of nothing", x.run(), 0);
        due.is("4: run() of blanks", Due.run(x, "   "), 0);
        due.is("4: bytes behind it", x.count(8), 0);
        due.is("4: all commands", Due.run(x, "add 0 ab|c;add 1 -;add 2 x.1;put 2 3 -;put 0 0 |;cut 2 0;split 0 2;"), 7);
        due.is("4: lines", Due.allSigns(x), "|a/b|c//.1-");
        due.is("4: more", Due.run(x, " join  0 ; drop 1;  align 3 middle;pad 4;least 9 ; "), 5);
        due.is("4: lines", Due.allSigns(x), "|ab|c/.1-");
        due.is("4: align", x.align(3), 2);
        due.is("4: pad", x.count(1), 4);
        due.is("4: least", x.count(2), 9);
        due.is("4: undone one by one", x.count(7), 10);
        due.is("4: add behind all", Due.run(x, "add 2 z;add 0 y;add 1 --;"), 3);
        due.is("4: lines", Due.allSigns(x), "y/--/|ab|c/.1-/z");
        due.is("4: all aligns", Due.run(x, "align 0 right;align 1 point;align 23 middle;align 3 left;"), 4);
        due.is("4: aligns", x.align(0) * 1000 + x.align(1) * 100 + x.align(23) * 10 + x.align(3), 1320);
        due.is("4: 24 SIGNS", Due.run(x, "add 0 " + A24 + ";"), 1);
        due.is("4: all of them", x.line(0, 0), 24);
        due.is("4: a dash is put", Due.run(with("add 0 -;"), "put 0 0 -;"), 1);
    }

    private static void fault(String text, int place) {
        ElasticTabs x = with("add 0 a|b;");
        long before = x.digest();
        due.is("4: run() of '" + text + "'", Due.run(x, text), -10 - place);
        due.is("4: the text stays '" + text + "'", x.count(8), text.length());
        due.is("4: nothing changes '" + text + "'", x.digest(), before);
        due.is("4: nothing is done '" + text + "'", x.count(7), 1);
        due.is("4: CHANGED stays '" + text + "'", x.count(3), 1);
    }

    private static void faults() {
        fault("ad", 0);
        fault("addd 0 a;", 0);
        fault("add", 3);
        fault("add ", 4);
        fault("add 0", 5);
        fault("add 0 a", 7);
        fault("add 0 a  ", 9);
        fault("add;", 3);
        fault("add 0 ;", 6);
        fault("add 0 a b;", 8);
        fault("add 01 a;", 4);
        fault("add 00 a;", 4);
        fault("add 1000 a;", 4);
        fault("add 1a a;", 4);
        fault("add - a;", 4);
        fault("add 0 " + A24 + "a;", 6);
        fault("drop 0 0;", 7);
        fault("drop 0 #;", 7);
        fault("split 0;", 7);
        fault("put 0 0 ab;", 8);
        fault("put 0 0 --;", 8);
        fault("put 0 0;", 7);
        fault("cut 0 x;", 6);
        fault("align 0 lef;", 8);
        fault("align 0 leftt;", 8);
        fault("align 0 0;", 8);
        fault("align 0 left left;", 13);
        fault("pad;", 3);
        fault("pad x;", 4);
        fault("least 0 0;", 8);
        fault("undo;", 0);
        fault(";", 0);
        fault("  ;", 2);
        fault("drop 0;;", 7);
        fault("Add 0 a;", 0);
        fault("add 0 aB;", 7);
        fault("add 0\ta;", 5);
        fault("add 0 a\n;", 7);
        fault("add 0 a,b;", 7);
        fault("drop 0; drop 0; x", 16);
        fault("drop 0;" + (char) 0, 7);
        fault("drop 0;" + (char) 233, 7);
    }

    private static void refused(ElasticTabs x, String text) {
        long before = x.digest();
        int undone = x.count(7);
        int changed = x.count(3);
        due.is("4: REFUSED '" + text + "'", Due.run(x, text), 0);
        due.is("4: nothing changes '" + text + "'", x.digest(), before);
        due.is("4: nothing more to undo '" + text + "'", x.count(7), undone);
        due.is("4: CHANGED stays '" + text + "'", x.count(3), changed);
        due.is("4: the text is empty '" + text + "'", x.count(8), 0);
    }

    private static void refusedCommands() {
        String[] texts = {"add 3 a;", "add 999 a;", "drop 2;", "split 2 0;", "split 0 4;", "join 1;", "join 2;",
            "put 2 0 a;", "put 0 4 a;", "cut 0 3;", "cut 2 0;", "align 24 left;", "pad 5;", "least 10;"};
        for (String text : texts) {
            refused(with("add 0 a|b;add 1 cc|;"), text);
        }
        refused(withTwelveLines(), "add 0 a;");
        refused(withTwelveLines(), "split 0 1;");
        refused(with("add 0 " + A24 + ";"), "put 0 3 b;");
        refused(with("add 0 " + A24 + ";add 1 b;"), "join 0;");
        due.is("4: what is not REFUSED is counted", Due.run(with(""), "drop 0;add 0 a;pad 5;pad 0;"), 2);
        due.is("4: pad 0 .. 4", Due.run(with(""), "pad 0;pad 4;least 0;least 9;"), 4);
    }

    private static void put() {
        ElasticTabs x = with("add 0 bd;");
        due.is("5: put ahead", x.put(0, 0, 'a'), 3);
        due.is("5: put between", x.put(0, 2, '|'), 4);
        due.is("5: put behind all", x.put(0, 4, '.'), 5);
        due.is("5: signs", Due.signs(x, 0), "ab|d.");
        due.is("5: CHANGED", x.count(3), 1);
        due.is("5: may be undone", x.count(7), 4);
        due.is("5: no such line", x.put(1, 0, 'a'), -1);
        due.is("5: no such place", x.put(0, 6, 'a'), -1);
        due.is("5: no such place", x.put(0, -1, 'a'), -1);
        for (int s = -5; s < 300; s++) {
            boolean is = s >= 'a' && s <= 'z' || s >= '0' && s <= '9' || s == 46 || s == 45 || s == 124;
            due.is("5: SIGN " + s, with("add 0 a;").put(0, 0, s), is ? 2 : -1);
        }
        x = with("add 0 " + A24 + ";");
        due.is("5: FULL", x.put(0, 24, 'a'), -3);
        due.is("5: BAD goes ahead of FULL", x.put(0, 0, 'A'), -1);
        due.is("5: BAD goes ahead of FULL", x.put(0, 25, 'a'), -1);
        due.is("5: nothing more to undo", x.count(7), 1);
    }

    private static void cut() {
        ElasticTabs x = with("add 0 a|c;add 1 x|;");
        due.is("6: cut a TAB", x.cut(0, 1), 124);
        due.is("6: signs", Due.signs(x, 0), "ac");
        due.is("6: cut the last", x.cut(0, 1), 'c');
        due.is("6: no such place", x.cut(0, 1), -1);
        due.is("6: no such place", x.cut(0, -1), -1);
        due.is("6: no such line", x.cut(2, 0), -1);
        due.is("6: cut the first", x.cut(0, 0), 'a');
        due.is("6: of none", x.cut(0, 0), -1);
        due.is("6: signs", Due.allSigns(x), "/x|");
        due.is("6: may be undone", x.count(7), 5);
        x = with("add 0 aa|;add 1 b|;add 2 c;");
        x.cut(0, 0);
        due.is("6: CHANGED", x.count(3), 3);
        x = with("add 0 abcd;add 1 " + A24 + ";");
        x.cut(0, 1);
        x.put(0, 1, 'z');
        due.is("6: the next line stays", Due.allSigns(x), "azcd/" + A24);
    }

    private static void split() {
        ElasticTabs x = with("add 0 a|b|c;add 1 z;");
        due.is("7: split", x.split(0, 2), 3);
        due.is("7: signs", Due.allSigns(x), "a|/b|c/z");
        due.is("7: CHANGED", x.count(3), 3);
        due.is("7: at the begin", x.split(1, 0), 4);
        due.is("7: signs", Due.allSigns(x), "a|//b|c/z");
        due.is("7: at the end", x.split(3, 1), 5);
        due.is("7: signs", Due.allSigns(x), "a|//b|c/z/");
        due.is("7: CHANGED", x.count(3), 16);
        due.is("7: no such place", x.split(0, 3), -1);
        due.is("7: no such place", x.split(0, -1), -1);
        due.is("7: no such line", x.split(5, 0), -1);
        due.is("7: FULL", withTwelveLines().split(11, 1), -3);
        due.is("7: BAD goes ahead of FULL", withTwelveLines().split(11, 4), -1);
        due.is("7: a full line", with("add 0 " + A24 + ";").split(0, 24), 2);
    }

    private static void join() {
        ElasticTabs x = with("add 0 a|;add 1 b|c;add 2 z;");
        due.is("8: join", x.join(0), 2);
        due.is("8: signs", Due.allSigns(x), "a|b|c/z");
        due.is("8: CHANGED", x.count(3), 1);
        due.is("8: no next one", x.join(1), -1);
        due.is("8: no such line", x.join(2), -1);
        due.is("8: no such line", x.join(-1), -1);
        due.is("8: to 24", with("add 0 aaaaaaaaaaaa;add 1 bbbbbbbbbbbb;").join(0), 1);
        due.is("8: to 24", with("add 0 aaaaaaaaaaaaa;add 1 bbbbbbbbbbb;").join(0), 1);
        x = with("add 0 aaaaaaaaaaaaa;add 1 bbbbbbbbbbbb;");
        due.is("8: FULL", x.join(0), -3);
        due.is("8: nothing changes", Due.allSigns(x), "aaaaaaaaaaaaa/bbbbbbbbbbbb");
        x = withTwelveLines();
        due.is("8: of twelve", x.join(10), 11);
        due.is("8: signs", Due.signs(x, 10), "a|ba|b");
    }

    private static void undo() {
        ElasticTabs x = with("add 0 a|b;pad 2;least 3;align 0 right;");
        x.put(0, 0, 'z');
        due.is("9: undo a put", x.undo(), 4);
        due.is("9: signs", Due.signs(x, 0), "a|b");
        due.is("9: CHANGED is none", x.count(3), 0);
        due.is("9: undo an align", x.undo() * 10 + x.align(0), 30);
        due.is("9: undo a least", x.undo() * 10 + x.count(2), 20);
        due.is("9: undo a pad", x.undo() * 10 + x.count(1), 11);
        due.is("9: width", x.cell(0, 0, 1), 2);
        due.is("9: undo an add", x.undo() * 10 + x.count(0), 0);
        due.is("9: STATE", x.undo(), -2);
        x = new ElasticTabs();
        for (int i = 0; i < 13; i++) {
            Due.run(x, "pad 1;");
        }
        due.is("9: ten are known, also if nothing changed", x.count(7), 10);
        Due.run(x, "add 0 a;");
        due.is("9: still ten", x.count(7), 10);
        for (int i = 9; i >= 0; i--) {
            due.is("9: undo", x.undo(), i);
        }
        due.is("9: STATE", x.undo(), -2);
        due.is("9: the line is gone", x.count(0), 0);
        x = with("add 0 a;add 1 b;");
        x.undo();
        Due.run(x, "add 1 c;");
        x.undo();
        due.is("9: behind another command", Due.allSigns(x), "a");
    }

    private static void line() {
        ElasticTabs x = with("add 0 a|bb|ccc;add 1 -;add 2 |;pad 2;");
        int[][] want = {{8, 2, 10, 7}, {0, 0, 0, 0}, {1, 1, 2, 2}};
        for (int l = 0; l < 3; l++) {
            for (int what = 0; what < 4; what++) {
                due.is("10: line(" + l + ", " + what + ")", x.line(l, what), want[l][what]);
            }
            due.is("10: what -1", x.line(l, -1), -1);
            due.is("10: what 4", x.line(l, 4), -1);
        }
        due.is("10: no such line", x.line(3, 0), -1);
        due.is("10: no such line", x.line(-1, 0), -1);
    }

    private static void sign() {
        ElasticTabs x = with("add 0 a|.-9z;");
        String want = "a|.-9z";
        for (int i = 0; i < 6; i++) {
            due.is("11: sign(0, " + i + ")", x.sign(0, i), want.charAt(i));
        }
        due.is("11: behind all", x.sign(0, 6), -1);
        due.is("11: ahead of all", x.sign(0, -1), -1);
        due.is("11: no such line", x.sign(1, 0), -1);
    }

    private static void cellIs(ElasticTabs x, int line, int k, int... want) {
        for (int what = 0; what < want.length; what++) {
            due.is("12: cell(" + line + ", " + k + ", " + what + ")", x.cell(line, k, what), want[what]);
        }
    }

    private static void cell() {
        ElasticTabs x = with("add 0 ab|c|;add 1 a|ccc|;add 2 abc|;add 3 -;add 4 q|rr|s;");
        cellIs(x, 0, 0, 2, 4, 0, 0, 2, 2, 0);
        cellIs(x, 0, 1, 1, 4, 4, 0, 1, 1, 0);
        cellIs(x, 1, 1, 3, 4, 4, 0, 1, 1, 2);
        cellIs(x, 2, 0, 3, 4, 0, 0, 2, 2, 3);
        cellIs(x, 4, 0, 1, 2, 0, 4, 4, 4, 1);
        cellIs(x, 4, 1, 2, 3, 2, 4, 4, 4, 1);
        due.is("12: the TAIL is no CELL", x.cell(4, 2, 0), -1);
        due.is("12: no such cell", x.cell(3, 0, 0), -1);
        due.is("12: no such cell", x.cell(0, -1, 0), -1);
        due.is("12: no such line", x.cell(5, 0, 0), -1);
        due.is("12: no such line", x.cell(-1, 0, 0), -1);
        due.is("12: what -1", x.cell(0, 0, -1), -1);
        due.is("12: what 7", x.cell(0, 0, 7), -1);
        x = with("add 0 ||||||||||||||||||||||||;least 9;pad 4;");
        cellIs(x, 0, 23, 0, 13, 299, 0, 0, -9, 0);
        due.is("12: no cell 24", x.cell(0, 24, 0), -1);
    }

    private static void widestAndSaves() {
        ElasticTabs x = with("add 0 a|;add 1 bb|;add 2 cc|;least 3;");
        due.is("12: LEAST alone", x.cell(0, 0, 5), -9);
        due.is("12: LEAST saves none", x.cell(1, 0, 6), 0);
        Due.run(x, "least 2;");
        due.is("12: as wide as LEAST", x.cell(0, 0, 5), 1);
        Due.run(x, "least 0;drop 2;");
        due.is("12: the one widest", x.cell(1, 0, 6), 2);
        due.is("12: one less wide", x.cell(0, 0, 6), 0);
        due.is("12: empty cells", with("add 0 -;add 1 |;add 2 |;").cell(2, 0, 5), 1);
        x = with("add 0 1.234|;add 1 12|;add 2 .|;add 3 77.|;align 0 point;");
        due.is("12: by POINT the most ahead", x.cell(0, 0, 5), 1);
        due.is("12: by POINT", x.cell(0, 0, 1), 7);
        due.is("12: behind the point", x.cell(0, 0, 6), 4);
        due.is("12: ahead of it there is another", x.cell(1, 0, 6), 0);
        due.is("12: the point goes, its SIGNS stay ahead", x.cell(3, 0, 6), 0);
        Due.run(x, "least 6;");
        due.is("12: by POINT as wide as LEAST", x.cell(0, 0, 5), 1);
        Due.run(x, "least 7;");
        due.is("12: by POINT LEAST alone", x.cell(0, 0, 5), -9);
    }

    private static void shownAs(ElasticTabs x, String... want) {
        for (int l = 0; l < want.length; l++) {
            due.is("13: line " + l, Due.shown(x, l), want[l]);
            due.is("13: behind its end", x.shown(l, want[l].length()), -1);
            due.is("13: ahead of it", x.shown(l, -1), -1);
        }
        due.is("13: no such line", x.shown(want.length, 0), -1);
    }

    private static void shown() {
        ElasticTabs x = with("add 0 a|b;add 1 bcd|e;add 2 -;add 3 ab|..;pad 2;least 4;");
        shownAs(x, "a     b", "bcd   e", "", "ab    ..");
        Due.run(x, "align 0 right;");
        shownAs(x, "   a  b", " bcd  e", "", "  ab  ..");
        Due.run(x, "align 0 middle;");
        shownAs(x, " a    b", "bcd   e", "", " ab   ..");
        x = with("add 0 1.5|z;add 1 20|z;add 2 .25|z;add 3 1.2.3|z;align 0 point;");
        shownAs(x, " 1.5   z", "20     z", "  .25  z", " 1.2.3 z");
        Due.run(x, "least 8;pad 0;");
        shownAs(x, " 1.5    z", "20      z", "  .25   z", " 1.2.3  z");
        shownAs(with("add 0 ab|1.5|z;add 1 c|22|z;align 1 point;"), "ab  1.5 z", "c  22   z");
        shownAs(with("add 0 |a||b;pad 0;"), "ab");
        shownAs(with("add 0 |a||b;align 0 right;align 1 middle;"), " a  b");
    }

    private static void align() {
        ElasticTabs x = with("align 0 point;align 23 right;align 5 middle;align 6 right;align 6 left;");
        due.is("14: align(0)", x.align(0), 3);
        due.is("14: align(23)", x.align(23), 1);
        due.is("14: align(5)", x.align(5), 2);
        due.is("14: align(6)", x.align(6), 0);
        due.is("14: align(24)", x.align(24), -1);
        due.is("14: align(-1)", x.align(-1), -1);
    }

    private static void count() {
        ElasticTabs x = with("add 0 a|b|;add 1 cc|;add 2 z;add 3 d|eeee|f;pad 3;least 2;");
        Due.type(x, "pad");
        long[] want = {4, 3, 2, 9, 4, 13, 29, 6, 3};
        for (int what = 0; what < want.length; what++) {
            due.is("15: count(" + what + ")", x.count(what), want[what]);
        }
        due.is("15: count(9)", x.count(9), -1);
        due.is("15: count(-1)", x.count(-1), -1);
    }

    private static void changedBy(String first, String then, int bits) {
        ElasticTabs x = with(first);
        Due.run(x, then);
        due.is("15: CHANGED by '" + then + "' behind '" + first + "'", x.count(3), bits);
    }

    private static void changed() {
        changedBy("add 0 a|;add 1 b|;add 2 c;", "put 0 0 a;", 3);
        changedBy("add 0 aa|;add 1 b|;add 2 c;", "put 1 0 b;", 2);
        changedBy("add 0 aa|;add 1 b|;", "add 0 ccc|;", 7);
        changedBy("add 0 aa|;add 1 b|;", "add 0 -;", 1);
        changedBy("add 0 aa|;add 1 b|;", "add 1 -;", 6);
        changedBy("add 0 aa|;add 1 b|;", "drop 0;", 1);
        changedBy("add 0 aa|;add 1 bb|;", "drop 0;", 0);
        changedBy("add 0 aa|;add 1 x;add 2 b|;", "drop 1;", 2);
        changedBy("add 0 ab;add 1 x|;", "split 0 2;", 2);
        changedBy("add 0 ab;add 1 x|;", "split 0 0;", 3);
        changedBy("add 0 ab;add 1 -;add 2 x|;", "join 0;", 0);
        changedBy("add 0 -;add 1 ab;", "join 0;", 1);
        changedBy("add 0 a|b|;add 1 a|bb|;", "cut 1 3;", 3);
        changedBy("add 0 a|b;add 1 c;", "pad 1;", 0);
        changedBy("add 0 a|b;add 1 c;", "pad 2;", 1);
        changedBy("add 0 a|b;add 1 c;", "least 1;", 0);
        changedBy("add 0 a|b;add 1 c;", "least 2;", 1);
        changedBy("add 0 a|b;add 1 cc|;", "align 0 right;", 0);
        changedBy("add 0 1.2|b;add 1 333|;add 2 4;", "align 0 point;", 3);
        changedBy("add 0 a;", "pad 9;", 1);
        changedBy("add 0 a;", "add 1 b;add 2 c;drop 7;", 4);
    }

    private static void digest() {
        due.is("16: one line", with("add 0 a;").digest(), (17 * 31 + 1) * 31 + 'a');
        due.is("16: a line without SIGNS", with("add 0 -;").digest(), 17 * 31);
        ElasticTabs x = with("add 0 a|b;add 1 c;align 0 right;pad 2;");
        long h = 17;
        for (int v : new int[] {4, 'a', 32, 32, 'b', 1, 'c'}) {
            h = 31 * h + v;
        }
        due.is("16: two lines", x.digest(), h);
        x = with("add 0 -;add 1 a|bcd|ef||g;pad 0;least 1;");
        h = 17;
        for (int v : new int[] {0, 8, 'a', 'b', 'c', 'd', 'e', 'f', 32, 'g'}) {
            h = 31 * h + v;
        }
        due.is("16: cells of many widths", x.digest(), h);
    }

    private static void images() {
        ElasticTabs x = new ElasticTabs();
        due.is("17: keep(-1)", x.keep(-1), -1);
        due.is("17: keep(2)", x.keep(2), -1);
        due.is("18: back(-1)", x.back(-1), -1);
        due.is("18: back(2)", x.back(2), -1);
        due.is("18: none was kept", x.back(0), -2);
        due.is("17: keep(0)", x.keep(0), 0);
        due.is("18: the other was not", x.back(1), -2);
        Due.run(x, "add 0 a|b;add 1 c|d;pad 3;least 4;align 1 point;");
        long digest = x.digest();
        due.is("17: keep(1)", x.keep(1), 2);
        due.is("17: CHANGED stays", x.count(3), 0);
        for (int i = 0; i < 3; i++) {
            Due.run(x, "put 0 0 z;pad 1;least 0;align 1 left;");
        }
        Due.run(x, "add 0 z;");
        Due.type(x, "ab");
        due.is("18: back(1)", x.back(1), 2);
        due.is("18: all is as it was", x.digest(), digest);
        due.is("18: pad, least, align", x.count(1) * 100 + x.count(2) * 10 + x.align(1), 343);
        due.is("18: CHANGED is none", x.count(3), 0);
        due.is("18: what may be undone", x.count(7), 5);
        due.is("18: the text is not in it", x.count(8), 2);
        due.is("18: undo", x.undo() * 10 + x.align(1), 40);
        x.undo();
        x.undo();
        due.is("18: undo", x.undo() * 10 + x.count(0), 11);
        due.is("18: again", x.back(1), 2);
        due.is("18: the image stays as it is", x.count(7), 5);
        due.is("18: back(0)", x.back(0), 0);
        due.is("18: nothing to undo", x.undo(), -2);
        Due.run(x, "add 0 q;");
        due.is("17: keep anew", x.keep(1), 1);
        x.undo();
        due.is("18: back to the new one", x.back(1), 1);
        due.is("18: signs", Due.allSigns(x), "q");
    }

    private static void farNumbers() {
        ElasticTabs x = with("add 0 a|b;add 1 c|d;");
        long before = x.digest();
        for (int far : FAR) {
            String with = "far " + far;
            due.is(with + " type", x.type(far), -1);
            due.is(with + " put line", x.put(far, 0, 'a'), -1);
            due.is(with + " put place", x.put(0, far, 'a'), -1);
            due.is(with + " put sign", x.put(0, 0, far), -1);
            due.is(with + " cut line", x.cut(far, 0), -1);
            due.is(with + " cut place", x.cut(0, far), -1);
            due.is(with + " split line", x.split(far, 0), -1);
            due.is(with + " split place", x.split(0, far), -1);
            due.is(with + " join", x.join(far), -1);
            due.is(with + " line", x.line(far, 0), -1);
            due.is(with + " line what", x.line(0, far), -1);
            due.is(with + " sign line", x.sign(far, 0), -1);
            due.is(with + " sign", x.sign(0, far), -1);
            due.is(with + " cell line", x.cell(far, 0, 0), -1);
            due.is(with + " cell", x.cell(0, far, 0), -1);
            due.is(with + " cell what", x.cell(0, 0, far), -1);
            due.is(with + " shown line", x.shown(far, 0), -1);
            due.is(with + " shown", x.shown(0, far), -1);
            due.is(with + " align", x.align(far), -1);
            due.is(with + " count", x.count(far), -1);
            due.is(with + " keep", x.keep(far), -1);
            due.is(with + " back", x.back(far), -1);
        }
        due.is("far: nothing changes", x.digest(), before);
        due.is("far: nothing to undo", x.count(7), 2);
        due.is("far: no byte", x.count(8), 0);
    }

    /** Twelve lines of 24 TABS each, where every row of the object is used to its end. */
    private static void fullPage() {
        ElasticTabs x = new ElasticTabs();
        for (int l = 0; l < 12; l++) {
            Due.run(x, "add " + l + " ||||||||||||||||||||||||;");
        }
        Due.run(x, "pad 4;least 9;");
        due.is("full: lines", x.count(0), 12);
        due.is("full: blocks", x.count(4), 24);
        due.is("full: CHANGED", x.count(3), 4095);
        due.is("full: widest line", x.count(5), 312);
        due.is("full: all together", x.count(6), 3744);
        long h = 17;
        for (int l = 0; l < 12; l++) {
            h = 31 * h + 312;
            for (int i = 0; i < 312; i++) {
                h = 31 * h + 32;
            }
        }
        due.is("full: digest", x.digest(), h);
        due.is("full: the last place", x.shown(11, 311), 32);
        due.is("full: behind it", x.shown(11, 312), -1);
        due.is("full: the last cell's begin", x.cell(11, 23, 2), 299);
        due.is("full: cut the last sign", x.cut(11, 23), 124);
        due.is("full: put it again", x.put(11, 23, 'z'), 24);
        due.is("full: cut in the middle", x.cut(11, 12), 124);
        due.is("full: put there", x.put(11, 12, 'y'), 24);
        due.is("full: signs", Due.signs(x, 11), "||||||||||||y||||||||||z");
        due.is("full: split", x.split(0, 12), -3);
        due.is("full: join", x.join(10), -3);
        due.is("full: undo", x.undo(), 9);
        due.is("full: keep", x.keep(1), 12);
        due.is("full: back", x.back(1), 12);
        due.is("full: drop", Due.run(x, "drop 11;drop 0;"), 2);
    }
}
