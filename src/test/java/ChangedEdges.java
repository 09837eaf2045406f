/** CHANGED: promise 15, count(3). */
final class ChangedEdges {
    private static void changed(Due due, String first, String then, int bits) {
        ElasticTabs x = Due.with(first);
        Due.run(x, then);
        due.is("CHANGED by '" + then + "' behind '" + first + "'", x.count(3), bits);
    }

    @Says("LINES of NOW (bits) that are new")
    static void p15NewLines(Due due) {
        changed(due, "", "add 0 -;", 1);
        changed(due, "add 0 a;add 1 b;", "add 0 c;", 1);
        changed(due, "add 0 a;add 1 b;", "add 1 c;", 2);
        changed(due, "add 0 a;add 1 b;", "add 2 c;", 4);
        ElasticTabs x = Due.withLines(11, "a");
        Due.run(x, "add 11 b;");
        due.is("the twelfth", x.count(3), 1 << 11);
    }

    @Says("LINES that are new (also if another one has the same SIGNS)")
    static void p15NewLineAsAnother(Due due) {
        changed(due, "add 0 a;add 1 a;", "add 0 a;", 1);
        changed(due, "add 0 a|;add 1 a|;", "add 1 a|;", 2);
    }

    @Says("or have other SIGNS")
    static void p15OtherSigns(Due due) {
        changed(due, "add 0 a;add 1 b;", "put 1 0 c;", 2);
        changed(due, "add 0 ab;add 1 b;", "cut 0 1;", 1);
        changed(due, "add 0 aa|;add 1 b|;", "put 1 1 c;", 2);
        changed(due, "add 0 a|;add 1 b|;", "put 0 2 c;", 1);
    }

    @Says("other SIGNS (the same row of SIGNS is none, whichever of them came or went)")
    static void p15SameSignsAgain(Due due) {
        changed(due, "add 0 aa;add 1 -;", "join 0;", 0);
        changed(due, "add 0 aa;", "put 0 1 a;", 1);
    }

    @Says("or a CELL of which has another WIDTH than it had ahead of it")
    static void p15AnotherWidth(Due due) {
        changed(due, "add 0 a|;add 1 b|;add 2 c|;add 3 d;", "put 1 0 x;", 7);
        changed(due, "add 0 aa|;add 1 b|;add 2 c|;", "cut 0 0;", 7);
        changed(due, "add 0 a|;add 1 -;add 2 c|;", "put 0 0 x;", 1);
        changed(due, "add 0 a|b|;add 1 a|b|;add 2 a|;", "put 0 2 x;", 3);
    }

    @Says("another WIDTH: of BLOCKS that are parted or come together")
    static void p15BlocksPartedAndJoined(Due due) {
        changed(due, "add 0 aaa|;add 1 b|;add 2 c|;", "add 1 -;", 14);
        changed(due, "add 0 aaa|;add 1 x;add 2 c|;", "drop 1;", 2);
        changed(due, "add 0 aaa|;add 1 b|;add 2 c|;", "cut 1 1;", 6);
        changed(due, "add 0 aaa|;add 1 b;add 2 c|;", "put 1 1 |;", 6);
        changed(due, "add 0 a|;add 1 b|;", "add 1 -;", 2);
    }

    @Says("another WIDTH: by PAD and LEAST")
    static void p15PadAndLeast(Due due) {
        changed(due, "add 0 a|;add 1 b;add 2 -;add 3 c||;", "pad 0;", 9);
        changed(due, "add 0 a|;add 1 b;", "pad 1;", 0);
        changed(due, "add 0 a|;add 1 b;add 2 cc|;", "least 2;", 1);
        changed(due, "add 0 a|;add 1 b;add 2 cc|;", "least 1;", 0);
        changed(due, "add 0 a;add 1 -;", "pad 4;", 0);
        changed(due, "add 0 a|;add 1 b;add 2 cc|;least 9;", "least 0;", 5);
    }

    @Says("another WIDTH: by align (one that leaves all WIDTHS lays no LINE anew)")
    static void p15Align(Due due) {
        changed(due, "add 0 1.2|;add 1 100|;add 2 a;", "align 0 point;", 3);
        changed(due, "add 0 1.2|;add 1 100|;align 0 point;", "align 0 left;", 3);
        changed(due, "add 0 a|;add 1 bb|;", "align 0 point;", 0);
        changed(due, "add 0 a|;add 1 bb|;", "align 0 right;", 0);
        changed(due, "add 0 a|;add 1 bb|;", "align 7 right;", 0);
    }

    @Says("or which BEGINS elsewhere (also in CELLS behind the one of another WIDTH)")
    static void p15BeginsElsewhere(Due due) {
        changed(due, "add 0 a|b|c;add 1 aa|b;add 2 z|;", "cut 1 0;", 7);
        changed(due, "add 0 |b|;add 1 |;add 2 |b|;", "put 1 0 a;", 7);
    }

    @Says("a LINE is the same, wherever it stands")
    static void p15MovedLinesAreTheSame(Due due) {
        changed(due, "add 0 a|;add 1 b;add 2 c|d;", "drop 0;", 0);
        changed(due, "add 0 a;add 1 bb|;add 2 c|d;", "drop 0;", 0);
        changed(due, "add 0 a;add 1 bb|;add 2 c|d;", "add 0 x;", 1);
        changed(due, "add 0 a|;add 1 b|;", "add 0 c|;", 1);
        changed(due, "add 0 aa|;add 1 bb|;", "drop 0;", 0);
        changed(due, "add 0 aa|;add 1 b|;", "drop 0;", 1);
        changed(due, "add 0 a;", "drop 0;", 0);
    }

    @Says("of a split one the first part")
    static void p15FirstPartOfASplitOne(Due due) {
        changed(due, "add 0 z;add 1 ab;add 2 c;", "split 1 1;", 6);
        changed(due, "add 0 z;add 1 ab;add 2 c;", "split 1 2;", 4);
        changed(due, "add 0 z;add 1 ab;add 2 c;", "split 1 0;", 6);
        changed(due, "add 0 -;", "split 0 0;", 2);
        changed(due, "add 0 aa|;add 1 b|;", "split 0 3;", 6);
        changed(due, "add 0 aa|;add 1 b|;", "split 1 2;", 4);
        changed(due, "add 0 a|b|;add 1 c|;add 2 dd|;", "split 0 2;", 3);
    }

    @Says("of joined ones the first")
    static void p15FirstOfJoinedOnes(Due due) {
        changed(due, "add 0 a;add 1 b;add 2 c;", "join 0;", 1);
        changed(due, "add 0 a;add 1 -;add 2 c;", "join 0;", 0);
        changed(due, "add 0 -;add 1 b;add 2 c;", "join 0;", 1);
        changed(due, "add 0 aa|;add 1 -;add 2 c|;", "join 0;", 2);
        changed(due, "add 0 a|;add 1 b|;add 2 cc|;", "join 0;", 1);
        changed(due, "add 0 a|;add 1 bbb|;add 2 cc|;", "join 1;", 2);
        changed(due, "add 0 a|;add 1 bb;add 2 ccc|;", "join 1;", 3);
    }

    @Says("CHANGED by the latest COMMAND that was done (not by those ahead of it)")
    static void p15TheLatestAlone(Due due) {
        changed(due, "", "add 0 a;add 1 b;add 2 c;", 4);
        changed(due, "add 0 a;", "put 0 0 b;pad 1;", 0);
    }

    @Says("CHANGED by the latest COMMAND that was done (REFUSED ones are not)")
    static void p15RefusedStays(Due due) {
        changed(due, "add 0 a;", "add 1 b;drop 7;pad 5;", 2);
        ElasticTabs x = Due.with("add 0 a;add 1 b;");
        x.put(0, 9, 'a');
        x.put(0, 0, '#');
        x.cut(0, 1);
        x.split(2, 0);
        x.join(1);
        due.is("behind refused calls", x.count(3), 2);
        Due.run(x, "x");
        due.is("behind a FAULT", x.count(3), 2);
        x.clear();
        x.run();
        due.is("behind no COMMAND", x.count(3), 2);
    }

    @Says("none behind undo()")
    static void p15NoneBehindUndo(Due due) {
        ElasticTabs x = Due.with("add 0 a|;add 1 bb|;");
        due.is("ahead of it", x.count(3), 3);
        x.undo();
        due.is("behind it", x.count(3), 0);
        Due.run(x, "add 1 c;");
        due.is("behind a COMMAND again", x.count(3), 2);
    }

    @Says("another WIDTH than it had ahead of it (ahead of the COMMAND: what undo() made)")
    static void p15ComparedWithWhatUndoMade(Due due) {
        ElasticTabs x = Due.with("add 0 a|;add 1 bb|;");
        x.undo();
        Due.run(x, "pad 1;");
        due.is("nothing", x.count(3), 0);
        Due.run(x, "put 0 0 z;");
        x.undo();
        Due.run(x, "align 0 point;");
        due.is("nothing", x.count(3), 0);
    }

    @Says("none behind back()")
    static void p15NoneBehindBack(Due due) {
        ElasticTabs x = Due.with("add 0 a|;add 1 bb|;");
        x.keep(0);
        due.is("behind keep()", x.count(3), 3);
        x.back(0);
        due.is("behind back()", x.count(3), 0);
    }

    @Says("another WIDTH than it had ahead of it (ahead of the COMMAND: what back() made)")
    static void p15ComparedWithWhatBackMade(Due due) {
        ElasticTabs x = Due.with("add 0 a|;add 1 b|;");
        x.keep(0);
        Due.run(x, "pad 4;add 1 cccc|;");
        x.back(0);
        Due.run(x, "pad 1;");
        due.is("nothing", x.count(3), 0);
        x.back(0);
        Due.run(x, "add 1 c|;");
        due.is("the new one", x.count(3), 2);
    }

    @Says("LINES of NOW (bits): all twelve")
    static void p15AllTwelve(Due due) {
        ElasticTabs x = Due.withLines(12, "a|");
        x.put(11, 0, 'b');
        due.is("put", x.count(3), 4095);
        x.cut(11, 2);
        due.is("cut of the TAB", x.count(3), 4095);
        x.cut(11, 1);
        due.is("cut of the TAIL", x.count(3), 2048);
    }
}
