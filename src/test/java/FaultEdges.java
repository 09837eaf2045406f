/** Where THE TEXT has its FAULT: promise 4. */
final class FaultEdges {
    private static final String A24 = "a".repeat(24);
    /** Each COMMAND in a whole form; all but its first word can be left out from behind. */
    private static final String[] WHOLE = {"add 0 a|b", "drop 0", "split 0 1", "join 0", "put 0 0 x", "cut 0 0",
        "align 0 left", "pad 2", "least 2"};

    /** FAULT at a place: the answer, and that nothing changes. */
    private static void fault(Due due, String text, int place) {
        ElasticTabs x = Due.with("add 0 a|b;add 1 c;pad 3;");
        Due.type(x, text);
        String before = Due.state(x);
        due.is("run() of '" + text + "'", x.run(), -10 - place);
        due.is("all behind '" + text + "'", Due.state(x), before);
    }

    private static boolean isSign(int c) {
        return c >= 'a' && c <= 'z' || c >= '0' && c <= '9' || c == 46 || c == 45 || c == 124;
    }

    @Says("-10 less FAULT: nothing changes. (THE TEXT is as it was, and can be typed on)")
    static void p04TheTextStays(Due due) {
        ElasticTabs x = new ElasticTabs();
        Due.type(x, "add 0 ab");
        due.is("run()", x.run(), -18);
        due.is("bytes", x.count(8), 8);
        due.is("run() again", x.run(), -18);
        due.is("type(;)", x.type(';'), 9);
        due.is("run() of the whole", x.run(), 1);
        due.is("LINES", Due.allSigns(x), "ab");
    }

    @Says("-10 less FAULT: nothing changes. (COMMANDS ahead of it are not done either)")
    static void p04NothingIsDoneAheadOfIt(Due due) {
        fault(due, "add 0 z;pad 0;drop 9;put 0 0 y;x", 31);
        fault(due, "drop 0;drop 0;;", 14);
    }

    @Says("-10 less FAULT (the least and the greatest that there is)")
    static void p04FirstAndLastPlace(Due due) {
        fault(due, ";", 0);
        fault(due, " ".repeat(149) + ";", 149);
        fault(due, " ".repeat(147) + "pad", 150);
    }

    @Says("no such command")
    static void p04NoSuchCommand(Due due) {
        String[] wrong = {"ad", "addd", "dro", "dropp", "spli", "splitt", "joi", "joinn", "pu", "putt", "cu", "cutt",
            "alig", "alignn", "pa", "padd", "leas", "leastt", "undo", "0", "-", ".", "|", "a", "add|", "-add", "add0",
            "left", "bdd", "adb", "aad"};
        for (String word : wrong) {
            fault(due, word + " 0 0;", 0);
            fault(due, "pad 0;  " + word + " 0;", 8);
        }
    }

    @Says("no such command (also if the text ends with it)")
    static void p04NoSuchCommandAtTheEnd(Due due) {
        fault(due, "ad", 0);
        fault(due, "pad 0; lef", 7);
    }

    @Says("words are rows of letters (a .. z; a great letter is none of these)")
    static void p04GreatLetters(Due due) {
        fault(due, "Add 0 a;", 0);
        fault(due, "aDd 0 a;", 0);
        fault(due, "add 0 A;", 6);
        fault(due, "add 0 aZ;", 7);
    }

    @Says("no number (figures)")
    static void p04NoFigures(Due due) {
        for (String word : new String[] {"x", "-", ".", "|", "1x", "x1", "1.", "-1", "1|", "1-1", "12a", "a12"}) {
            fault(due, "drop " + word + ";", 5);
            fault(due, "cut 0 " + word + ";", 6);
        }
    }

    @Says("no number (3 at most)")
    static void p04FourFigures(Due due) {
        fault(due, "drop 1000;", 5);
        fault(due, "drop 9999999999;", 5);
        fault(due, "cut 0 1000;", 6);
        fault(due, "pad 4294967297;", 4);
        ElasticTabs x = Due.with("add 0 a;");
        due.is("three are a number", Due.run(x, "drop 999;drop 100;"), 0);
        due.is("bytes", x.count(8), 0);
    }

    @Says("no number (no 0 ahead of others)")
    static void p04NoughtAheadOfOthers(Due due) {
        fault(due, "drop 00;", 5);
        fault(due, "drop 01;", 5);
        fault(due, "drop 000;", 5);
        fault(due, "drop 010;", 5);
        fault(due, "put 0 00 a;", 6);
        ElasticTabs x = Due.with("add 0 a;add 1 b;");
        due.is("0 alone is a number", Due.run(x, "drop 0;"), 1);
        x = Due.with("add 0 abcdefghijk;");
        due.is("0 behind another is fine", Due.run(x, "cut 0 10;"), 1);
        due.is("SIGNS", Due.signs(x, 0), "abcdefghij");
    }

    @Says("no such word of align")
    static void p04NoSuchWordOfAlign(Due due) {
        for (String word : new String[] {"lef", "leftt", "righ", "rights", "middl", "middles", "poin", "points", "l",
            "0", "3", "-", ".", "|", "add", "left|", "-left"}) {
            fault(due, "align 0 " + word + ";", 8);
        }
    }

    @Says("a SIGN that is more than one")
    static void p04MoreThanOneSign(Due due) {
        fault(due, "put 0 0 ab;", 8);
        fault(due, "put 0 0 ||;", 8);
        fault(due, "put 0 0 --;", 8);
        fault(due, "put 0 0 " + A24 + ";", 8);
    }

    @Says("more than 24 SIGNS")
    static void p04MoreThan24Signs(Due due) {
        fault(due, "add 0 " + A24 + "a;", 6);
        fault(due, "add 0  " + "|".repeat(25) + ";", 7);
        fault(due, "add 0 " + "-".repeat(100) + ";", 6);
        due.is("24 are fine", Due.run(new ElasticTabs(), "add 0 " + "|".repeat(24) + ";"), 1);
    }

    @Says("one word too many: its place")
    static void p04OneWordTooMany(Due due) {
        for (String whole : WHOLE) {
            fault(due, whole + " 0;", whole.length() + 1);
            fault(due, whole + "   x", whole.length() + 3);
            fault(due, "join 0;" + whole + " -;", whole.length() + 8);
        }
    }

    @Says("; too early: its place")
    static void p04EndTooEarly(Due due) {
        for (String whole : WHOLE) {
            String part = whole;
            while (part.lastIndexOf(' ') >= 0) {
                part = part.substring(0, part.lastIndexOf(' '));
                fault(due, part + ";", part.length());
                fault(due, part + "  ;", part.length() + 2);
                fault(due, "pad 0;" + part + ";", part.length() + 6);
            }
        }
    }

    @Says("; too early: its place (a COMMAND is some words, so none is too early)")
    static void p04EndWithoutWords(Due due) {
        fault(due, ";", 0);
        fault(due, "   ;", 3);
        fault(due, "pad 0;;", 6);
        fault(due, "pad 0; ;", 7);
    }

    @Says("the text's length, if it ends too early")
    static void p04TextEndsTooEarly(Due due) {
        for (String whole : WHOLE) {
            fault(due, whole, whole.length());
            fault(due, whole + "  ", whole.length() + 2);
            String part = whole;
            while (part.lastIndexOf(' ') >= 0) {
                part = part.substring(0, part.lastIndexOf(' '));
                fault(due, part, part.length());
                fault(due, part + " ", part.length() + 1);
                fault(due, "pad 0; " + part, part.length() + 7);
            }
        }
    }

    @Says("of a byte that is none of these (all of them, where a word could begin)")
    static void p04WrongByteAheadOfAWord(Due due) {
        for (int c = 0; c <= 255; c++) {
            if (!isSign(c) && c != 32 && c != 59) {
                fault(due, "" + (char) c, 0);
                fault(due, "pad 0; " + (char) c, 7);
                fault(due, "pad " + (char) c + "0;", 4);
            }
        }
    }

    @Says("of a byte that is none of these (all of them, behind a word that can stand there)")
    static void p04WrongByteBehindAWord(Due due) {
        for (int c = 0; c <= 255; c++) {
            if (!isSign(c) && c != 32 && c != 59) {
                fault(due, "add" + (char) c + "0 a;", 3);
                fault(due, "add 0 a" + (char) c + "b;", 7);
                fault(due, "pad 0" + (char) c, 5);
                fault(due, "pad 0 " + (char) c + ";", 6);
            }
        }
    }

    @Says("FAULT: the place of the first (the one that stands first, of several)")
    static void p04TheFirstOfSeveral(Due due) {
        fault(due, "ad#", 0);
        fault(due, "pad x#", 4);
        fault(due, "pad 0#x", 5);
        fault(due, "pad 01 01;", 4);
        fault(due, "x;y;#", 0);
        fault(due, "drop 0 0 0;", 7);
    }

    @Says("FAULT is of what is written; a COMMAND that can't be done is no FAULT but REFUSED")
    static void p04RefusedIsNoFault(Due due) {
        ElasticTabs x = new ElasticTabs();
        due.is("run()", Due.run(x, "drop 0;join 999;align 24 left;pad 5;least 10;cut 0 0;split 9 9;put 0 0 a;"), 0);
        due.is("bytes", x.count(8), 0);
        fault(due, "drop 999;drop 1000;", 14);
        fault(due, "align 24 lef;", 9);
    }
}
