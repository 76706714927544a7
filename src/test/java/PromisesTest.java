/** What each promise says, by hand: ordinary inputs, the edges that the document names, wrong inputs. */
public final class PromisesTest {
    private static final String BASE = "wide 6;tough 5;queen north wool 50;queen south wool 9;"
            + "clause fish is cable knit;clause reef is purl purl;clause salt is knit purl purl;clash fish reef;"
            + "gives north fish 9;costs north fish 2;gives south fish 1;costs south fish 4;"
            + "gives south reef 8;costs north reef 3;gives north salt 5;"
            + "row north knit 2 purl 2 cable knit;row south cable knit 3 hole knit;row north purl 6;row south knit 6;";
    private static int wrong = 0;
    private static int promise = 0;

    public static void main(String[] args) {
        trays();
        texts();
        treatyFaults();
        centuryFaults();
        told();
        done();
        years();
        knitted();
        dealt();
        said();
        willBe();
        mended();
        bargains();
        joined();
        halfSeen();
        centuries();
        limits();
        marks();
        System.out.println(wrong == 0 ? "the promises hold" : wrong + " answers are not as due");
        if (wrong > 0) {
            System.exit(1);
        }
    }

    // ---- helpers

    private static void is(String what, long got, long want) {
        if (got != want) {
            wrong++;
            System.out.println("promise " + promise + ": " + what + " answered " + got + ", due is " + want);
        }
    }

    private static void is(String what, boolean got, boolean want) {
        is(what, got ? 1 : 0, want ? 1 : 0);
    }

    /** A call that must be refused with a STATUS. */
    private static void no(KnitTreaty x, String what, long got, int status) {
        is(what, got, KnitTreaty.NONE);
        is("status of " + what, x.status(), status);
    }

    private static void no(KnitTreaty x, String what, boolean got, int status) {
        is(what, got, false);
        is("status of " + what, x.status(), status);
    }

    private static void tape(KnitTreaty x, String s) {
        for (int at = 0; at < s.length(); at += 20) {
            int[] v = new int[5];
            for (int k = 0; k < 20; k++) {
                int c = at + k < s.length() ? s.charAt(at + k) : ' ';
                v[k / 4] = v[k / 4] << 8 | c & 255;
            }
            x.feed(v[0], v[1], v[2], v[3], v[4]);
        }
    }

    private static KnitTreaty of(String s) {
        KnitTreaty x = new KnitTreaty();
        tape(x, s);
        x.treaty(s.length());
        is("status of " + s, x.status(), 0);
        return x;
    }

    private static int years(KnitTreaty x, String s) {
        tape(x, s);
        return x.centuries(s.length());
    }

    private static void row(KnitTreaty x, int tray, String kinds) {
        x.tray(tray, 0, kinds.length());
        for (int i = 0; i < kinds.length(); i++) {
            x.write(tray, i, "KPCH".indexOf(kinds.charAt(i)));
        }
    }

    /** The STITCHES of a ROW: letters, small if DARNED, a dot if UNDONE. */
    private static String see(KnitTreaty x, int row) {
        StringBuilder b = new StringBuilder();
        for (int c = 0; c < x.many(0); c++) {
            char k = "KPCH".charAt(x.stitch(row, c, 0));
            b.append(x.stitch(row, c, 2) == 1 ? '.' : x.stitch(row, c, 3) == 1 ? Character.toLowerCase(k) : k);
        }
        return b.toString();
    }

    private static void shows(KnitTreaty x, int row, String want) {
        String got = see(x, row);
        if (!got.equals(want)) {
            wrong++;
            System.out.println("promise " + promise + ": row " + row + " is " + got + ", due is " + want);
        }
    }

    private static void treatyFault(String s, int kind, int place) {
        fault(new KnitTreaty(), s, true, kind, place);
    }

    private static void centuryFault(String s, int kind, int place) {
        fault(of(BASE), s, false, kind, place);
    }

    private static void fault(KnitTreaty x, String s, boolean treaty, int kind, int place) {
        tape(x, s);
        int got = treaty ? x.treaty(s.length()) : x.centuries(s.length());
        if (kind == 0) {
            is("status of " + s, x.status(), 0);
        } else {
            no(x, s, got, 10);
        }
        is("fault of " + s, x.fault(0), kind);
        is("place in " + s, x.fault(1), place);
    }

    // ---- the promises

    private static void trays() {
        promise = 1;
        KnitTreaty x = new KnitTreaty();
        is("top", x.top(), 0);
        is("bottom", x.bottom(), 1);
        is("status", x.status(), 0);
        for (int t = 0; t < 4; t++) {
            no(x, "read of a missing tray", x.read(t, 0), 3);
        }
        int[] due = {6, 20, 0, 0, 0, 0, 0, 0, 0, 0};
        for (int what = 0; what < 10; what++) {
            is("many " + what, x.many(what), due[what]);
        }
        no(x, "live", x.live(0), 8);
        no(x, "back", x.back(), 8);
        no(x, "treaty(1)", x.treaty(1), 5);
        is("fault", x.fault(0), -1);
        promise = 5;
        no(x, "tray -1", x.tray(-1, 0, 1), 1);
        no(x, "tray 4", x.tray(4, 9, 99), 1);
        no(x, "sort -1", x.tray(0, -1, 61), 1);
        no(x, "sort 4", x.tray(0, 4, -1), 1);
        no(x, "61 numbers", x.tray(0, 0, 61), 5);
        no(x, "-1 numbers", x.tray(0, 0, -1), 6);
        no(x, "still missing", x.read(0, 0), 3);
        is("60 numbers", x.tray(0, 3, 60), true);
        promise = 6;
        is("write", x.write(0, 59, Long.MIN_VALUE), true);
        is("read", x.read(0, 59), Long.MIN_VALUE);
        no(x, "write at 60", x.write(0, 60, 1), 4);
        no(x, "write at -1", x.write(0, -1, 1), 4);
        no(x, "write to 4", x.write(4, 0, 1), 1);
        no(x, "write to a missing one", x.write(1, -1, 1), 3);
        is("tray anew", x.tray(0, 0, 60), true);
        is("all 0", x.read(0, 59), 0);
        long v = 0x8080808080808080L;
        long[] want = {-128, -32640, -2139062144, v};
        for (int sort = 0; sort < 4; sort++) {
            x.tray(1, sort, 1);
            x.write(1, 0, v);
            is("cut to sort " + sort, x.read(1, 0), want[sort]);
        }
        promise = 7;
        x.tray(2, 0, 0);
        no(x, "read of an empty tray", x.read(2, 0), 4);
        no(x, "read of tray 4", x.read(4, 0), 1);
        no(x, "read of a missing tray", x.read(3, 0), 3);
        x.write(1, 0, -1);
        is("read -1", x.read(1, 0), -1);
        is("status", x.status(), 0);
        pours();
    }

    private static void pours() {
        promise = 8;
        KnitTreaty x = new KnitTreaty();
        x.tray(0, 1, 5);
        x.tray(1, 1, 4);
        x.tray(2, 0, 4);
        for (int i = 0; i < 5; i++) {
            x.write(0, i, i + 1);
        }
        is("pour", x.pour(0, 1, 1, 0, 3), true);
        is("first", x.read(1, 0), 2);
        is("third", x.read(1, 2), 4);
        is("fourth", x.read(1, 3), 0);
        is("up in itself", x.pour(0, 0, 0, 1, 4), true);
        is("place 1", x.read(0, 1), 1);
        is("place 4", x.read(0, 4), 4);
        is("down in itself", x.pour(0, 1, 0, 0, 4), true);
        is("place 0", x.read(0, 0), 1);
        is("place 3", x.read(0, 3), 4);
        is("none at the end", x.pour(0, 5, 1, 4, 0), true);
        no(x, "none above the end", x.pour(0, 6, 1, 0, 0), 4);
        no(x, "none above the other end", x.pour(0, 0, 1, 5, 0), 4);
        no(x, "place -1", x.pour(0, -1, 1, 0, 1), 4);
        no(x, "too many", x.pour(0, 0, 1, 0, 5), 4);
        no(x, "far too many", x.pour(0, 1, 1, 1, Integer.MAX_VALUE), 4);
        no(x, "far off", x.pour(0, Integer.MAX_VALUE, 1, 0, 1), 4);
        no(x, "below 0", x.pour(0, 9, 1, 9, -1), 6);
        no(x, "unlike", x.pour(0, 9, 2, 0, -1), 11);
        no(x, "missing", x.pour(0, 0, 3, 0, 1), 3);
        no(x, "missing too", x.pour(3, 0, 0, 0, 1), 3);
        no(x, "no such", x.pour(3, 0, 4, 0, 1), 1);
        no(x, "no such too", x.pour(-1, 0, 3, 0, 1), 1);
    }

    private static void texts() {
        promise = 9;
        KnitTreaty x = new KnitTreaty();
        no(x, "a wrong call", x.many(10), 5);
        for (int i = 1; i <= 45; i++) {
            is("feed", x.feed(0x20202020, 0x20202020, 0x20202020, 0x20202020, 0x20202020), 20 * i);
        }
        is("feed above 900", x.feed(0, 0, 0, 0, 0), -1);
        promise = 2;
        is("feed has no status", x.status(), 5);
        promise = 10;
        no(x, "901 bytes", x.treaty(901), 5);
        no(x, "-1 bytes", x.treaty(-1), 5);
        promise = 11;
        no(x, "301 bytes", x.centuries(301), 5);
        is("300 blanks", x.centuries(300), 0);
        is("the tape is empty", x.feed(0, 0, 0, 0, 0), 20);
        promise = 10;
        tape(x, BASE);
        no(x, "a byte 0", x.treaty(4), 10);
        is("the tape is empty", x.feed(0, 0, 0, 0, 0), 20);
        is("nothing of the tape", x.treaty(0), 0);
        x = of(BASE);
        is("rows", x.many(4), 4);
        tape(x, "queen a;row a;");
        no(x, "a row of no stitches", x.treaty(14), 10);
        is("rows are still there", x.many(4), 4);
        shows(x, 0, "KKPPCK");
        shows(x, 1, "CKKKHK");
        shows(x, 2, "PPPPPP");
        x.year(4);
        x.darn(0, 0);
        x.moth(0, 1);
        x.shear(0, 5);
        x.rule(9);
        years(x, "any;");
        tape(x, BASE);
        is("once more", x.treaty(BASE.length()), 4);
        int[] due = {6, 5, 2, 3, 4, 0, 0, 0, 0, 7};
        for (int what = 0; what < 10; what++) {
            is("many " + what, x.many(what), due[what]);
        }
        is("wool", x.wool(0), 50);
        no(x, "no centuries", x.live(0), 8);
        is("no treaty at all", x.treaty(0), 0);
        is("wide without", x.many(0), 6);
        is("tough without", x.many(1), 20);
        tape(x, "queen a;queen b wool 0;");
        x.treaty(23);
        is("wool without", x.wool(0), 100);
        is("wool 0", x.wool(1), 0);
        promise = 12;
        is("fault 0", x.fault(0), 0);
        is("fault 1", x.fault(1), -1);
        is("fault 2", x.fault(2), -1);
        is("fault -1", x.fault(-1), -1);
        no(x, "5 leaves fault() alone", x.treaty(9), 5);
        is("fault 0", x.fault(0), 0);
    }

    private static void treatyFaults() {
        promise = 12;
        treatyFault("", 0, -1);
        treatyFault(" \n", 0, -1);
        treatyFault("wide6;tough\n0005;", 0, -1);
        treatyFault("wide\t6;", 1, 4);
        treatyFault("wide 00006;", 1, 5);
        treatyFault("12345", 1, 0);
        treatyFault("1234", 2, 0);
        treatyFault("wide 6\r;", 1, 6);
        treatyFault("queen A;", 1, 6);
        treatyFault("queen " + (char) 233 + ";", 1, 6);
        treatyFault("wide 6", 2, 6);
        treatyFault("wide 6  \n", 2, 9);
        treatyFault(";", 2, 0);
        treatyFault("wide;", 2, 4);
        treatyFault("wide 0;", 4, 5);
        treatyFault("wide 9;", 4, 5);
        treatyFault("tough 0;", 4, 6);
        treatyFault("tough 51;", 4, 6);
        treatyFault("wide 8;tough 50;wide 8;", 5, 16);
        treatyFault("tough 1;tough 1;", 5, 8);
        treatyFault("wide 1;queen a;row a knit;wide 1;", 2, 26);
        treatyFault("clause a is knit;tough 1;", 2, 17);
        treatyFault("queen abcdefgh;", 0, -1);
        treatyFault("queen zazz;queen azz;queen zz;", 0, -1);
        treatyFault("queen abcdefghi;", 2, 6);
        treatyFault("queen stop;", 2, 6);
        treatyFault("queen a;queen a;", 3, 14);
        treatyFault("clause a is knit;queen a;", 3, 23);
        treatyFault("queen a;clause a is knit;", 3, 15);
        treatyFault("queen a wool;", 2, 12);
        treatyFault("queen a wool 999;", 0, -1);
        treatyFault("queen a wool 1000;", 4, 13);
        treatyFault("queen a 5;", 2, 8);
        treatyFault("queen a;queen b;queen c;queen d;queen e;", 6, 32);
        treatyFault("clause a knit;", 2, 9);
        treatyFault("clause a is;", 2, 11);
        treatyFault("clause a is knit 2;", 2, 17);
        treatyFault("clause a is hole cable purl knit knit;", 0, -1);
        treatyFault("clause a is hole cable purl knit knit knit;", 6, 38);
        treatyFault("wide 2;clause a is hole cable purl;", 6, 30);
        treatyFault("clause a is knit;clause b is knit;clause c is knit;clause d is knit;clause e is knit;"
                + "clause f is knit;clause g is knit;", 6, 102);
        String two = "queen q;clause a is knit;clause b is purl;";
        treatyFault(two + "clash a b;clash b a;", 0, -1);
        treatyFault(two + "clash a a;", 5, 50);
        treatyFault(two + "clash a q;", 3, 50);
        treatyFault(two + "clash c a;", 3, 48);
        treatyFault(two + "clash a is;", 2, 50);
        treatyFault(two + "clash a abcdefghi;", 2, 50);
        treatyFault(two + "gives a q 1;", 3, 48);
        treatyFault(two + "gives q q 1;", 3, 50);
        treatyFault(two + "costs q a 99;", 0, -1);
        treatyFault(two + "costs q a 100;", 4, 52);
        treatyFault(two + "costs q a;", 2, 51);
        treatyFault(two + "costs q a < 1;", 2, 52);
        rowFaults();
    }

    private static void rowFaults() {
        String q = "wide 4;queen q;";
        treatyFault(q + "row q knit 4;", 0, -1);
        treatyFault(q + "row q knit knit 2 knit 1;", 0, -1);
        treatyFault(q + "row x knit 4;", 3, 19);
        treatyFault(q + "row knit 4;", 2, 19);
        treatyFault(q + "row q;", 2, 20);
        treatyFault(q + "row q knit 3;", 2, 27);
        treatyFault(q + "row q knit 3", 2, 27);
        treatyFault(q + "row q knit 3 ", 2, 28);
        treatyFault(q + "row q 4 knit;", 2, 21);
        treatyFault(q + "row q knit 4 knit;", 6, 28);
        treatyFault(q + "row q knit 5;", 6, 26);
        treatyFault(q + "row q knit 8;", 6, 26);
        treatyFault(q + "row q knit 9;", 4, 26);
        treatyFault(q + "row q knit 0;", 4, 26);
        treatyFault(q + "row q knit 2 2;", 2, 28);
        treatyFault(q + "row q knit 4 4;", 2, 28);
        treatyFault(q + "row q knit 4 <", 2, 28);
        treatyFault(q + "row q knit 12345;", 1, 26);
        StringBuilder many = new StringBuilder(q);
        for (int i = 0; i < 12; i++) {
            many.append("row q knit 4;");
        }
        treatyFault(many.toString(), 0, -1);
        treatyFault(many + "row", 6, many.length());
    }

    private static void centuryFaults() {
        promise = 11;
        centuryFault("", 0, -1);
        centuryFault("year 1;pull 3 1;moth 3 5;darn 0 0;any;stop;", 0, -1);
        centuryFault("when said fish;end;when whole 3;end;when undone<0;end;when undone>99;end;when undone=1;end;", 0, -1);
        centuryFault("loop 99;loop 1;when whole 0;end;end;loop 1;end;end;loop 5;end;", 0, -1);
        centuryFault("year 0;", 4, 5);
        centuryFault("year 20;year 21;", 4, 13);
        centuryFault("year;", 2, 4);
        centuryFault("pull 4 0;", 4, 5);
        centuryFault("pull 0 2;", 4, 7);
        centuryFault("moth 0 6;", 4, 7);
        centuryFault("darn 4 6;", 4, 5);
        centuryFault("darn 0;", 2, 6);
        centuryFault("any any", 2, 4);
        centuryFault("go;", 2, 0);
        centuryFault("queen x;", 2, 0);
        centuryFault("end;", 2, 0);
        centuryFault("loop 1;end;end;", 2, 11);
        centuryFault("loop 1;end", 2, 10);
        centuryFault("loop 1; ", 2, 8);
        centuryFault("loop 100;", 4, 5);
        centuryFault("loop 1;loop 1;loop 1;any;when", 7, 25);
        centuryFault("loop 1;loop 1;loop 1;end;when whole 0;end;end;end;", 0, -1);
        centuryFault("when;", 2, 4);
        centuryFault("when any;", 2, 5);
        centuryFault("when said north;", 3, 10);
        centuryFault("when said eel;", 3, 10);
        centuryFault("when said knit;", 2, 10);
        centuryFault("when said abcdefghi;", 2, 10);
        centuryFault("when whole 4;", 4, 11);
        centuryFault("when undone 4;", 2, 12);
        centuryFault("when undone;", 2, 11);
        centuryFault("when undone = 100;", 4, 14);
        centuryFault("any;?", 1, 4);
        centuryFault("year 99999;", 1, 5);
        StringBuilder thirty = new StringBuilder("loop 1;");
        for (int i = 0; i < 29; i++) {
            thirty.append("any;");
        }
        centuryFault(thirty + "end;", 0, -1);
        centuryFault(thirty + "any", 6, thirty.length());
        centuryFault(thirty + "go", 2, thirty.length());
        fault(new KnitTreaty(), "pull 0 0;", false, 4, 5);
        fault(new KnitTreaty(), "moth 0 0;", false, 4, 5);
        KnitTreaty x = of(BASE);
        is("steps", years(x, "loop 2;any;end;stop;"), 3);
        tape(x, "what");
        no(x, "a fault", x.centuries(4), 10);
        is("the old ones stay", x.live(1), 4);
        is("none at all", x.centuries(0), 0);
        is("their steps", x.live(1), 0);
        x = of(BASE);
        row(x, 0, "KKKKKK");
        x.knit(0, 0);
        is("a row knitted on", years(x, "pull 4 0;"), 1);
    }

    private static void told() {
        promise = 13;
        KnitTreaty x = of(BASE);
        no(x, "many 10", x.many(10), 5);
        no(x, "many -1", x.many(-1), 5);
        x.year(2);
        x.moth(2, 0);
        x.darn(0, 5);
        is("undone", x.many(6), 2);
        is("darned", x.many(7), 1);
        // Two a STITCH, two more each beside the HOLE; the UNDONE two and the DARNED one less.
        is("worn", x.many(8), 48 + 4 - 4 - 2);
        is("year", x.many(5), 2);
        is("said", x.many(9), 7);
        promise = 14;
        is("kind", x.stitch(1, 4, 0), 3);
        is("worn by the hole", x.stitch(1, 5, 1), 4);
        is("worn", x.stitch(2, 0, 1), 2);
        is("undone", x.stitch(2, 0, 2), 1);
        is("the ladder", x.stitch(3, 0, 2), 1);
        is("darned", x.stitch(0, 5, 3), 1);
        is("not worn", x.stitch(0, 5, 1), 0);
        is("not darned", x.stitch(0, 4, 3), 0);
        no(x, "what 4", x.stitch(0, 0, 4), 5);
        no(x, "what -1", x.stitch(0, 0, -1), 5);
        no(x, "row 4", x.stitch(4, 0, 9), 2);
        no(x, "row -1", x.stitch(-1, 0, 0), 2);
        no(x, "column 6", x.stitch(0, 6, 0), 2);
        no(x, "column -1", x.stitch(0, -1, 0), 2);
        promise = 15;
        is("queen of 3", x.queenOf(3), 1);
        is("queen of 2", x.queenOf(2), 0);
        no(x, "queen of 4", x.queenOf(4), 2);
        no(x, "queen of -1", x.queenOf(-1), 2);
        promise = 16;
        is("wool", x.wool(1), 9);
        no(x, "wool of 2", x.wool(2), 2);
        no(x, "wool of -1", x.wool(-1), 2);
        promise = 17;
        is("length", x.length(2), 3);
        no(x, "length of 3", x.length(3), 2);
        no(x, "length of -1", x.length(-1), 2);
        promise = 18;
        is("kind", x.kind(2, 0), 0);
        is("kind", x.kind(2, 1), 1);
        no(x, "no such", x.kind(2, 3), 8);
        no(x, "no such", x.kind(2, -1), 8);
        no(x, "no clause", x.kind(3, 0), 2);
        promise = 19;
        is("clash", x.clash(1, 0), 1);
        is("no clash", x.clash(2, 0), 0);
        no(x, "itself", x.clash(0, 0), 9);
        no(x, "no clause", x.clash(3, 3), 2);
        no(x, "no other", x.clash(0, -1), 2);
        promise = 20;
        is("gives", x.worth(1, 1, 0), 8);
        is("costs", x.worth(0, 1, 1), 3);
        is("nothing told", x.worth(1, 2, 0), 0);
        no(x, "what 2", x.worth(0, 0, 2), 5);
        no(x, "what -1", x.worth(0, 0, -1), 5);
        no(x, "no queen", x.worth(2, 0, 2), 2);
        no(x, "no clause", x.worth(0, 3, 2), 2);
        copies();
    }

    private static void copies() {
        promise = 21;
        KnitTreaty x = of(BASE);
        x.moth(0, 1);
        x.tray(0, 3, 7);
        x.write(0, 6, 77);
        is("copy", x.copyRow(0, 0), 6);
        int[] due = {0, -1, 1, 1, 2, 0, 77};
        for (int i = 0; i < 7; i++) {
            is("place " + i, x.read(0, i), due[i]);
        }
        x.tray(1, 0, 5);
        no(x, "too few", x.copyRow(0, 1), 4);
        no(x, "missing", x.copyRow(0, 2), 3);
        no(x, "no row", x.copyRow(4, 2), 2);
        no(x, "no tray", x.copyRow(4, 4), 1);
        no(x, "no tray", x.copyRow(0, -1), 1);
    }

    private static void done() {
        promise = 23;
        KnitTreaty x = of(BASE);
        is("pull", x.pull(0, 0), 7);
        shows(x, 0, "....CK");
        shows(x, 1, "C...HK");
        shows(x, 2, "PPPPPP");
        is("nothing more", x.pull(0, 0), 0);
        is("the other side", x.pull(0, 1), 2);
        shows(x, 0, "....C.");
        shows(x, 1, "C...H.");
        x.darn(1, 2);
        is("up to what is darned", x.pull(1, 1), 1);
        shows(x, 1, "C.k...");
        no(x, "no row", x.pull(4, 2), 2);
        no(x, "no side", x.pull(0, 2), 5);
        no(x, "no side", x.pull(0, -1), 5);
        x = of("wide 3;queen q;row q cable knit hole;row q knit 3;row q knit cable knit;");
        x.moth(0, 0);
        shows(x, 0, ".KH");
        shows(x, 1, ".KK");
        shows(x, 2, ".CK");
        is("undone are passed by, cables too", x.pull(0, 0), 5);
        shows(x, 2, ".C.");
        promise = 24;
        x = of(BASE);
        is("moth", x.moth(2, 3), 2);
        no(x, "undone", x.moth(3, 3), 9);
        x.darn(3, 3);
        no(x, "darned", x.moth(3, 3), 9);
        is("no ladder up a darned one", x.moth(2, 2), 2);
        is("a cable", x.moth(0, 4), 1);
        is("a hole", x.moth(1, 4), 1);
        no(x, "no row", x.moth(-1, 0), 2);
        no(x, "no column", x.moth(0, 6), 2);
        promise = 25;
        x.year(2);
        is("darn", x.darn(0, 0), 2);
        is("again", x.darn(0, 0), 0);
        is("whole again", x.darn(3, 2), 0);
        shows(x, 3, "KKkkKK");
        no(x, "no row", x.darn(4, 0), 2);
        no(x, "no column", x.darn(0, -1), 2);
        x.year(1);
        is("a darned one is not worn", x.stitch(0, 0, 1), 0);
        ladderAgain();
    }

    /** All ROWS are asked anew whenever anything came undone, and just then. */
    private static void ladderAgain() {
        promise = 26;
        KnitTreaty x = of("wide 2;queen q;row q cable purl;");
        x.moth(0, 0);
        row(x, 0, "KP");
        is("knit", x.knit(0, 0), 2);
        shows(x, 1, "KP");
        promise = 23;
        x.darn(0, 1);
        is("a pull by which nothing comes undone", x.pull(0, 0), 0);
        shows(x, 1, "KP");
        promise = 24;
        is("a moth elsewhere", x.moth(1, 1), 2);
        shows(x, 1, "..");
        promise = 22;
        x = of("wide 2;queen q;row q cable purl;");
        x.moth(0, 0);
        row(x, 0, "KP");
        x.knit(0, 0);
        is("a year by which nothing comes undone", x.year(1), 0);
        shows(x, 1, "KP");
    }

    private static void years() {
        promise = 22;
        KnitTreaty x = of("wide 4;tough 4;queen q;row q knit purl hole cable;row q purl knit 2 purl;");
        is("a year", x.year(1), 0);
        is("alone", x.stitch(0, 0, 1), 1);
        is("beside a hole", x.stitch(0, 1, 1), 2);
        is("a hole", x.stitch(0, 2, 1), 1);
        is("beside a hole", x.stitch(0, 3, 1), 2);
        is("the second", x.year(1), 3);
        shows(x, 0, "K.H.");
        shows(x, 1, "P.KP");
        is("the third, one more by a ladder and by wear alike", x.year(1), 4);
        is("beside one undone", x.stitch(0, 0, 1), 4);
        is("between two undone", x.stitch(0, 2, 1), 5);
        shows(x, 0, "....");
        shows(x, 1, "...P");
        is("beside one undone", x.stitch(1, 0, 1), 4);
    }

    private static void knitted() {
        promise = 22;
        KnitTreaty x = of("wide 4;tough 4;queen q;row q knit purl hole cable;row q purl knit 2 purl;");
        x.year(2);
        is("many at once", x.year(2), 5);
        shows(x, 1, "....");
        is("year", x.many(5), 4);
        no(x, "no year", x.year(0), 5);
        no(x, "100 years", x.year(100), 5);
        x = of("tough 50;queen q;row q knit 6;");
        for (int i = 0; i < 101; i++) {
            x.year(99);
        }
        is("9999", x.many(5), 9999);
        no(x, "above", x.year(1), 7);
        no(x, "none", x.year(0), 5);
        x = new KnitTreaty();
        is("without rows", x.year(99), 0);
        promise = 26;
        x = of("wide 4;queen a wool 3;queen b wool 9;");
        row(x, 0, "KPCH");
        no(x, "no wool", x.knit(0, 0), 9);
        is("wool enough", x.knit(1, 0), 1);
        is("wool", x.wool(1), 5);
        is("owner", x.queenOf(0), 1);
        shows(x, 0, "KPCH");
        row(x, 1, "KKKHC");
        is("all the wool, the first four alone", x.knit(0, 1), 2);
        is("no wool left", x.wool(0), 0);
        row(x, 2, "HHHH");
        is("holes take none", x.knit(0, 2), 3);
        row(x, 3, "KKK");
        no(x, "too few", x.knit(1, 3), 4);
        x.tray(3, 0, 4);
        x.write(3, 3, -1);
        no(x, "no kind", x.knit(1, 3), 5);
        x.write(3, 3, 4);
        no(x, "no kind", x.knit(1, 3), 5);
        no(x, "no queen", x.knit(2, 3), 2);
        no(x, "no tray", x.knit(2, 4), 1);
        for (int i = 4; i <= 12; i++) {
            is("knit", x.knit(0, 2), i);
        }
        no(x, "a 13th", x.knit(0, 2), 7);
        x.write(3, 3, 0);
        x.rule(1);
        promise = 27;
        x.year(1);
        is("unravel", x.unravel(), 11);
        is("fresh again", x.knit(0, 3), -1);
        x.shear(0, 100);
        is("fresh again", x.knit(0, 3), 12);
        is("not worn", x.stitch(11, 0, 1) + x.stitch(11, 0, 2) + x.stitch(11, 0, 3), 0);
        unravelled();
    }

    private static void unravelled() {
        KnitTreaty x = of(BASE);
        x.moth(3, 0);
        x.darn(3, 1);
        is("unravel", x.unravel(), 3);
        is("wool but for the undone", x.wool(1), 14);
        x.shear(0, 945);
        is("unravel", x.unravel(), 2);
        is("999 at most", x.wool(0), 999);
        is("unravel", x.unravel(), 1);
        is("cables are two, holes none", x.wool(1), 14 + 6);
        x.unravel();
        no(x, "none", x.unravel(), 8);
        no(x, "its stitches are gone", x.stitch(0, 0, 0), 2);
    }

    private static void dealt() {
        promise = 28;
        KnitTreaty x = of(BASE);
        is("shear", x.shear(0, 1), 51);
        is("at most", x.shear(0, 999), 999);
        no(x, "0", x.shear(0, 0), 5);
        no(x, "1000", x.shear(0, 1000), 5);
        no(x, "no queen", x.shear(2, 0), 2);
        promise = 29;
        is("rule", x.rule(50), true);
        is("tough", x.many(1), 50);
        no(x, "0", x.rule(0), 5);
        no(x, "51", x.rule(51), 5);
        x.year(4);
        is("rule", x.rule(1), true);
        is("not yet", x.many(6), 0);
        is("by the next year", x.year(1), 24);
        promise = 30;
        is("no more", x.quarrel(1, 0, false), true);
        is("clash", x.clash(0, 1), 0);
        no(x, "it is so", x.quarrel(0, 1, false), 9);
        is("again", x.quarrel(0, 1, true), true);
        is("clash", x.clash(1, 0), 1);
        no(x, "it is so", x.quarrel(1, 0, true), 9);
        no(x, "itself", x.quarrel(2, 2, true), 9);
        no(x, "no clause", x.quarrel(3, 3, true), 2);
        no(x, "no clause", x.quarrel(0, -1, true), 2);
        promise = 31;
        is("value", x.value(1, 2, 1, 99), true);
        is("worth", x.worth(1, 2, 1), 99);
        is("gives as it was", x.worth(1, 2, 0), 0);
        is("value", x.value(0, 0, 0, 0), true);
        is("worth", x.worth(0, 0, 0), 0);
        no(x, "100", x.value(0, 0, 0, 100), 5);
        no(x, "-1", x.value(0, 0, 0, -1), 5);
        no(x, "what 2", x.value(0, 0, 2, 1), 5);
        no(x, "no queen", x.value(2, 0, 2, 1), 2);
        no(x, "no clause", x.value(0, 3, 2, 1), 2);
    }

    private static void said() {
        KnitTreaty x = of(BASE);
        promise = 32;
        is("said in", x.saidIn(1, 2), 5);
        is("said in", x.saidIn(1, 0), 1);
        is("not in", x.saidIn(0, 3), 0);
        no(x, "no clause", x.saidIn(3, 0), 2);
        no(x, "no row", x.saidIn(0, 4), 2);
        promise = 33;
        is("said", x.said(1), 6);
        no(x, "no clause", x.said(-1), 2);
        promise = 34;
        is("first", x.firstSaid(0), 4);
        x.moth(0, 4);
        is("first then", x.firstSaid(0), 10);
        x.moth(1, 0);
        no(x, "nowhere", x.firstSaid(0), 8);
        no(x, "no clause", x.firstSaid(3), 2);
        is("not said", x.said(0), 0);
        x.darn(1, 0);
        is("said again", x.said(0), 1);
        x = of(BASE);
        promise = 35;
        is("binds", x.binds(0), 3);
        is("binds", x.binds(1), 1);
        x.moth(0, 5);
        is("binds", x.binds(0), 2);
        x.moth(1, 0);
        is("nobody", x.binds(0), 0);
        no(x, "no clause", x.binds(3), 2);
        promise = 36;
        x = of(BASE);
        is("bound", x.boundBy(0), 7);
        is("bound", x.boundBy(1), 1);
        no(x, "no queen", x.boundBy(2), 2);
        promise = 37;
        x.quarrel(1, 2, true);
        is("clashes", x.clashes(), 2);
        promise = 38;
        is("first", x.firstClash(), 1);
        x.quarrel(0, 1, false);
        is("first then", x.firstClash(), 12);
        x.moth(0, 1);
        no(x, "one is not said", x.firstClash(), 8);
        promise = 37;
        is("none", x.clashes(), 0);
        promise = 39;
        row(x, 0, "KPCHCKCC");
        is("needs", x.needs(0), 7);
        x.write(0, 6, -9);
        is("what is behind does not matter", x.needs(0), 7);
        x.write(0, 5, 4);
        no(x, "no kind", x.needs(0), 5);
        x.write(0, 5, -1);
        no(x, "no kind", x.needs(0), 5);
        x.tray(0, 0, 5);
        no(x, "too few", x.needs(0), 4);
        no(x, "missing", x.needs(1), 3);
        no(x, "no tray", x.needs(4), 1);
    }

    private static void willBe() {
        promise = 40;
        KnitTreaty x = of("wide 4;tough 6;queen q;clause a is knit purl;clause b is hole;clause c is cable;"
                + "clause d is purl;row q knit purl hole purl;row q cable 4;row q purl 4;");
        // PURLS beside the HOLE are worn by 2 a YEAR.
        is("lost", x.lost(0), 3);
        is("the hole", x.lost(1), 4);
        is("cables", x.lost(2), 6);
        is("purls", x.lost(3), 6);
        is("nothing happens", x.many(6) + x.many(5), 0);
        no(x, "no clause", x.lost(4), 2);
        promise = 42;
        is("first lost", x.firstLost(), 0);
        promise = 41;
        is("now", x.undoneIn(0), 0);
        is("in 2", x.undoneIn(2), 0);
        is("in 3", x.undoneIn(3), 2);
        is("in 4", x.undoneIn(4), 3);
        is("in 5", x.undoneIn(5), 4);
        is("in 99", x.undoneIn(99), 12);
        no(x, "100", x.undoneIn(100), 5);
        no(x, "-1", x.undoneIn(-1), 5);
        is("nothing happens", x.many(6) + x.many(5), 0);
        promise = 40;
        x.darn(1, 1);
        no(x, "never", x.lost(2), 8);
        promise = 42;
        x.moth(0, 1);
        is("not said now: not lost", x.firstLost(), 1);
        promise = 40;
        is("lost already", x.lost(0), 0);
        promise = 42;
        for (int i = 0; i < 4; i++) {
            x.darn(0, 2);
            x.darn(2, i);
        }
        no(x, "none is", x.firstLost(), 8);
        KnitTreaty y = of("wide 3;tough 2;queen q;clause a is knit;clause b is hole;clause c is purl;row q knit hole purl;"
                + "row q knit 3;");
        is("the first year", y.firstLost(), 2);
        y.rule(3);
        y.darn(0, 2);
        is("of several the first", y.firstLost(), 0);
        KnitTreaty empty = new KnitTreaty();
        no(empty, "none at all", empty.firstLost(), 8);
        promise = 40;
        for (int i = 0; i < 101; i++) {
            x.year(99);
        }
        row(x, 0, "KPKK");
        x.knit(0, 0);
        is("9,999 does not matter", x.lost(0), 6);
        pulledOnes();
    }

    private static void pulledOnes() {
        promise = 43;
        KnitTreaty x = of(BASE);
        is("pulled", x.pulled(0, 0), 7);
        is("pulled", x.pulled(0, 1), 2);
        is("a cable holds", x.pulled(1, 0), 0);
        is("nothing happens", x.many(6), 0);
        no(x, "no side", x.pulled(0, 2), 5);
        no(x, "no row", x.pulled(4, 2), 2);
        promise = 44;
        is("worst", x.worstPull(), 20);
        x.darn(2, 0);
        is("worst then", x.worstPull(), 21);
        is("nothing happens", x.many(6), 0);
        KnitTreaty y = of("wide 1;queen q;row q cable;row q cable;");
        is("of several the least", y.worstPull(), 0);
        y = of("queen q;");
        no(y, "no rows", y.worstPull(), 8);
        promise = 45;
        x = of(BASE);
        is("out", x.pulledOut(0, 0), 4);
        is("none", x.pulledOut(1, 0), 0);
        is("said elsewhere", x.pulledOut(2, 0), 0);
        x.moth(0, 1);
        is("what is not said now", x.pulledOut(0, 0), 0);
        no(x, "no side", x.pulledOut(0, -1), 5);
        no(x, "no row", x.pulledOut(-1, 0), 2);
    }

    private static void mended() {
        promise = 46;
        KnitTreaty x = of(BASE);
        is("none needed", x.mend(0, 0, 0), 0);
        is("one", x.mend(2, 0, 0), 1);
        no(x, "not by any", x.mend(1, 1, 0), 8);
        no(x, "no side", x.mend(0, 0, 2), 5);
        no(x, "no row", x.mend(0, 4, 2), 2);
        no(x, "no clause", x.mend(3, 0, 2), 2);
        promise = 47;
        is("set", x.mendSet(2, 0, 0), 1);
        is("from the other side the cable holds", x.mendSet(2, 0, 1), 0);
        is("left", x.mendSet(1, 2, 0), 1);
        is("right", x.mendSet(1, 2, 1), 2);
        no(x, "not by any", x.mendSet(1, 1, 0), 8);
        no(x, "no side", x.mendSet(0, 0, -1), 5);
        x.moth(0, 2);
        is("undone and the thread", x.mendSet(2, 0, 0), 5);
        is("undone alone", x.mendSet(2, 0, 1), 4);
        is("nothing happens", x.many(6) * 10 + x.many(7), 20);
        promise = 46;
        is("two", x.mend(2, 0, 0), 2);
        // A KNIT above an UNDONE STITCH comes undone by the LADDER that any PULL sets off.
        x = of("wide 3;queen q;clause a is knit cable;row q cable purl cable;");
        x.moth(0, 0);
        row(x, 0, "KCP");
        x.knit(0, 0);
        is("nothing comes undone from the left but the knit", x.mendSet(0, 1, 0), 1);
        is("from the right the ladder", x.mendSet(0, 1, 1), 1);
        is("or the pull is held", x.mend(0, 1, 1), 1);
    }

    private static void bargains() {
        promise = 50;
        KnitTreaty x = of(BASE);
        is("wins", x.wins(0, 7), 9);
        is("loses", x.wins(1, 1), -3);
        is("status", x.status(), 0);
        is("none", x.wins(1, 0), 0);
        no(x, "set 8", x.wins(0, 8), 5);
        no(x, "set -1", x.wins(0, -1), 5);
        no(x, "no queen", x.wins(2, 8), 2);
        promise = 51;
        is("bargain", x.bargain(), 6);
        promise = 52;
        is("its worth", x.bargainWorth(), 10);
        promise = 53;
        is("she would win more", x.stable(6), 0);
        is("stable", x.stable(4), 1);
        is("none", x.stable(0), 1);
        is("a clash", x.stable(3), 0);
        no(x, "set 8", x.stable(8), 5);
        no(x, "set -1", x.stable(-1), 5);
        promise = 54;
        is("stables", x.stables(), 2);
        promise = 51;
        x.value(0, 0, 0, 0);
        x.value(0, 1, 1, 99);
        x.value(0, 2, 0, 0);
        is("no clause", x.bargain(), 0);
        promise = 52;
        is("nothing", x.bargainWorth(), 0);
        x = of("queen q;clause a is knit;clause b is knit;clause c is purl;gives q b 3;gives q c 3;clash b c;");
        promise = 51;
        is("of several the least", x.bargain(), 2);
        promise = 53;
        is("no less by none", x.stable(3), 1);
        promise = 54;
        is("stables", x.stables(), 6);
        promise = 52;
        is("worth", x.bargainWorth(), 3);
        x = of("clause a is knit;clause b is knit;clash a b;");
        promise = 54;
        is("without queens", x.stables(), 3);
    }

    private static void joined() {
        promise = 48;
        KnitTreaty x = of(BASE);
        is("nothing", x.shortest(0), 0);
        is("one", x.shortest(1), 2);
        is("one within another", x.shortest(6), 3);
        is("all", x.shortest(7), 4);
        no(x, "set 8", x.shortest(8), 5);
        no(x, "set -1", x.shortest(-1), 5);
        promise = 49;
        int[] due = {2, 0, 1, 1};
        for (int k = 0; k < 4; k++) {
            is("place " + k, x.shortestAt(7, k), due[k]);
        }
        no(x, "place 4", x.shortestAt(7, 4), 8);
        no(x, "place -1", x.shortestAt(7, -1), 8);
        no(x, "of nothing", x.shortestAt(0, 0), 8);
        no(x, "set 8", x.shortestAt(8, 99), 5);
        x = of("clause a is purl knit;clause b is knit purl;clause c is purl knit;");
        is("of several the first by kinds", x.shortestAt(3, 0) * 100 + x.shortestAt(3, 1) * 10 + x.shortestAt(3, 2), 10);
        promise = 48;
        is("like ones", x.shortest(5), 2);
        is("three", x.shortest(7), 3);
        x = of("clause a is knit knit knit knit knit;clause b is purl purl purl purl purl;"
                + "clause c is cable cable cable cable cable;clause d is hole hole hole hole hole;"
                + "clause e is knit purl knit purl knit;clause f is hole cable hole cable hole;");
        is("thirty less the overlaps", x.shortest(63), 28);
        is("wide does not matter", x.shortest(15), 20);
    }

    private static void halfSeen() {
        promise = 55;
        KnitTreaty x = of("wide 4;clause a is knit purl;clause b is cable;clause c is knit knit;");
        row(x, 0, "KPKP");
        is("all known", x.fills(0, 0), 1);
        is("not there", x.fills(1, 0), 0);
        row(x, 1, "????");
        // Three places by 16 ways, less one way in which it stands twice.
        is("nothing known", x.fills(0, 1), 47);
        is("a cable somewhere", x.fills(1, 1), 256 - 81);
        x.tray(2, 3, 5);
        x.write(2, 0, -1);
        x.write(2, 4, 1L << 32);
        is("overlapping itself", x.fills(2, 2), 4);
        x.write(2, 3, 1L << 32);
        no(x, "no kind", x.fills(0, 2), 5);
        x.write(2, 3, -2);
        no(x, "no kind", x.fills(0, 2), 5);
        x.tray(2, 0, 3);
        no(x, "too few", x.fills(0, 2), 4);
        no(x, "missing", x.fills(0, 3), 3);
        no(x, "no clause", x.fills(3, 3), 2);
        no(x, "no tray", x.fills(3, 4), 1);
        promise = 56;
        is("chance", x.chance(1, 1), true);
        is("top", x.top(), 175);
        is("bottom", x.bottom(), 256);
        no(x, "no tray", x.chance(0, 4), 1);
        no(x, "no clause", x.chance(3, 3), 2);
        no(x, "missing", x.chance(0, 3), 3);
        no(x, "too few", x.chance(0, 2), 4);
        promise = 3;
        is("top stays", x.top(), 175);
        promise = 56;
        x.chance(0, 0);
        is("sure", x.top() * 1000 + x.bottom(), 1001);
        x.chance(1, 0);
        is("not at all", x.top() * 1000 + x.bottom(), 1);
        x.write(0, 1, -1);
        x.write(0, 2, -1);
        x.chance(2, 0);
        is("a quarter", x.top() * 1000 + x.bottom(), 1004);
        x.write(0, 1, 9);
        no(x, "no kind", x.chance(2, 0), 5);
        looked();
    }

    private static void looked() {
        promise = 57;
        KnitTreaty x = of("wide 4;clause a is knit purl;clause b is cable;clause c is knit knit;");
        row(x, 0, "P??P");
        // PKPP, PPKP, PCKP, PHKP and PKKP: column 1 has KNIT twice, column 2 four times.
        is("look", x.look(0, 0), 1);
        is("fills", x.fills(0, 0), 5);
        row(x, 0, "P?KP");
        is("one column", x.look(0, 0), 1);
        row(x, 0, "HK?H");
        no(x, "one fill", x.look(0, 0), 8);
        row(x, 0, "HHHH");
        no(x, "no fill", x.look(0, 0), 8);
        row(x, 0, "????");
        is("of several the first", x.look(1, 0), 0);
        no(x, "no tray", x.look(0, -1), 1);
        no(x, "no clause", x.look(3, 1), 2);
        no(x, "missing", x.look(0, 1), 3);
        x.tray(1, 0, 3);
        no(x, "too few", x.look(0, 1), 4);
        x.tray(1, 0, 4);
        x.write(1, 0, 7);
        no(x, "no kind", x.look(0, 1), 5);
        promise = 58;
        row(x, 0, "HK?H");
        is("sure", x.sure(0, 0, 2), 1);
        is("known", x.sure(0, 0, 0), 3);
        row(x, 0, "P?KP");
        no(x, "not the same", x.sure(0, 0, 1), 8);
        row(x, 0, "P?HP");
        no(x, "no fills", x.sure(2, 0, 0), 8);
        no(x, "no fills", x.sure(2, 0, 1), 8);
        no(x, "no column", x.sure(0, 2, 4), 2);
        no(x, "no column", x.sure(0, 2, -1), 2);
        no(x, "no clause", x.sure(3, 2, 0), 2);
        no(x, "no tray", x.sure(3, 4, 9), 1);
        no(x, "missing", x.sure(0, 2, 0), 3);
        no(x, "no kind", x.sure(0, 1, 0), 5);
        x.tray(1, 0, 3);
        no(x, "too few", x.sure(0, 1, 0), 4);
    }

    private static void lives(KnitTreaty x, int seed, int... due) {
        is("steps", x.live(seed), due[0]);
        for (int what = 0; what < 5; what++) {
            is("lived " + what, x.lived(what), due[what + 1]);
        }
    }

    private static void centuries() {
        promise = 59;
        KnitTreaty x = of(BASE);
        no(x, "no centuries", x.live(0), 8);
        no(x, "no seed", x.live(-1), 5);
        no(x, "no seed", x.live(10000), 5);
        promise = 60;
        no(x, "there was none", x.lived(0), 8);
        no(x, "what 5", x.lived(5), 5);
        no(x, "what -1", x.lived(-1), 5);
        years(x, "year 2;moth 0 1;moth 0 1;darn 0 1;moth 0 1;pull 0 0;pull 1 0;");
        promise = 59;
        lives(x, 0, 7, 3, 2, 3, 1, 0);
        shows(x, 0, ".kPPCK");
        shows(x, 1, "C.KKHK");
        is("the year", x.many(5), 2);
        promise = 60;
        tape(x, "!");
        x.centuries(1);
        x.live(10000);
        is("stays", x.lived(1), 2);
        x.treaty(0);
        is("stays", x.lived(1), 2);
        promise = 59;
        x = of("wide 5;queen q;row q purl 5;row q purl 5;row q purl 5;");
        years(x, "any;any;");
        // s is 31526 (by 8 3940: row 1), 23531 (2941: column 1), 59954 (7494: row 0), 7215 (901: column 1).
        lives(x, 7, 2, 0, 0, 2, 0, 0);
        is("the first drawn", x.stitch(1, 1, 2), 1);
        is("the second drawn", x.stitch(0, 1, 2), 1);
        x = of("queen q;");
        years(x, "any;year 1;");
        lives(x, 7, 2, 1, 1, 0, 0, 0);
        whens();
    }

    private static void whens() {
        KnitTreaty x = of(BASE);
        years(x, "when said salt;moth 0 1;end;when said salt;moth 0 0;end;when whole 2;darn 2 0;end;when whole 0;darn 2 1;end;");
        lives(x, 1, 6, 0, 0, 2, 1, 0);
        shows(x, 2, "pPPPPP");
        x = of(BASE);
        years(x, "when undone<1;moth 2 0;end;when undone=2;moth 2 1;end;when undone>4;any;end;when undone>3;darn 0 0;end;");
        lives(x, 1, 7, 0, 0, 4, 1, 0);
        x = of(BASE);
        years(x, "loop 3;darn 0 0;loop 2;year 1;end;end;stop;year 1;");
        lives(x, 1, 14, 0, 6, 23, 3, 0);
        x = of(BASE);
        row(x, 0, "KKKKKK");
        x.knit(0, 0);
        years(x, "pull 4 0;moth 4 0;darn 4 0;when whole 4;year 1;end;");
        x.unravel();
        lives(x, 1, 4, 3, 0, 0, 0, 0);
        x.knit(0, 0);
        lives(x, 1, 4, 1, 0, 6, 1, 0);
    }

    private static void limits() {
        promise = 59;
        KnitTreaty x = of("tough 50;queen q;row q knit 6;");
        years(x, "loop 99;loop 3;end;darn 0 0;darn 0 1;end;");
        // The outer loop, then three STEPS a round: 99 rounds are 298 STEPS.
        lives(x, 1, 298, 0, 0, 0, 198, 0);
        promise = 60;
        years(x, "loop 99;darn 0 0;darn 0 1;darn 0 2;end;darn 0 3;");
        lives(x, 1, 299, 0, 0, 0, 298, 0);
        years(x, "loop 99;darn 0 0;darn 0 1;darn 0 2;end;darn 0 3;loop 99;end;");
        lives(x, 1, 300, 0, 0, 0, 298, 0);
        years(x, "loop 99;darn 0 0;darn 0 1;darn 0 2;end;darn 0 3;darn 0 4;stop;");
        lives(x, 1, 300, 0, 0, 0, 299, 1);
        years(x, "loop 99;darn 0 0;darn 0 1;darn 0 2;end;darn 0 3;stop;darn 0 5;");
        lives(x, 1, 300, 0, 0, 0, 298, 0);
        years(x, "loop 99;loop 99;loop 99;end;end;end;");
        lives(x, 1, 300, 0, 0, 0, 0, 1);
        for (int i = 0; i < 100; i++) {
            x.year(99);
        }
        x.year(90);
        years(x, "year 10;year 9;year 1;");
        lives(x, 1, 3, 2, 9, 0, 0, 0);
        is("9999", x.many(5), 9999);
        means();
    }

    private static void means() {
        promise = 61;
        KnitTreaty x = of("wide 5;queen q;row q purl 5;row q purl 5;row q purl 5;");
        no(x, "no centuries", x.mean(0, 1), 8);
        no(x, "seed -1", x.mean(-1, 1), 5);
        no(x, "none", x.mean(0, 0), 5);
        no(x, "21", x.mean(0, 21), 5);
        no(x, "above 9999", x.mean(9999, 2), 5);
        no(x, "seed 10000", x.mean(10000, 1), 5);
        no(x, "far above", x.mean(Integer.MAX_VALUE, 20), 5);
        years(x, "any;any;any;any;");
        x.live(3);
        int before = x.many(6);
        is("the last seed", x.mean(9999, 1), true);
        int sum = 0;
        for (int seed = 40; seed < 50; seed++) {
            x.mark();
            x.live(seed);
            sum += x.many(6);
            x.back();
        }
        int last = x.lived(2);
        is("mean", x.mean(40, 10), true);
        is("as told one by one", x.top() * 10, sum * x.bottom());
        is("without a common divisor", gcd(x.top(), x.bottom()), 1);
        is("all stays", x.many(6), before);
        is("lived stays", x.lived(2), last);
        x = of("queen q;row q knit 6;");
        years(x, "darn 0 0;");
        x.mean(0, 20);
        is("0 by 1", x.top() * 100 + x.bottom(), 1);
    }

    private static long gcd(long a, long b) {
        return b == 0 ? a : gcd(b, a % b);
    }

    private static void marks() {
        promise = 62;
        KnitTreaty x = of(BASE);
        years(x, "moth 0 0;");
        is("mark", x.mark(), 1);
        x.year(1);
        x.moth(2, 2);
        x.darn(0, 3);
        x.rule(7);
        x.quarrel(0, 1, false);
        x.value(0, 0, 0, 1);
        x.shear(0, 7);
        is("mark", x.mark(), 2);
        x.treaty(0);
        is("mark", x.mark(), 3);
        no(x, "a fourth", x.mark(), 7);
        promise = 63;
        is("back", x.back(), 2);
        is("empty", x.many(4), 0);
        no(x, "no centuries", x.live(0), 8);
        is("back", x.back(), 1);
        is("year", x.many(5), 1);
        is("undone", x.many(6), 2);
        is("tough", x.many(1), 7);
        is("wool", x.wool(0), 57);
        is("centuries", x.live(0), 1);
        is("live", x.lived(2), 1);
        is("back", x.back(), 0);
        int[] due = {6, 5, 2, 3, 4, 0, 0, 0, 0, 7};
        for (int what = 0; what < 10; what++) {
            is("many " + what, x.many(what), due[what]);
        }
        is("clash", x.clash(0, 1), 1);
        is("worth", x.worth(0, 0, 0), 9);
        is("wool", x.wool(0), 50);
        is("lived stays", x.lived(2), 1);
        is("names are kept", years(x, "when said salt;end;"), 1);
        no(x, "none", x.back(), 8);
    }
}
