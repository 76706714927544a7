/** The boundary cases of STITCHES and of what is done to them, sentence by sentence: promises 13 to 31. */
public final class ClothBoundsTest {
    public static void main(String[] args) {
        told();
        fullPiece();
        worths();
        worthsApart();
        copies();
        yearNumbers();
        wear();
        wearOfEight();
        gaps();
        tough();
        ladders();
        laddersAnew();
        pulls();
        moths();
        darns();
        knits();
        widest();
        knitWool();
        unravels();
        unravelled();
        shears();
        rules();
        quarrels();
        Probe.finish("cloth");
    }

    // ---- what is told

    private static void told() {
        Probe.says("13: how many STITCHES are UNDONE, DARNED; WORN, of all that are not UNDONE");
        KnitTreaty x = Probe.of("wide 2;tough 9;queen q;row q purl 2;row q cable 2;");
        x.year(3);
        Probe.is("worn", x.many(8), 12);
        x.moth(0, 0);
        Probe.is("undone", x.many(6), 1);
        Probe.is("what is undone does not count", x.many(8), 9);
        Probe.is("but stays worn", x.stitch(0, 0, 1), 3);
        x.darn(1, 1);
        Probe.is("darned", x.many(7), 1);
        Probe.is("what is darned is worn by 0", x.many(8), 6);
        x.darn(0, 0);
        Probe.is("undone", x.many(6), 0);
        Probe.is("darned", x.many(7), 2);
        Probe.is("worn", x.many(8), 6);
        Probe.says("14: 1 if it is UNDONE, else 0; 1 if it is DARNED, else 0");
        x.moth(0, 1);
        Probe.ok(x, "undone", x.stitch(0, 1, 2), 1);
        Probe.ok(x, "not darned", x.stitch(0, 1, 3), 0);
        Probe.ok(x, "not undone", x.stitch(0, 0, 2), 0);
        Probe.ok(x, "darned", x.stitch(0, 0, 3), 1);
        Probe.ok(x, "its kind stays", x.stitch(0, 1, 0), 1);
        Probe.no(x, "row 2", x.stitch(2, 0, 0), 2);
        Probe.no(x, "column 2", x.stitch(0, 2, 0), 2);
        Probe.ok(x, "row 1, column 1", x.stitch(1, 1, 0), 2);
        Probe.says("13: the set of CLAUSES that are SAID somewhere");
        x = Probe.of("wide 2;queen q;clause a is knit;clause b is purl;clause c is purl purl;row q purl 2;row q hole cable;");
        Probe.is("set", x.many(9), 6);
        x.moth(0, 1);
        Probe.is("set", x.many(9), 2);
        x.moth(0, 0);
        Probe.is("set", x.many(9), 0);
    }

    private static void fullPiece() {
        Probe.says("12 ROWS of 8, 4 QUEENS, 6 CLAUSES");
        String s = "wide 8;queen a;queen b;queen c;queen d;clause e is knit;clause f is knit knit;clause g is knit knit knit;"
                + "clause h is knit knit knit knit;clause i is knit knit knit knit knit;clause j is knit knit;"
                + Probe.times("row a knit 8;", 9) + "row b knit 8;row c knit 8;row d knit 8;";
        KnitTreaty x = Probe.of(s);
        Probe.is("queens", x.many(2), 4);
        Probe.is("clauses", x.many(3), 6);
        Probe.is("rows", x.many(4), 12);
        Probe.is("said", x.many(9), 63);
        Probe.is("said", x.said(0), 96);
        Probe.is("said", x.said(4), 48);
        Probe.is("binds", x.binds(5), 15);
        Probe.is("bound", x.boundBy(3), 63);
        Probe.is("the last queen", x.queenOf(11), 3);
        Probe.no(x, "queen of 12", x.queenOf(12), 2);
        Probe.ok(x, "the last stitch", x.stitch(11, 7, 0), 0);
        Probe.no(x, "column 8", x.stitch(11, 8, 0), 2);
        Probe.no(x, "row 12", x.stitch(12, 7, 0), 2);
        Probe.ok(x, "wool of the last", x.wool(3), 100);
        Probe.no(x, "wool of 4", x.wool(4), 2);
        Probe.ok(x, "length of the last", x.length(5), 2);
        Probe.no(x, "length of 6", x.length(6), 2);
        Probe.ok(x, "worth of the last", x.worth(3, 5, 1), 0);
        Probe.no(x, "worth of 6", x.worth(3, 6, 1), 2);
        Probe.no(x, "worth of 4", x.worth(4, 5, 1), 2);
        Probe.ok(x, "clash of the last", x.clash(5, 4), 0);
        Probe.no(x, "clash of 6", x.clash(5, 6), 2);
        Probe.is("worst pull", x.worstPull(), 0);
        Probe.is("pulled", x.pulled(0, 1), 96);
        Probe.is("pulled", x.pulled(11, 1), 8);
        x.mark();
        Probe.ok(x, "the first thread undoes all", x.pull(0, 0), 96);
        Probe.is("undone", x.many(6), 96);
        Probe.is("undone in 99", x.undoneIn(99), 96);
        Probe.is("said", x.many(9), 0);
        x.back();
        Probe.is("said", x.many(9), 63);
        for (int r = 0; r < 12; r++) {
            for (int c = 0; c < 8; c++) {
                x.darn(r, c);
            }
        }
        Probe.is("darned", x.many(7), 96);
        Probe.ok(x, "a year", x.year(99), 0);
        Probe.is("worn", x.many(8), 0);
        Probe.ok(x, "of several the least", x.worstPull(), 0);
    }

    private static void worths() {
        Probe.says("18: the k-th KIND, from 0 on (8: no such)");
        KnitTreaty x = Probe.of("queen q;queen r;clause a is hole;clause b is knit purl cable;gives q b 7;costs r a 8;");
        Probe.ok(x, "the first", x.kind(0, 0), 3);
        Probe.no(x, "no second", x.kind(0, 1), 8);
        Probe.ok(x, "the third", x.kind(1, 2), 2);
        Probe.no(x, "no fourth", x.kind(1, 3), 8);
        Probe.no(x, "none below", x.kind(1, -1), 8);
        Probe.says("20: GIVES (what 0), COSTS her (1)");
        Probe.ok(x, "gives", x.worth(0, 1, 0), 7);
        Probe.ok(x, "costs", x.worth(0, 1, 1), 0);
        Probe.ok(x, "gives", x.worth(1, 0, 0), 0);
        Probe.ok(x, "costs", x.worth(1, 0, 1), 8);
        Probe.no(x, "what 2", x.worth(0, 1, 2), 5);
        Probe.no(x, "what -1", x.worth(0, 1, -1), 5);
        Probe.says("31: so much (0 to 99) from now on");
        Probe.ok(x, "99", x.value(0, 1, 0, 99));
        Probe.no(x, "100", x.value(0, 1, 0, 100), 5);
        Probe.is("gives", x.worth(0, 1, 0), 99);
        Probe.ok(x, "0", x.value(0, 1, 0, 0));
        Probe.no(x, "-1", x.value(0, 1, 0, -1), 5);
        Probe.is("gives", x.worth(0, 1, 0), 0);
        Probe.ok(x, "99", x.value(1, 1, 1, 99));
        Probe.no(x, "100", x.value(1, 1, 1, 100), 5);
        Probe.is("costs", x.worth(1, 1, 1), 99);
        Probe.is("wins", x.wins(1, 2), -99);
    }

    private static void worthsApart() {
        Probe.says("20, 31: each QUEEN's and each CLAUSE's for itself");
        StringBuilder b = new StringBuilder("wide 1;queen q;queen r;queen s;queen t;");
        for (char c = 'a'; c < 'g'; c++) {
            b.append("clause ").append(c).append(" is knit;");
        }
        KnitTreaty x = Probe.of(b.toString());
        for (int i = 0; i < 48; i++) {
            Probe.ok(x, "value", x.value(i / 12, i / 2 % 6, i % 2, i + 3));
        }
        for (int i = 0; i < 48; i++) {
            Probe.ok(x, "worth", x.worth(i / 12, i / 2 % 6, i % 2), i + 3);
        }
        Probe.says("19, 30: each couple's for itself");
        for (int i = 0; i < 6; i++) {
            for (int j = i + 1; j < 6; j++) {
                if ((i + j) % 2 == 0) {
                    x.quarrel(j, i, true);
                }
            }
        }
        for (int i = 0; i < 6; i++) {
            for (int j = 0; j < 6; j++) {
                if (i != j) {
                    Probe.ok(x, "clash of " + i + " and " + j, x.clash(i, j), (i + j) % 2 == 0 ? 1 : 0);
                }
            }
        }
        for (int i = 0; i < 4; i++) {
            x.shear(i, 7 * i + 1);
        }
        for (int i = 0; i < 4; i++) {
            Probe.ok(x, "wool", x.wool(i), 101 + 7 * i);
        }
    }

    private static void copies() {
        Probe.says("21: the KINDS of a ROW come to a TRAY (-1: UNDONE): how many");
        KnitTreaty x = Probe.of("wide 4;queen q;row q knit purl cable hole;row q hole 4;");
        x.moth(0, 0);
        x.darn(0, 1);
        for (int sort = 0; sort < 4; sort++) {
            x.tray(0, sort, 4);
            Probe.ok(x, "copy", x.copyRow(0, 0), 4);
            int[] due = {-1, 1, 2, 3};
            for (int i = 0; i < 4; i++) {
                Probe.ok(x, "place " + i, x.read(0, i), due[i]);
            }
        }
        Probe.says("21: too few numbers (4)");
        x.tray(0, 0, 3);
        Probe.no(x, "three", x.copyRow(0, 0), 4);
        Probe.is("nothing came", x.read(0, 2), 0);
        x.tray(0, 0, 0);
        Probe.no(x, "none", x.copyRow(0, 0), 4);
        x.tray(0, 0, 5);
        x.write(0, 4, 9);
        Probe.ok(x, "the last row", x.copyRow(1, 0), 4);
        Probe.is("the fourth", x.read(0, 3), 3);
        Probe.is("what is behind stays", x.read(0, 4), 9);
        Probe.no(x, "no row", x.copyRow(2, 0), 2);
    }

    // ---- YEARS

    private static void yearNumbers() {
        Probe.says("22: so many YEARS (1 to 99)");
        KnitTreaty x = new KnitTreaty();
        Probe.no(x, "0", x.year(0), 5);
        Probe.no(x, "-1", x.year(-1), 5);
        Probe.no(x, "100", x.year(100), 5);
        Probe.is("year", x.many(5), 0);
        Probe.ok(x, "1", x.year(1), 0);
        Probe.ok(x, "99", x.year(99), 0);
        Probe.is("year", x.many(5), 100);
        Probe.says("22: above 9,999 (7)");
        for (int i = 0; i < 99; i++) {
            x.year(99);
        }
        Probe.ok(x, "98", x.year(98), 0);
        Probe.is("year", x.many(5), 9999);
        Probe.no(x, "one more", x.year(1), 7);
        Probe.no(x, "99 more", x.year(99), 7);
        Probe.no(x, "none", x.year(0), 5);
        Probe.no(x, "100", x.year(100), 5);
        Probe.is("year", x.many(5), 9999);
        x.treaty(0);
        for (int i = 0; i < 100; i++) {
            x.year(99);
        }
        Probe.ok(x, "99 that end at 9,999", x.year(99), 0);
        Probe.is("year", x.many(5), 9999);
        x.treaty(0);
        for (int i = 0; i < 100; i++) {
            x.year(99);
        }
        x.year(1);
        Probe.no(x, "99 that end at 10,000", x.year(99), 7);
        Probe.is("year", x.many(5), 9901);
        Probe.ok(x, "98", x.year(98), 0);
        Probe.says("22: how many STITCHES came undone in them");
        x = Probe.of("wide 2;tough 3;queen q;row q purl 2;");
        Probe.ok(x, "two", x.year(2), 0);
        Probe.ok(x, "one", x.year(1), 2);
        Probe.ok(x, "what is undone already", x.year(1), 0);
        x = Probe.of("wide 2;tough 3;queen q;row q purl cable;row q knit 2;");
        Probe.ok(x, "all at once, each just once", x.year(99), 4);
    }

    private static void wear() {
        Probe.says("a YEAR: WORN by 1 more, and by 1 more still for each STITCH beside them that is a HOLE or UNDONE");
        KnitTreaty x = Probe.of("wide 5;tough 50;queen q;row q purl hole purl hole purl;row q purl 5;row q hole purl 3 hole;");
        x.year(1);
        Probe.worn(x, 0, 2, 1, 3, 1, 2);
        Probe.says("beside: the same ROW alone, neither over its ends nor above or below");
        Probe.worn(x, 1, 1, 1, 1, 1, 1);
        Probe.worn(x, 2, 1, 2, 1, 2, 1);
        Probe.says("UNDONE counts like a HOLE, a HOLE that is UNDONE once");
        x.moth(1, 2);
        x.moth(0, 1);
        x.year(1);
        Probe.worn(x, 1, 2, 3, 1, 3, 2);
        Probe.worn(x, 0, 4, 1, 6, 2, 4);
        Probe.says("what is DARNED, UNDONE is not WORN; a DARNED HOLE is a HOLE");
        x.darn(0, 3);
        x.darn(1, 0);
        x.darn(1, 2);
        x.year(1);
        Probe.worn(x, 0, 6, 1, 9, 0, 6);
        Probe.worn(x, 1, 0, 4, 0, 4, 3);
        Probe.says("a ROW of one has none beside it");
        x = Probe.of("wide 1;queen q;row q hole;row q purl;row q hole;");
        x.year(4);
        Probe.worn(x, 1, 4);
    }

    private static void wearOfEight() {
        Probe.says("beside: the same ROW, in a piece as wide as can be");
        String eight = "wide 8;tough 50;queen q;";
        KnitTreaty x = Probe.of(eight + Probe.times("row q purl 8;", 5) + "row q hole purl 6 hole;"
                + Probe.times("row q purl 8;", 6));
        x.year(1);
        for (int r = 0; r < 12; r++) {
            if (r == 5) {
                Probe.worn(x, r, 1, 2, 1, 1, 1, 1, 2, 1);
            } else {
                Probe.worn(x, r, 1, 1, 1, 1, 1, 1, 1, 1);
            }
        }
        Probe.is("worn", x.many(8), 98);
        Probe.says("UNDONE, DARNED, WORN of the first and the last STITCH of each ROW");
        x.moth(4, 0);
        x.moth(4, 7);
        x.darn(7, 0);
        x.darn(7, 7);
        x.year(1);
        Probe.worn(x, 3, 2, 2, 2, 2, 2, 2, 2, 2);
        Probe.worn(x, 4, 1, 3, 2, 2, 2, 2, 3, 1);
        Probe.worn(x, 6, 2, 2, 2, 2, 2, 2, 2, 2);
        Probe.worn(x, 7, 0, 2, 2, 2, 2, 2, 2, 0);
        Probe.worn(x, 8, 2, 2, 2, 2, 2, 2, 2, 2);
        Probe.says("whole: no STITCH of that ROW is UNDONE, in a piece as wide as can be");
        Probe.centuries(x, "when whole 3;year 1;end;when whole 4;year 2;end;when whole 5;year 4;end;when whole 11;year 8;end;");
        Probe.ok(x, "steps", x.live(0), 7);
        Probe.ok(x, "all but the one", x.lived(1), 13);
    }

    private static void gaps() {
        Probe.says("(as it was ahead of this YEAR)");
        KnitTreaty x = Probe.of("wide 3;tough 4;queen q;row q purl 3;");
        x.year(1);
        x.darn(0, 0);
        x.moth(0, 1);
        x.year(1);
        Probe.worn(x, 0, 0, 1, 3);
        Probe.ok(x, "the third", x.year(1), 1);
        Probe.worn(x, 0, 0, 1, 5);
        x = Probe.of("wide 3;tough 3;queen q;row q hole purl 2;");
        Probe.ok(x, "one", x.year(1), 0);
        Probe.worn(x, 0, 1, 2, 1);
        Probe.ok(x, "the one beside the hole", x.year(1), 1);
        Probe.worn(x, 0, 2, 4, 2);
        Probe.shows(x, 0, "H.P");
        Probe.ok(x, "those beside it", x.year(1), 2);
        Probe.worn(x, 0, 4, 4, 4);
        x = Probe.of("wide 3;tough 3;queen q;row q purl 2 hole;");
        x.year(2);
        Probe.says("(as it was ahead of this YEAR), from the right, too");
        Probe.worn(x, 0, 2, 4, 2);
        x.year(1);
        Probe.worn(x, 0, 4, 4, 4);
    }

    private static void tough() {
        Probe.says("of these who are WORN by TOUGH or more come undone");
        for (int tough = 1; tough <= 50; tough += 7) {
            KnitTreaty x = Probe.of("wide 4;tough " + tough + ";queen q;row q knit purl cable purl;row q hole 4;");
            if (tough > 1) {
                Probe.ok(x, "a year less", x.year(tough - 1), tough > 2 ? 4 : 0);
                Probe.is("the fourth", x.stitch(0, 3, 2), 0);
                Probe.is("worn", x.stitch(0, 0, 1), tough - 1);
            }
            x.year(1);
            Probe.is("all kinds", x.many(6), 8);
        }
        KnitTreaty x = Probe.of("tough 50;queen q;row q purl 6;");
        Probe.ok(x, "49", x.year(49), 0);
        Probe.ok(x, "50", x.year(1), 6);
        Probe.says("what is DARNED never does");
        x = Probe.of("wide 2;tough 1;queen q;row q purl 2;");
        x.darn(0, 0);
        Probe.ok(x, "one of the two", x.year(99), 1);
        Probe.shows(x, 0, "p.");
        Probe.says("29: from now on (1 to 50)");
        x = Probe.of("wide 1;tough 50;queen q;row q purl;");
        x.year(30);
        Probe.ok(x, "rule", x.rule(30));
        Probe.is("by the next YEAR, not now", x.many(6), 0);
        Probe.ok(x, "what a thread undoes elsewhere does not bring it", x.pulled(0, 0), 1);
        Probe.ok(x, "rule", x.rule(32));
        Probe.ok(x, "31", x.year(1), 0);
        Probe.ok(x, "32", x.year(1), 1);
    }

    private static void ladders() {
        Probe.says("a LADDER: a KNIT STITCH that is not DARNED, below which a STITCH is UNDONE, and so on up");
        KnitTreaty x = Probe.of("wide 4;queen q;row q purl 4;row q knit purl cable hole;row q knit 4;row q knit 4;");
        for (int c = 0; c < 4; c++) {
            Probe.ok(x, "moth", x.moth(0, c), c == 0 ? 4 : 1);
        }
        Probe.shows(x, 1, ".PCH");
        Probe.shows(x, 2, ".KKK");
        Probe.ok(x, "moth", x.moth(1, 1), 3);
        x.darn(2, 2);
        Probe.ok(x, "not up what is DARNED", x.moth(1, 2), 1);
        Probe.shows(x, 3, "..KK");
        x.darn(3, 3);
        Probe.ok(x, "up to what is DARNED", x.moth(1, 3), 2);
        Probe.shows(x, 2, "..k.");
        Probe.shows(x, 3, "..Kk");
        Probe.says("(a ROW less, the same column): neither beside nor down");
        x = Probe.of("wide 3;queen q;row q knit 3;row q knit 3;row q knit 3;");
        Probe.ok(x, "moth", x.moth(1, 1), 2);
        Probe.shows(x, 0, "KKK");
        Probe.shows(x, 1, "K.K");
        Probe.shows(x, 2, "K.K");
        Probe.says("2. of these who are WORN by TOUGH or more come undone (then LADDERS)");
        x = Probe.of("wide 3;tough 2;queen q;row q purl hole purl;row q purl 3;row q knit 3;");
        x.darn(1, 0);
        Probe.ok(x, "those beside the hole", x.year(1), 2);
        Probe.shows(x, 0, ".H.");
        Probe.shows(x, 1, "pPP");
        x = Probe.of("wide 3;tough 2;queen q;row q purl hole purl;row q knit purl knit;");
        Probe.ok(x, "and the ladders", x.year(1), 4);
        Probe.shows(x, 1, ".P.");
        Probe.worn(x, 1, 1, 1, 1);
        Probe.ok(x, "then what is beside them", x.year(1), 2);
        Probe.says("LADDERS of a DARNED STITCH that was UNDONE: it is whole");
        x = Probe.of("wide 1;queen q;row q purl;row q knit;row q knit;");
        x.moth(0, 0);
        x.darn(0, 0);
        x.darn(1, 0);
        Probe.ok(x, "nothing is below the third", x.stitch(2, 0, 2), 1);
    }

    private static void laddersAnew() {
        Probe.says("all ROWS are asked anew, whenever anything came undone");
        String s = "wide 2;tough 50;queen q;row q purl cable;";
        KnitTreaty x = laid(s);
        Probe.shows(x, 1, "KC");
        Probe.ok(x, "a moth elsewhere", x.moth(0, 1), 2);
        Probe.shows(x, 1, ".C");
        x = laid(s);
        Probe.ok(x, "a thread above it", x.pulled(1, 1), 0);
        Probe.ok(x, "a thread held at once", x.pull(1, 1), 0);
        Probe.shows(x, 1, "KC");
        Probe.ok(x, "a year", x.year(1), 0);
        Probe.shows(x, 1, "KC");
        x.rule(2);
        Probe.ok(x, "a year by which something does", x.year(1), 3);
        x = laid(s);
        Probe.row(x, 0, "PP");
        x.knit(0, 0);
        Probe.shows(x, 1, "KC");
        Probe.ok(x, "a thread above it", x.pull(2, 1), 3);
        Probe.shows(x, 1, ".C");
        x = laid(s);
        x.darn(0, 0);
        Probe.ok(x, "what has been DARNED below", x.moth(0, 1), 1);
        Probe.shows(x, 1, "KC");
        x = laid(s);
        x.unravel();
        Probe.is("unravelling undoes nothing", x.many(6), 1);
    }

    /** A first ROW with its first STITCH UNDONE, and KNIT, CABLE knitted on. */
    private static KnitTreaty laid(String s) {
        KnitTreaty x = Probe.of(s);
        x.moth(0, 0);
        Probe.row(x, 0, "KC");
        Probe.is("knit", x.knit(0, 0), 2);
        return x;
    }

    // ---- threads, moths, darning

    private static void pulls() {
        Probe.says("a PULL from a side (0: column 0, 1: the last column)");
        String s = "wide 5;queen q;row q purl hole cable purl purl;";
        KnitTreaty x = Probe.of(s);
        Probe.ok(x, "from column 0", x.pull(0, 0), 2);
        Probe.shows(x, 0, "..CPP");
        x = Probe.of(s);
        Probe.ok(x, "from the last column", x.pull(0, 1), 2);
        Probe.shows(x, 0, "PHC..");
        Probe.ok(x, "a CABLE holds", x.pull(0, 1), 0);
        Probe.says("till one that HOLDS: DARNED, or a CABLE that is not UNDONE (UNDONE ones are passed by)");
        x.moth(0, 2);
        Probe.ok(x, "an UNDONE CABLE does not", x.pull(0, 1), 2);
        Probe.shows(x, 0, ".....");
        Probe.ok(x, "all is UNDONE", x.pull(0, 0), 0);
        x.darn(0, 1);
        Probe.ok(x, "it stays", x.pull(0, 0), 0);
        Probe.ok(x, "it stays", x.pull(0, 1), 0);
        Probe.shows(x, 0, ".h...");
        x = Probe.of("wide 4;queen q;row q purl 4;");
        x.darn(0, 1);
        Probe.ok(x, "up to what is DARNED", x.pull(0, 0), 1);
        Probe.ok(x, "up to what is DARNED", x.pull(0, 1), 2);
        Probe.shows(x, 0, ".p..");
        x = Probe.of("wide 1;queen q;row q purl;row q cable;row q hole;");
        Probe.ok(x, "one", x.pull(0, 1), 1);
        Probe.ok(x, "one", x.pull(1, 1), 0);
        Probe.ok(x, "the last row", x.pull(2, 0), 1);
        Probe.no(x, "no row", x.pull(3, 0), 2);
        Probe.no(x, "side 2", x.pull(0, 2), 5);
        Probe.no(x, "side -1", x.pull(0, -1), 5);
        Probe.says("23: how many STITCHES came undone, by LADDERS, too");
        x = Probe.of("wide 3;queen q;row q purl 2 cable;row q knit 3;row q cable knit 2;");
        Probe.ok(x, "pull", x.pull(0, 0), 5);
        Probe.shows(x, 1, "..K");
        Probe.shows(x, 2, "C.K");
    }

    private static void moths() {
        Probe.says("24: if it is neither UNDONE nor DARNED (9)");
        KnitTreaty x = Probe.of("wide 4;queen q;row q knit purl cable hole;row q hole 4;");
        for (int c = 0; c < 4; c++) {
            Probe.ok(x, "moth", x.moth(0, c), 1);
            Probe.no(x, "once more", x.moth(0, c), 9);
        }
        x.darn(0, 0);
        Probe.no(x, "what was UNDONE and is DARNED", x.moth(0, 0), 9);
        x.darn(1, 3);
        Probe.no(x, "what is DARNED", x.moth(1, 3), 9);
        Probe.no(x, "column 4", x.moth(1, 4), 2);
        Probe.no(x, "row 2", x.moth(2, 3), 2);
    }

    private static void darns() {
        Probe.says("25: by how much it was WORN");
        KnitTreaty x = Probe.of("wide 2;tough 3;queen q;row q purl 2;row q purl knit;");
        Probe.ok(x, "not at all", x.darn(1, 0), 0);
        x.year(2);
        Probe.ok(x, "two years", x.darn(0, 0), 2);
        Probe.ok(x, "again", x.darn(0, 0), 0);
        x.year(1);
        Probe.says("25: whole again (if it was UNDONE), WORN by 0, and DARNED (for good)");
        Probe.shows(x, 0, "p.");
        Probe.ok(x, "what is UNDONE", x.darn(0, 1), 3);
        Probe.shows(x, 0, "pp");
        Probe.worn(x, 0, 0, 0);
        Probe.ok(x, "what is UNDONE", x.darn(1, 1), 3);
        Probe.shows(x, 1, "pk");
        x.year(50);
        x.pull(0, 0);
        x.pull(1, 1);
        Probe.is("for good", x.many(6), 0);
        Probe.is("for good", x.many(7), 4);
        Probe.no(x, "column 2", x.darn(0, 2), 2);
        Probe.no(x, "row 2", x.darn(2, 0), 2);
        Probe.says("UNDONE ones are for good, till they are DARNED");
        x = Probe.of("wide 1;tough 1;queen q;row q purl;");
        x.moth(0, 0);
        x.rule(50);
        x.year(50);
        Probe.shows(x, 0, ".");
        x.darn(0, 0);
        Probe.shows(x, 0, "p");
    }

    // ---- knitting on and unravelling

    private static void knits() {
        Probe.says("26: the first numbers of a TRAY, as many as WIDE (4)");
        KnitTreaty x = Probe.of("wide 3;queen q wool 999;row q hole 3;");
        Probe.row(x, 0, "KP");
        Probe.no(x, "two", x.knit(0, 0), 4);
        Probe.row(x, 0, "");
        Probe.no(x, "none", x.knit(0, 0), 4);
        Probe.row(x, 0, "KPC");
        Probe.ok(x, "three", x.knit(0, 0), 2);
        x.tray(0, 3, 60);
        x.write(0, 0, 3);
        x.write(0, 3, 77);
        x.write(0, 59, -77);
        Probe.ok(x, "those behind do not matter", x.knit(0, 0), 3);
        Probe.shows(x, 1, "KPC");
        Probe.shows(x, 2, "HKK");
        Probe.says("26: a number that is no KIND (5)");
        long[] odd = {-1, 4, 1L << 32, Long.MIN_VALUE, 1L << 63 | 3};
        for (int i = 0; i < 15; i++) {
            x.write(0, i % 3, odd[i / 3]);
            Probe.no(x, "no kind", x.knit(0, 0), 5);
            Probe.no(x, "needs of no kind", x.needs(0), 5);
            x.write(0, i % 3, i % 4);
        }
        Probe.ok(x, "all are kinds", x.knit(0, 0), 4);
        Probe.says("26: a 13th (7)");
        Probe.row(x, 0, "KHK");
        for (int i = 5; i <= 12; i++) {
            Probe.ok(x, "knit", x.knit(0, 0), i);
        }
        Probe.no(x, "knit", x.knit(0, 0), 7);
        Probe.is("rows", x.many(4), 12);
        x.unravel();
        Probe.ok(x, "knit", x.knit(0, 0), 12);
        Probe.says("a new ROW is neither WORN nor UNDONE nor DARNED");
        x.year(3);
        x.moth(11, 0);
        x.darn(11, 1);
        x.unravel();
        x.knit(0, 0);
        Probe.worn(x, 11, 0, 0, 0);
        Probe.shows(x, 11, "KHK");
        Probe.is("the YEAR stays", x.many(5), 3);
    }

    private static void widest() {
        Probe.says("26: as many as WIDE, in a piece as wide and as high as can be");
        KnitTreaty x = Probe.of("wide 8;queen q wool 999;row q hole 8;");
        x.tray(0, 0, 60);
        for (int i = 0; i < 9; i++) {
            x.write(0, i, i < 8 ? i % 3 : 1);
        }
        for (int r = 1; r < 12; r++) {
            Probe.ok(x, "knit", x.knit(0, 0), r + 1);
            Probe.is("wool", x.wool(0), 999 - 10 * r);
        }
        Probe.no(x, "a 13th", x.knit(0, 0), 7);
        Probe.shows(x, 0, "HHHHHHHH");
        for (int r = 1; r < 12; r += 5) {
            Probe.shows(x, r, "KPCKPCKP");
        }
        Probe.says("21: as many as WIDE");
        x.tray(1, 0, 9);
        x.write(1, 8, 9);
        Probe.ok(x, "copy", x.copyRow(11, 1), 8);
        Probe.ok(x, "the eighth", x.read(1, 7), 1);
        Probe.ok(x, "the ninth stays", x.read(1, 8), 9);
        Probe.says("23: the last ROW of a piece as wide and as high as can be");
        Probe.ok(x, "from the right", x.pull(11, 1), 2);
        Probe.ok(x, "from the left", x.pull(11, 0), 2);
        Probe.shows(x, 11, "..CKPC..");
    }

    private static void knitWool() {
        Probe.says("KNIT ON: 1 for KNIT, 1 for PURL, 2 for CABLE, 0 for HOLE");
        String[] runs = {"KKK", "PPP", "CCC", "HHH", "KPC", "CHC"};
        int[] due = {3, 3, 6, 0, 4, 4};
        for (int i = 0; i < 6; i++) {
            KnitTreaty x = Probe.of("wide 3;queen r;queen q wool " + due[i] + ";");
            Probe.row(x, 2, runs[i]);
            Probe.ok(x, "needs", x.needs(2), due[i]);
            Probe.ok(x, "just enough", x.knit(1, 2), 1);
            Probe.is("what is left", x.wool(1), 0);
            Probe.is("the other's", x.wool(0), 100);
            Probe.is("queen", x.queenOf(0), 1);
            if (due[i] > 0) {
                Probe.says("26: WOOL (9)");
                x = Probe.of("wide 3;queen r;queen q wool " + (due[i] - 1) + ";");
                Probe.row(x, 2, runs[i]);
                Probe.no(x, "one too few", x.knit(1, 2), 9);
                Probe.is("wool", x.wool(1), due[i] - 1);
                Probe.is("rows", x.many(4), 0);
            }
        }
        Probe.says("39: the first numbers of a TRAY, as many as WIDE");
        KnitTreaty x = new KnitTreaty();
        Probe.row(x, 0, "CCCCCCC");
        Probe.ok(x, "without queens", x.needs(0), 12);
        Probe.row(x, 0, "CCCCC");
        Probe.no(x, "too few", x.needs(0), 4);
        Probe.row(x, 0, "HHHHHH");
        Probe.ok(x, "none", x.needs(0), 0);
    }

    private static void unravels() {
        Probe.says("UNRAVEL: WOOL again for all its STITCHES that are not UNDONE");
        KnitTreaty x = Probe.of("wide 4;queen q wool 0;queen r wool 5;row q cable 2 purl 2;row r knit purl cable hole;");
        x.moth(1, 0);
        x.darn(1, 2);
        Probe.ok(x, "the last ROW", x.unravel(), 1);
        Probe.is("PURL and a DARNED CABLE", x.wool(1), 8);
        Probe.is("the other's", x.wool(0), 0);
        x.moth(0, 1);
        Probe.ok(x, "the first", x.unravel(), 0);
        Probe.is("a CABLE, two PURLS", x.wool(0), 4);
        Probe.says("27: none (8)");
        Probe.no(x, "unravel", x.unravel(), 8);
        Probe.is("wool", x.wool(0) * 10 + x.wool(1), 48);
        Probe.says("27: all UNDONE: no WOOL");
        x = Probe.of("wide 2;queen q wool 3;row q cable 2;");
        x.moth(0, 0);
        x.moth(0, 1);
        Probe.ok(x, "unravel", x.unravel(), 0);
        Probe.is("wool", x.wool(0), 3);
        Probe.says("(999 at most)");
        int[] had = {995, 996, 999};
        int[] due = {998, 999, 999};
        for (int i = 0; i < 3; i++) {
            x = Probe.of("wide 3;queen q wool " + had[i] + ";row q knit 3;");
            Probe.ok(x, "unravel", x.unravel(), 0);
            Probe.is("wool", x.wool(0), due[i]);
        }
        x = Probe.of("wide 3;queen q wool 997;row q knit 3;");
        x.unravel();
        Probe.is("three to 997", x.wool(0), 999);
    }

    private static void unravelled() {
        Probe.says("27: the last ROW is gone");
        KnitTreaty x = Probe.of("wide 2;tough 5;queen q;queen r;clause a is knit;clause b is purl;clash a b;"
                + "row q hole 2;row r knit purl;");
        x.year(1);
        x.darn(1, 0);
        x.darn(1, 1);
        Probe.ok(x, "first", x.firstSaid(0), 10);
        Probe.ok(x, "clash", x.firstClash(), 1);
        Probe.ok(x, "worst", x.worstPull(), 0);
        Probe.ok(x, "unravel", x.unravel(), 1);
        Probe.is("rows", x.many(4), 1);
        Probe.is("darned", x.many(7), 0);
        Probe.is("worn", x.many(8), 4);
        Probe.is("said", x.many(9), 0);
        for (int c = 0; c < 2; c++) {
            Probe.ok(x, "said", x.said(c), 0);
            Probe.no(x, "first", x.firstSaid(c), 8);
            Probe.no(x, "said in it", x.saidIn(c, 1), 2);
            Probe.ok(x, "binds", x.binds(c), 0);
            Probe.ok(x, "lost", x.lost(c), 0);
        }
        Probe.ok(x, "bound", x.boundBy(1), 0);
        Probe.ok(x, "clashes", x.clashes(), 0);
        Probe.no(x, "clash", x.firstClash(), 8);
        Probe.no(x, "lost", x.firstLost(), 8);
        Probe.no(x, "stitch", x.stitch(1, 0, 0), 2);
        Probe.no(x, "queen", x.queenOf(1), 2);
        Probe.no(x, "pull", x.pull(1, 0), 2);
        Probe.no(x, "pulled", x.pulled(1, 0), 2);
        Probe.ok(x, "undone in 99", x.undoneIn(99), 2);
        x.unravel();
        Probe.no(x, "worst", x.worstPull(), 8);
        Probe.is("rows", x.many(4), 0);
        Probe.is("worn", x.many(8), 0);
    }

    private static void shears() {
        Probe.says("28: so much WOOL (1 to 999; 999 at most in all): how much she has then");
        KnitTreaty x = Probe.of("queen q wool 0;queen r wool 998;queen s wool 999;");
        Probe.no(x, "0", x.shear(0, 0), 5);
        Probe.no(x, "-1", x.shear(0, -1), 5);
        Probe.no(x, "1000", x.shear(0, 1000), 5);
        Probe.is("wool", x.wool(0), 0);
        Probe.ok(x, "999", x.shear(0, 999), 999);
        Probe.ok(x, "1", x.shear(1, 1), 999);
        Probe.ok(x, "1 more", x.shear(1, 1), 999);
        Probe.ok(x, "999 more", x.shear(2, 999), 999);
        Probe.is("wool", x.wool(2), 999);
        x = Probe.of("queen q wool 10;");
        Probe.ok(x, "988", x.shear(0, 988), 998);
        Probe.ok(x, "2", x.shear(0, 2), 999);
        Probe.no(x, "queen 1", x.shear(1, 1), 2);
    }

    private static void rules() {
        Probe.says("29: TOUGH (1 to 50)");
        KnitTreaty x = new KnitTreaty();
        Probe.ok(x, "1", x.rule(1));
        Probe.is("tough", x.many(1), 1);
        Probe.no(x, "0", x.rule(0), 5);
        Probe.no(x, "-1", x.rule(-1), 5);
        Probe.is("tough", x.many(1), 1);
        Probe.ok(x, "50", x.rule(50));
        Probe.no(x, "51", x.rule(51), 5);
        Probe.is("tough", x.many(1), 50);
        Probe.says("29: what is WORN so much already comes undone by the next YEAR");
        x = Probe.of("wide 2;tough 50;queen q;row q purl 2;");
        x.year(5);
        x.rule(1);
        Probe.is("undone", x.many(6), 0);
        Probe.ok(x, "in 0", x.undoneIn(0), 0);
        Probe.ok(x, "in 1", x.undoneIn(1), 2);
        x.moth(0, 0);
        Probe.is("undone", x.many(6), 1);
        Probe.ok(x, "year", x.year(1), 1);
    }

    private static void quarrels() {
        Probe.says("30: CLASH from now on, or not (9: one and itself, or it is so)");
        KnitTreaty x = Probe.of("clause a is knit;clause b is purl;clause c is hole;clash b a;");
        Probe.no(x, "it is so", x.quarrel(0, 1, true), 9);
        Probe.no(x, "it is so", x.quarrel(1, 0, true), 9);
        Probe.no(x, "it is so", x.quarrel(0, 2, false), 9);
        Probe.no(x, "itself", x.quarrel(1, 1, true), 9);
        Probe.no(x, "itself", x.quarrel(1, 1, false), 9);
        Probe.is("clash", x.clash(0, 1), 1);
        Probe.ok(x, "no more", x.quarrel(1, 0, false));
        Probe.is("clash", x.clash(0, 1) + x.clash(1, 0), 0);
        Probe.no(x, "it is so", x.quarrel(0, 1, false), 9);
        Probe.ok(x, "now", x.quarrel(2, 1, true));
        Probe.is("clash", x.clash(1, 2) * 10 + x.clash(2, 1), 11);
        Probe.no(x, "it is so", x.quarrel(1, 2, true), 9);
        Probe.says("19: 1 if two CLAUSES CLASH, else 0 (2; 9: one and itself)");
        Probe.no(x, "itself", x.clash(2, 2), 9);
        Probe.no(x, "none", x.clash(3, 3), 2);
        Probe.ok(x, "no", x.clash(0, 2), 0);
    }
}
