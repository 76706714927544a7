/** The boundary cases of the texts and their FAULTS, sentence by sentence: promises 9 to 12. */
public final class TextBoundsTest {
    private static final String[] WORDS = {"wide", "tough", "queen", "wool", "clause", "is", "clash", "gives", "costs",
        "row", "knit", "purl", "cable", "hole", "year", "pull", "moth", "darn", "any", "when", "said", "whole", "undone",
        "loop", "end", "stop"};
    private static final String NINE = "abcdefghi";
    private static final String Q = "queen q;";
    private static final String C = "clause a is knit;";
    /** Every PART, and every TOKEN that one may have. */
    private static final String ALL = "wide 8 ; tough 50 ; queen q wool 999 ; queen abcdefgh ; clause a is knit purl cable "
            + "hole knit ; clause b is hole ; clash a b ; gives q a 99 ; costs abcdefgh b 0 ; "
            + "row q knit 2 purl cable 4 hole ; row abcdefgh hole 8 ;";
    /** Every STEP, and every TOKEN that one may have, for one ROW of six. */
    private static final String STEPS = "year 20 ; pull 0 1 ; moth 0 5 ; darn 0 0 ; any ; when said a ; stop ; end ; "
            + "loop 99 ; when whole 0 ; when undone < 99 ; end ; end ; end ; when undone > 0 ; when undone = 1 ; end ; end ;";

    public static void main(String[] args) {
        feeds();
        tapes();
        centuryTapes();
        faultTold();
        signs();
        numbers();
        words();
        blanks();
        cut();
        ends();
        semicolons();
        measures();
        names();
        clauses();
        clashesAndWorths();
        rows();
        tooMany();
        leastKind();
        taken();
        takenAgain();
        steps();
        stepNumbers();
        stepPlaces();
        tooManySteps();
        Probe.finish("texts");
    }

    private static KnitTreaty piece() {
        return Probe.of(Q + "queen r;clause a is knit;clause abcdefgh is purl;row q knit 6;row q knit 6;row r knit 6;");
    }

    private static void stepFault(String s, int kind, int place) {
        Probe.fault(piece(), s, false, kind, place);
    }

    private static void stepsFine(String s) {
        Probe.fault(piece(), s, false, 0, -1);
    }

    // ---- the tape

    private static void feeds() {
        Probe.says("9: twenty bytes, the highest of each int first, behind those on the tape");
        KnitTreaty x = new KnitTreaty();
        Probe.is("feed", x.feed(0x77696465, 0x20373b74, 0x6f756768, 0x20393b71, 0x7565656e), 20);
        Probe.is("feed", x.feed(0x20612077, 0x6f6f6c20, 0x3132333b, 0x20202020, 0x20202020), 40);
        Probe.ok(x, "wide 7;tough 9;queen a wool 123;", x.treaty(40), 0);
        Probe.is("wide", x.many(0), 7);
        Probe.is("tough", x.many(1), 9);
        Probe.is("wool", x.wool(0), 123);
        x.feed(0x80818283, 0xff000000, 0, 0, 0);
        Probe.no(x, "a byte of 128", x.treaty(20), 10);
        Probe.is("is no blank", x.fault(0) * 100 + x.fault(1), 100);
        Probe.says("9: NONE if there would be more than 900");
        for (int i = 1; i <= 45; i++) {
            Probe.is("feed", x.feed(0x0a202020, 0x20202020, 0x20202020, 0x20202020, 0x2020200a), 20 * i);
        }
        x.many(-1);
        Probe.is("feed", x.feed(0x77696465, 0x20373b74, 0x6f756768, 0x20393b71, 0x7565656e), -1);
        Probe.is("it has no STATUS", x.status(), 5);
        Probe.no(x, "901", x.treaty(901), 5);
        Probe.is("the tape is as full as it was", x.feed(0, 0, 0, 0, 0), -1);
        Probe.ok(x, "900", x.treaty(900), 0);
        Probe.is("it is empty", x.feed(0, 0, 0, 0, 0), 20);
        Probe.says("a TREATY is a TEXT of at most 900 bytes");
        String longest = "wide 7;" + Probe.times(" ", 884) + "tough 5;";
        Probe.treatyFine(longest + "\n");
        Probe.fault(new KnitTreaty(), longest.substring(0, 898), true, 2, 898);
        Probe.fault(new KnitTreaty(), "  " + longest.substring(0, 898), true, 2, 900);
        x = Probe.of(longest);
        Probe.is("the first of 899 bytes", x.many(0), 7);
        Probe.is("the last", x.many(1), 5);
        x = Probe.of(" " + longest);
        Probe.is("the last of 900 bytes", x.many(1), 5);
        Probe.fault(new KnitTreaty(), Probe.times(" ", 899) + "!", true, 1, 899);
    }

    private static void tapes() {
        Probe.says("10: the first n bytes of the tape");
        KnitTreaty x = new KnitTreaty();
        Probe.tape(x, "wide 7;tough 3;wide");
        Probe.ok(x, "seven", x.treaty(7), 0);
        Probe.is("wide", x.many(0), 7);
        Probe.is("tough", x.many(1), 20);
        Probe.no(x, "which is empty then", x.treaty(1), 5);
        Probe.tape(x, "tough 33;");
        Probe.ok(x, "a part of a NUMBER", x.treaty(0), 0);
        Probe.is("no bytes are a TREATY, too", x.many(0), 6);
        Probe.is("which is empty then", x.feed(0, 0, 0, 0, 0), 20);
        x.treaty(20);
        Probe.says("10: empty then, but for 5");
        Probe.tape(x, "wide 8;");
        Probe.no(x, "below 0", x.treaty(-1), 5);
        Probe.no(x, "one too many", x.treaty(21), 5);
        Probe.ok(x, "all of it", x.treaty(20), 0);
        Probe.is("wide", x.many(0), 8);
        Probe.says("10: how many ROWS");
        Probe.ok(x, "12", Probe.treaty(x, Q + Probe.times("row q hole 6;", 12)), 12);
        Probe.says("10: 10: the old one stays");
        Probe.no(x, "a FAULT behind much else", Probe.treaty(x, "wide 2;tough 2;queen x;queen y;row x purl 2;wool"), 10);
        Probe.is("which is empty then", x.feed(0, 0, 0, 0, 0), 20);
        Probe.is("wide", x.many(0), 6);
        Probe.is("tough", x.many(1), 20);
        Probe.is("queens", x.many(2), 1);
        Probe.is("rows", x.many(4), 12);
        Probe.shows(x, 0, "HHHHHH");
        x.treaty(20);
        Probe.ok(x, "its NAMES stay, too", Probe.centuries(x, "pull 11 0;"), 1);
    }

    private static void centuryTapes() {
        Probe.says("11: 5: above 300, too");
        KnitTreaty x = new KnitTreaty();
        Probe.tape(x, Probe.times(" ", 296) + "any;" + Probe.times(" ", 20));
        Probe.no(x, "301", x.centuries(301), 5);
        Probe.no(x, "320", x.centuries(320), 5);
        Probe.no(x, "321", x.centuries(321), 5);
        Probe.no(x, "-1", x.centuries(-1), 5);
        Probe.ok(x, "300", x.centuries(300), 1);
        Probe.is("the tape is empty", x.feed(0, 0, 0, 0, 0), 20);
        Probe.no(x, "21 of 20", x.centuries(21), 5);
        Probe.no(x, "bytes 0", x.centuries(20), 10);
        Probe.is("the tape is empty", x.feed(0, 0, 0, 0, 0), 20);
        Probe.ok(x, "the old ones stay", x.live(0), 1);
        x.treaty(0);
        Probe.tape(x, Probe.times(" ", 297) + "any;");
        Probe.no(x, "a sign at 300", x.centuries(300), 10);
        Probe.is("is not read", x.fault(0) * 1000 + x.fault(1), 2300);
        Probe.says("11: how many STEPS");
        Probe.ok(x, "the first two of them", tapedTwo(x), 2);
        Probe.ok(x, "the same", x.live(0), 2);
    }

    private static int tapedTwo(KnitTreaty x) {
        Probe.tape(x, "loop 1;any;end;stop;stop;");
        return x.centuries(15);
    }

    private static void faultTold() {
        Probe.says("12: of the latest of these with STATUS 0 or 10");
        KnitTreaty x = new KnitTreaty();
        Probe.treaty(x, " queen 7;");
        Probe.is("fault", x.fault(0), 2);
        Probe.is("place", x.fault(1), 7);
        Probe.is("others", x.fault(2), -1);
        Probe.is("others", x.fault(-1), -1);
        Probe.is("others", x.fault(Integer.MAX_VALUE), -1);
        x.treaty(1);
        x.centuries(301);
        x.mark();
        x.back();
        Probe.is("5 leaves it", x.fault(0), 2);
        Probe.is("5 leaves it", x.fault(1), 7);
        Probe.centuries(x, "loop 0;");
        Probe.is("of centuries", x.fault(0), 4);
        Probe.is("of centuries", x.fault(1), 5);
        Probe.ok(x, "a treaty", x.treaty(0), 0);
        Probe.is("0 without one", x.fault(0), 0);
        Probe.is("NONE without", x.fault(1), -1);
        Probe.treaty(x, "?");
        Probe.is("at the first byte", x.fault(0), 1);
        Probe.is("at the first byte", x.fault(1), 0);
        Probe.ok(x, "centuries", Probe.centuries(x, "any;"), 1);
        Probe.is("0 without one", x.fault(0), 0);
        Probe.is("NONE without", x.fault(1), -1);
    }

    // ---- TOKENS

    private static void signs() {
        Probe.says("FAULT 1: no TOKEN begins so");
        for (int c = 0; c < 256; c++) {
            boolean blank = c == 10 || c == 32;
            boolean begins = c >= 'a' && c <= 'z' || c >= '0' && c <= '9' || ";<>=".indexOf(c) >= 0;
            int kind = blank ? 0 : begins ? 2 : 1;
            Probe.treatyFault("queen q; " + (char) c, kind, blank ? -1 : 9);
            stepFault("any;" + (char) c, kind, blank ? -1 : 4);
        }
        Probe.treatyFault("wi!de 6;", 2, 0);
        Probe.treatyFault("wide! 6;", 1, 4);
        Probe.treatyFault("wide Six;", 1, 5);
        Probe.treatyFault("queen anN;", 1, 8);
        Probe.treatyFault("wide -6;", 1, 5);
        Probe.treatyFault("wide 6,", 1, 6);
        Probe.treatyFault("wide\t6;", 1, 4);
        Probe.treatyFault("wide 6\r\n;", 1, 6);
        stepFault("year 1.;", 1, 6);
        stepFault("Any;", 1, 0);
    }

    private static void numbers() {
        Probe.says("NUMBERS (1 to 4 digits)");
        Probe.treatyFine("wide 6;");
        Probe.treatyFine("wide 0006;");
        Probe.treatyFine("tough 0050;");
        Probe.treatyFine("queen q wool 0999;");
        Probe.treatyFault("queen q wool 9999;", 4, 13);
        Probe.says("FAULT 1: a NUMBER of 5 digits and more: at its first");
        Probe.treatyFault("wide 00006;", 1, 5);
        Probe.treatyFault("queen q wool 10000;", 1, 13);
        Probe.treatyFault("wide 4294967302;", 1, 5);
        Probe.treatyFault("wide 18446744073709551622;", 1, 5);
        Probe.treatyFault("wide " + Probe.times("0", 890) + "6;", 1, 5);
        Probe.treatyFault(Q + C + "gives q a 00000;", 1, 35);
        stepFault("year 00001;", 1, 5);
        stepFault("pull 0 00000;", 1, 7);
        stepsFine("year 0001;loop 0099;end;pull 0000 0001;");
        Probe.treatyFault("12345", 1, 0);
        Probe.treatyFault("1234", 2, 0);
        Probe.says("TOKENS, as long as they go");
        Probe.treatyFault("wide 1 2;", 2, 7);
        Probe.treatyFault("wide 12;", 4, 5);
        Probe.treatyFine("queen q wool10;");
        Probe.treatyFault("queen q 10;", 2, 8);
    }

    private static void words() {
        Probe.says("a NAME: a WORD of 1 to 8 letters");
        Probe.treatyFine("queen a;queen z;queen abcdefgh;queen zzzzzzzz;");
        Probe.treatyFault("queen " + NINE + ";", 2, 6);
        Probe.treatyFault("queen " + Probe.times("a", 800) + ";", 2, 6);
        Probe.says("a WORD of 9 letters and more where a NAME must stand (2)");
        Probe.treatyFault("clause " + NINE + " is knit;", 2, 7);
        Probe.treatyFault(C + "clash " + NINE + " a;", 2, 23);
        Probe.treatyFault(C + "clash a " + NINE + ";", 2, 25);
        Probe.treatyFault(Q + C + "gives " + NINE + " a 1;", 2, 31);
        Probe.treatyFault(Q + C + "gives q " + NINE + " 1;", 2, 33);
        Probe.treatyFault(Q + C + "costs " + NINE + " a 1;", 2, 31);
        Probe.treatyFault(Q + C + "costs q " + NINE + " 1;", 2, 33);
        Probe.treatyFault(Q + "row " + NINE + " knit 6;", 2, 12);
        stepFault("when said " + NINE + ";", 2, 10);
        stepsFine("when said abcdefgh;end;");
        Probe.says("a WORD of 9 letters and more elsewhere (2)");
        Probe.treatyFault(NINE, 2, 0);
        Probe.treatyFault("queen q " + NINE, 2, 8);
        stepFault(NINE, 2, 0);
        stepFault("when " + NINE, 2, 5);
        Probe.says("a NAME is none of the words");
        for (String w : WORDS) {
            Probe.treatyFault("queen " + w + ";", 2, 6);
            Probe.treatyFault("clause " + w + " is knit;", 2, 7);
            Probe.treatyFault(Q + "row " + w + " knit 6;", 2, 12);
            Probe.treatyFault(C + "clash " + w + " a;", 2, 23);
            stepFault("when said " + w + ";", 2, 10);
            Probe.treatyFine("queen " + w + "x;clause x" + w.substring(1) + " is hole;queen " + w.substring(1) + "q;");
        }
        // Nine letters of which the last eight, or the first, are another WORD.
        Probe.treatyFault(Q + "row qqqqqqqqq knit 6;", 2, 12);
        Probe.treatyFault("queen abcdefgh;row zabcdefgh knit 6;", 2, 19);
        Probe.treatyFault("queen bcdefghi;row abcdefghi knit 6;", 2, 19);
        Probe.treatyFine("queen knits;queen cab;clause holes is hole;clause wid is knit;");
        Probe.treatyFine("queen aa;queen a;clause aaa is knit;clause aaaa is knit;");
        Probe.says("what begins a PART, a STEP");
        for (String w : WORDS) {
            boolean part = " wide tough queen clause clash gives costs row ".contains(" " + w + " ");
            Probe.treatyFault(w, 2, part ? w.length() : 0);
            boolean step = " year pull moth darn any when loop stop ".contains(" " + w + " ");
            stepFault(w, 2, step ? w.length() : 0);
        }
    }

    private static void blanks() {
        Probe.says("between them blanks (10, 32)");
        Probe.treatyFine("");
        Probe.treatyFine(" ");
        Probe.treatyFine("\n");
        Probe.treatyFine(" \n wide \n 6 \n ; \n ");
        Probe.treatyFine("\nqueen\nq\nwool\n1\n;\n");
        Probe.treatyFault("wid e 6;", 2, 0);
        Probe.treatyFault("wide\n\n  ;", 2, 8);
        stepsFine("");
        stepsFine(" \n ");
        stepsFine("\nloop\n2\n;\nend\n;\n");
        stepFault(" \n go;", 2, 3);
    }

    /** Wherever a ; stands in place of another TOKEN, it is there that it can't, but where a PART may be over. */
    private static void semicolons() {
        Probe.says("FAULT 2: it can't stand there: a ;");
        for (int at = 0; at < ALL.length(); at++) {
            if ((at == 0 || ALL.charAt(at - 1) == ' ') && ALL.charAt(at) != ';') {
                String ahead = ALL.substring(0, at);
                boolean over = ALL.startsWith("wool", at) || ahead.matches(".*clause [a-z]+ is( [a-z]+)+ ");
                Probe.treatyFault(ahead + ";", over ? 0 : 2, over ? -1 : at);
            }
        }
        for (int at = 0; at < STEPS.length(); at++) {
            if ((at == 0 || STEPS.charAt(at - 1) == ' ') && STEPS.charAt(at) != ';') {
                stepFault(STEPS.substring(0, at) + ";", 2, at);
            }
        }
        Probe.says("FAULT 2: it can't stand there: a WORD that is no KIND");
        for (String w : WORDS) {
            if (" knit purl cable hole ".contains(" " + w + " ")) {
                Probe.treatyFine("clause a is " + w + ";clause b is " + w + " " + w + ";" + Q + "row q " + w + " 5 " + w + ";");
            } else {
                Probe.treatyFault("clause a is " + w + ";", 2, 12);
                Probe.treatyFault("clause a is hole " + w + ";", 2, 17);
                Probe.treatyFault(Q + "row q " + w + " 6;", 2, 14);
                Probe.treatyFault(Q + "row q hole 5 " + w + ";", 2, 21);
                Probe.treatyFault(Q + "row q hole 6 " + w + ";", 2, 21);
                Probe.treatyFault("queen q " + w + " 1;", w.equals("wool") ? 0 : 2, w.equals("wool") ? -1 : 8);
            }
        }
    }

    /** What is behind the n bytes is not read, within a TOKEN either. */
    private static void cut() {
        Probe.says("10: the first n bytes of the tape");
        String[] texts = {"queen knits;", "queen knits;", "tough 50;", "tough 500;", "wide 88888;", "wide!", "queen q;?"};
        int[] bytes = {11, 10, 7, 8, 6, 4, 8};
        int[] kinds = {2, 2, 2, 2, 2, 2, 0};
        int[] places = {11, 6, 7, 8, 6, 4, -1};
        for (int i = 0; i < texts.length; i++) {
            KnitTreaty x = new KnitTreaty();
            Probe.tape(x, texts[i]);
            x.treaty(bytes[i]);
            Probe.is("status of " + texts[i], x.status(), kinds[i] == 0 ? 0 : 10);
            Probe.is("fault of " + texts[i], x.fault(0), kinds[i]);
            Probe.is("place of " + texts[i], x.fault(1), places[i]);
        }
        Probe.says("11: the first n bytes of the tape");
        KnitTreaty x = new KnitTreaty();
        Probe.tape(x, "stop;ends;");
        x.centuries(8);
        Probe.is("fault", x.fault(0) * 10 + x.fault(1), 25);
        Probe.tape(x, "year 120;");
        x.centuries(7);
        Probe.is("fault", x.fault(0) * 10 + x.fault(1), 27);
        Probe.says("a TEXT of 900 bytes that ends within a TOKEN");
        Probe.treatyFault(Probe.times(" ", 894) + "queens", 2, 894);
        Probe.treatyFault(Probe.times(" ", 894) + "queen ", 2, 900);
        Probe.treatyFault(Probe.times(" ", 895) + "queen", 2, 900);
        Probe.treatyFault(Probe.times(" ", 891) + "queen aaa", 2, 900);
        Probe.treatyFault(Probe.times(" ", 894) + "wide 8", 2, 900);
        Probe.treatyFault(Probe.times(" ", 890) + "wide 12345", 1, 895);
        Probe.treatyFine(Probe.times(" ", 892) + "queen q;");
        Probe.treatyFine(Probe.times("\n", 900));
    }

    /** Wherever a text ends within a PART or a STEP, its length is where it can't. */
    private static void ends() {
        Probe.says("FAULT 2: the end: the text's length");
        Probe.treatyFine(ALL);
        for (int n = 1; n < ALL.length(); n++) {
            if (ALL.charAt(n) == ' ') {
                String s = ALL.substring(0, n);
                boolean over = s.endsWith(";");
                Probe.treatyFault(s, over ? 0 : 2, over ? -1 : n);
                Probe.treatyFault(s + " \n", over ? 0 : 2, over ? -1 : n + 2);
            }
        }
        Probe.says("FAULT 2: the text's end ahead of an end");
        stepsFine(STEPS);
        int depth = 0;
        for (int n = 1; n < STEPS.length(); n++) {
            if (STEPS.charAt(n) == ' ') {
                String s = STEPS.substring(0, n);
                depth += s.endsWith("when") || s.endsWith("loop") ? 1 : s.endsWith("end") ? -1 : 0;
                boolean over = s.endsWith(";") && depth == 0;
                stepFault(s, over ? 0 : 2, over ? -1 : n);
                stepFault(s + "\n ", over ? 0 : 2, over ? -1 : n + 2);
            }
        }
    }

    // ---- the PARTS of a TREATY

    private static void measures() {
        Probe.says("WIDE (1 to 8; 6 without)");
        Probe.treatyFault("wide 0;", 4, 5);
        Probe.treatyFault("wide 9;", 4, 5);
        for (int wide = 1; wide < 9; wide++) {
            Probe.is("wide", Probe.of("wide " + wide + ";").many(0), wide);
        }
        Probe.is("wide without", Probe.of("tough 3;").many(0), 6);
        Probe.says("TOUGH (1 to 50; 20 without)");
        Probe.treatyFault("tough 0;", 4, 6);
        Probe.treatyFault("tough 51;", 4, 6);
        Probe.is("tough", Probe.of("tough 1;").many(1), 1);
        Probe.is("tough", Probe.of("tough 50;").many(1), 50);
        Probe.is("tough without", Probe.of("wide 3;").many(1), 20);
        Probe.says("both must be told ahead of all rows and clauses");
        Probe.treatyFine("queen q;tough 2;queen r;wide 2;row q knit 2;");
        Probe.treatyFault(Q + "row q knit 6;wide 6;", 2, 21);
        Probe.treatyFault(Q + "row q knit 6;tough 6;", 2, 21);
        Probe.treatyFault(C + "wide 6;", 2, 17);
        Probe.treatyFault(C + "tough 6;", 2, 17);
        Probe.treatyFault(C + "tough", 2, 17);
        Probe.says("FAULT 5: wide, tough told already (at that WORD)");
        Probe.treatyFault("wide 6;wide 6;", 5, 7);
        Probe.treatyFault("tough 9;wide 6; tough", 5, 16);
        Probe.treatyFault("wide 1;tough 20;wide 1;", 5, 16);
        Probe.treatyFault("tough 20;tough 20;", 5, 9);
        Probe.says("of one TOKEN the least kind");
        Probe.treatyFault("wide 6;" + C + "wide 6;", 2, 24);
        Probe.treatyFault("tough 6;" + C + "tough 6;", 2, 25);
    }

    private static void names() {
        Probe.says("FAULT 3: a new NAME that is taken");
        Probe.treatyFault("queen q;queen q;", 3, 14);
        Probe.treatyFault("queen a;" + C, 3, 15);
        Probe.treatyFault(C + "queen a;", 3, 23);
        Probe.treatyFault(C + C, 3, 24);
        Probe.says("FAULT 3: a NAME that is no such one told ahead");
        Probe.treatyFault("row q knit 6;queen q;", 3, 4);
        Probe.treatyFault(C + "row a knit 6;", 3, 21);
        Probe.treatyFault("clash a b;", 3, 6);
        Probe.treatyFault(C + "clash a b;clause b is hole;", 3, 25);
        Probe.treatyFault(C + "clash b a;", 3, 23);
        Probe.treatyFault(Q + C + "clash q a;", 3, 31);
        Probe.treatyFault(Q + C + "clash a q;", 3, 33);
        Probe.treatyFault(Q + C + "gives a q 1;", 3, 31);
        Probe.treatyFault(Q + C + "gives q q 1;", 3, 33);
        Probe.treatyFault(Q + C + "costs x a 1;", 3, 31);
        Probe.treatyFault(Q + C + "costs q x 1;", 3, 33);
        Probe.treatyFault(Q + "gives q a 1;" + C, 3, 16);
        Probe.says("WOOL (0 to 999; 100 without)");
        KnitTreaty x = Probe.of("queen a wool 0;queen b wool 999;queen c;");
        Probe.is("wool", x.wool(0), 0);
        Probe.is("wool", x.wool(1), 999);
        Probe.is("wool without", x.wool(2), 100);
        Probe.treatyFault("queen a wool 1000;", 4, 13);
        Probe.treatyFault("queen a wool;", 2, 12);
        Probe.treatyFault("queen a wool a;", 2, 13);
        Probe.treatyFault("queen a wool 1 wool 1;", 2, 15);
    }

    private static void clauses() {
        Probe.says("CLAUSES: a run of 1 to 5 KINDS");
        Probe.treatyFault("clause a is;", 2, 11);
        Probe.treatyFault("clause a is", 2, 11);
        Probe.treatyFault("clause a is 1;", 2, 12);
        Probe.treatyFault("clause a is a;", 2, 12);
        Probe.treatyFault("clause a is < ;", 2, 12);
        KnitTreaty x = Probe.of("clause a is cable;clause b is hole cable purl knit hole;");
        Probe.is("one", x.length(0), 1);
        Probe.is("five", x.length(1), 5);
        int[] due = {3, 2, 1, 0, 3};
        for (int k = 0; k < 5; k++) {
            Probe.ok(x, "kind " + k, x.kind(1, k), due[k]);
        }
        Probe.no(x, "a sixth", x.kind(1, 5), 8);
        Probe.no(x, "a second", x.kind(0, 1), 8);
        Probe.says("FAULT 6: a sixth KIND of a CLAUSE, or more than WIDE (at that KIND)");
        Probe.treatyFault("clause a is hole hole hole hole hole hole;", 6, 37);
        for (int wide = 1; wide <= 8; wide++) {
            int most = Math.min(5, wide);
            String s = "wide " + wide + ";clause a is" + Probe.times(" purl", most);
            Probe.treatyFine(s + ";");
            Probe.treatyFault(s + " knit;", 6, s.length() + 1);
        }
        Probe.treatyFault("wide 2;clause a is knit knit 7 knit;", 2, 29);
        Probe.treatyFault("clause a 7;", 2, 9);
        Probe.treatyFault("clause a knit;", 2, 9);
        Probe.treatyFault("clause a is is;", 2, 12);
    }

    private static void clashesAndWorths() {
        Probe.says("FAULT 5: a CLAUSE and itself (at the second NAME)");
        Probe.treatyFault(C + "clash a a;", 5, 25);
        Probe.treatyFault(C + "clash a  a", 5, 26);
        Probe.says("CLASH: told again: nothing more");
        KnitTreaty x = Probe.of(C + "clause b is hole;clause c is hole;clash a b;clash a b;clash b a;");
        Probe.is("a and b", x.clash(0, 1), 1);
        Probe.is("b and a", x.clash(1, 0), 1);
        Probe.is("a and c", x.clash(0, 2), 0);
        x.quarrel(0, 1, false);
        Probe.is("no more by one call", x.clash(1, 0), 0);
        Probe.says("0 to 99; told again: the latest; 0 without");
        x = Probe.of(Q + C + "clause b is hole;gives q a 5;gives q a 99;gives q a 0;costs q b 7;costs q b 99;");
        Probe.is("gives", x.worth(0, 0, 0), 0);
        Probe.is("costs", x.worth(0, 1, 1), 99);
        Probe.is("without", x.worth(0, 0, 1), 0);
        Probe.is("without", x.worth(0, 1, 0), 0);
        Probe.treatyFault(Q + C + "gives q a 100;", 4, 35);
        Probe.treatyFault(Q + C + "costs q a 100;", 4, 35);
        Probe.treatyFault(Q + C + "costs q a;", 2, 34);
        Probe.treatyFault(Q + C + "costs q a 1 1;", 2, 37);
    }

    private static void rows() {
        Probe.says("KINDS, each so many times (1 to 8; 1 without)");
        String eight = "wide 8;" + Q;
        Probe.treatyFine(eight + "row q purl 8;");
        Probe.treatyFine(eight + "row q purl 1 purl 7;");
        Probe.treatyFault(eight + "row q purl 0;", 4, 26);
        Probe.treatyFault(eight + "row q purl 9;", 4, 26);
        Probe.treatyFault("wide 1;" + Q + "row q purl 9;", 4, 26);
        Probe.says("WIDE in all, from column 0 on");
        KnitTreaty x = Probe.of(eight + "row q knit purl cable hole knit 1 purl 1 cable 1 hole;row q hole 2 cable 3 purl 2 knit;");
        Probe.shows(x, 0, "KPCHKPCH");
        Probe.shows(x, 1, "HHCCCPPK");
        Probe.says("FAULT 2: a ROW of too few STITCHES: where one more must stand");
        for (int wide = 1; wide <= 8; wide++) {
            String s = "wide " + wide + ";" + Q + "row q";
            String short1 = s + Probe.times(" hole", wide - 1);
            Probe.treatyFault(short1 + ";", 2, short1.length());
            Probe.treatyFault(short1, 2, short1.length());
            Probe.treatyFault(short1 + " q;", 2, short1.length() + 1);
            Probe.treatyFine(short1 + " hole;");
            Probe.treatyFine(s + " knit " + wide + ";");
            Probe.says("FAULT 6: a ROW that would be longer than WIDE (at that KIND, or at the NUMBER by which it is)");
            Probe.treatyFault(short1 + " hole hole;", 6, short1.length() + 6);
            Probe.treatyFault(short1 + " hole hole 9;", 6, short1.length() + 6);
            Probe.treatyFault(short1 + " hole 2;", 6, short1.length() + 6);
            Probe.treatyFault(s + " knit " + wide + " purl;", 6, s.length() + 8);
            if (wide < 8) {
                Probe.treatyFault(s + " knit " + (wide + 1) + ";", 6, s.length() + 6);
                Probe.treatyFault(s + " knit 8;", 6, s.length() + 6);
            }
        }
        Probe.says("where one more must stand");
        Probe.treatyFault(Q + "row q 6;", 2, 14);
        Probe.treatyFault(Q + "row q knit 5 1;", 2, 21);
        Probe.treatyFault(Q + "row q knit 6 1;", 2, 21);
        Probe.says("WOOL is not asked here");
        x = Probe.of("queen q wool 0;row q cable 6;");
        Probe.is("wool", x.wool(0), 0);
        Probe.says("each upon that ahead, by a QUEEN");
        x = Probe.of("wide 1;queen q;queen r;row r knit;row q purl;row r hole;");
        Probe.is("queens", x.queenOf(0) * 100 + x.queenOf(1) * 10 + x.queenOf(2), 101);
        Probe.shows(x, 1, "P");
        Probe.shows(x, 2, "H");
    }

    private static void tooMany() {
        Probe.says("FAULT 6: a fifth queen (at that WORD)");
        String queens = "queen a;queen b;queen c;queen d;";
        Probe.treatyFine(queens);
        Probe.treatyFault(queens + "queen e;", 6, 32);
        Probe.treatyFault(queens + " queen", 6, 33);
        Probe.treatyFault(queens + "queen a;", 6, 32);
        Probe.is("four", Probe.of(queens).many(2), 4);
        Probe.says("FAULT 6: a seventh clause (at that WORD)");
        String s = "";
        for (int i = 0; i < 6; i++) {
            s = s + "clause " + (char) ('a' + i) + " is knit;";
        }
        Probe.treatyFine(s);
        Probe.treatyFault(s + "clause g is knit;", 6, s.length());
        Probe.treatyFault(s + "clause", 6, s.length());
        Probe.treatyFault(s + "clause a", 6, s.length());
        Probe.is("six", Probe.of(s).many(3), 6);
        Probe.says("FAULT 6: a 13th row (at that WORD)");
        s = "wide 1;queen q;" + Probe.times("row q purl;", 12);
        Probe.treatyFine(s);
        Probe.treatyFault(s + "row q purl;", 6, s.length());
        Probe.treatyFault(s + "row", 6, s.length());
        Probe.treatyFault(s + "row x", 6, s.length());
        Probe.is("twelve", Probe.of(s).many(4), 12);
    }

    private static void leastKind() {
        Probe.says("FAULTS, the first along the text");
        Probe.treatyFault("wide 9; A", 4, 5);
        Probe.treatyFault("wide A 99999", 1, 5);
        Probe.treatyFault("queen q;queen q wool A;", 3, 14);
        stepFault("year 0;A", 4, 5);
        Probe.says("of one TOKEN the least kind");
        Probe.treatyFault("wide 99999;", 1, 5);
        Probe.treatyFault("wide 6 99999;", 1, 7);
        Probe.treatyFault("wide 6 A;", 1, 7);
        Probe.treatyFault("queen 99999;", 1, 6);
        Probe.treatyFault(C + "clash a A;", 1, 25);
        Probe.treatyFault("clause a is A", 1, 12);
        Probe.treatyFault(Q + "row q knit 3 A", 1, 21);
        Probe.treatyFault(Q + "row q A", 1, 14);
        Probe.treatyFault("99999", 1, 0);
        stepFault("when ?", 1, 5);
        stepFault("when said ?", 1, 10);
        stepFault("when undone ?", 1, 12);
        stepFault("loop 1;?", 1, 7);
        // The 31st STEP is a fourth when, too.
        stepFault("loop 1;loop 1;loop 1;" + Probe.times("any;", 27) + "when", 6, 129);
        stepFault("loop 1;loop 1;loop 1;" + Probe.times("any;", 26) + "when", 7, 125);
    }

    private static void taken() {
        Probe.says("a TREATY that is taken is there in place of that ahead; nothing is worn, undone, darned");
        KnitTreaty x = Probe.of("wide 2;tough 30;queen q wool 7;clause a is knit;clause b is purl;clash a b;gives q a 3;"
                + "costs q b 4;row q knit purl;");
        x.mark();
        x.year(5);
        x.moth(0, 0);
        x.darn(0, 1);
        x.rule(2);
        x.value(0, 0, 1, 9);
        Probe.centuries(x, "any;");
        x.live(1);
        Probe.ok(x, "a treaty", Probe.treaty(x, "wide 2;queen q;clause a is knit;clause b is purl;row q knit purl;"), 1);
        Probe.is("tough", x.many(1), 20);
        Probe.says("it is YEAR 0");
        Probe.is("year", x.many(5), 0);
        Probe.is("undone, darned, worn", x.many(6) + x.many(7) + x.many(8), 0);
        Probe.worn(x, 0, 0, 0);
        Probe.shows(x, 0, "KP");
        Probe.is("wool", x.wool(0), 100);
        Probe.is("clash", x.clash(0, 1), 0);
        for (int c = 0; c < 2; c++) {
            Probe.is("gives", x.worth(0, c, 0), 0);
            Probe.is("costs", x.worth(0, c, 1), 0);
        }
        Probe.says("there are no CENTURIES");
        Probe.no(x, "live", x.live(0), 8);
        Probe.no(x, "mean", x.mean(0, 1), 8);
        Probe.says("MARKS stay");
        Probe.ok(x, "back", x.back(), 0);
        Probe.is("tough", x.many(1), 30);
        Probe.is("wool", x.wool(0), 7);
        Probe.is("clash", x.clash(0, 1), 1);
        Probe.is("gives", x.worth(0, 0, 0), 3);
    }

    private static void takenAgain() {
        Probe.says("a TREATY that is taken is there in place of that ahead, and of those that were not taken");
        String much = "wide 2;tough 3;queen q wool 1;queen r;clause a is knit purl;clause b is purl;clash a b;gives q a 3;"
                + "costs r b 4;row q knit purl;row r hole 2;";
        String little = "queen z;queen y;clause x is hole;clause w is cable hole;row y purl 6;";
        for (int i = 0; i < 16; i++) {
            KnitTreaty x = new KnitTreaty();
            for (int k = 0; k < 4; k++) {
                int got = Probe.treaty(x, (i >> k & 1) == 1 ? much : k % 2 == 0 ? much + "wide" : "");
                Probe.is("much, a FAULT or nothing", got, (i >> k & 1) == 1 ? 2 : k % 2 == 0 ? -1 : 0);
            }
            Probe.ok(x, "little", Probe.treaty(x, little), 1);
            int[] due = {6, 20, 2, 2, 1, 0, 0, 0, 0, 0};
            for (int what = 0; what < 10; what++) {
                Probe.ok(x, "many " + what, x.many(what), due[what]);
            }
            Probe.is("clash", x.clash(0, 1), 0);
            for (int w = 0; w < 8; w++) {
                Probe.is("worth", x.worth(w / 4, w / 2 % 2, w % 2), 0);
            }
            Probe.is("wool", x.wool(0) * 1000 + x.wool(1), 100100);
            Probe.is("length", x.length(0) * 10 + x.length(1), 12);
            Probe.is("queen", x.queenOf(0), 1);
            Probe.shows(x, 0, "PPPPPP");
            x.treaty(0);
            Probe.fault(x, "when said a;", false, 3, 10);
        }
    }

    // ---- the STEPS of CENTURIES

    private static void steps() {
        Probe.says("FAULT 2: an end without a beginning");
        stepFault("end;", 2, 0);
        stepFault("any;end;", 2, 4);
        stepFault("loop 1;end;end;", 2, 11);
        stepFault("when whole 0;end; end", 2, 18);
        Probe.says("FAULT 2: the text's end ahead of an end");
        stepFault("loop 1;", 2, 7);
        stepFault("loop 1;loop 1;end;", 2, 18);
        stepFault("loop 1;end", 2, 10);
        stepFault("loop 1;end any;", 2, 11);
        Probe.says("FAULT 2: it can't stand there");
        stepFault("any 1;", 2, 4);
        stepFault("stop stop;", 2, 5);
        stepFault("year;", 2, 4);
        stepFault("year a;", 2, 5);
        stepFault("pull 0;", 2, 6);
        stepFault("pull 0 0 0;", 2, 9);
        stepFault("loop;", 2, 4);
        stepFault("when;", 2, 4);
        stepFault("when a;", 2, 5);
        stepFault("when 1;", 2, 5);
        stepFault("when said 1;", 2, 10);
        stepFault("when whole a;", 2, 11);
        stepFault("when undone 1;", 2, 12);
        stepFault("when undone;", 2, 11);
        stepFault("when undone ; 1;", 2, 12);
        stepFault("when undone < > 1;", 2, 14);
        stepFault("when undone <;", 2, 13);
        Probe.says("FAULT 3: a NAME that is no CLAUSE");
        stepFault("when said q;", 3, 10);
        stepFault("when said b;", 3, 10);
        stepFault("when said aa;", 3, 10);
        Probe.fault(new KnitTreaty(), "when said a;", false, 3, 10);
    }

    private static void stepNumbers() {
        Probe.says("year: so many (1 to 20)");
        stepFault("year 0;", 4, 5);
        stepsFine("year 1;year 20;");
        stepFault("year 21;", 4, 5);
        Probe.says("loop n (1 to 99)");
        stepFault("loop 0;end;", 4, 5);
        stepsFine("loop 1;end;loop 99;end;");
        stepFault("loop 100;end;", 4, 5);
        Probe.says("undone: so many STITCHES are (0 to 99)");
        stepsFine("when undone < 0;end;when undone > 99;end;when undone = 99;end;");
        stepFault("when undone < 100;end;", 4, 14);
        stepFault("when undone > 100;end;", 4, 14);
        stepFault("when undone = 100;end;", 4, 14);
    }

    private static void stepPlaces() {
        Probe.says("FAULT 4: a ROW, a column that is not there");
        stepsFine("pull 0 0;pull 2 1;moth 0 0;moth 2 5;darn 0 0;darn 2 5;when whole 0;end;when whole 2;end;");
        stepFault("pull 3 0;", 4, 5);
        stepFault("moth 3 0;", 4, 5);
        stepFault("darn 3 0;", 4, 5);
        stepFault("when whole 3;", 4, 11);
        stepFault("moth 0 6;", 4, 7);
        stepFault("darn 0 6;", 4, 7);
        stepFault("darn 3 6;", 4, 5);
        Probe.says("FAULT 4: pull: a ROW from a side");
        stepFault("pull 0 2;", 4, 7);
        Probe.says("without ROWS there is none");
        KnitTreaty x = new KnitTreaty();
        Probe.fault(x, "pull 0 0;", false, 4, 5);
        Probe.fault(x, "moth 0 0;", false, 4, 5);
        Probe.fault(x, "darn 0 0;", false, 4, 5);
        Probe.fault(x, "when whole 0;", false, 4, 11);
        Probe.fault(x, "any;year 1;when undone=0;end;stop;", false, 0, -1);
        Probe.says("the ROWS that are there now");
        x = Probe.of("wide 1;" + Q + "row q knit;");
        Probe.row(x, 0, "P");
        x.knit(0, 0);
        Probe.fault(x, "pull 1 0;moth 1 0;when whole 1;end;", false, 0, -1);
        Probe.fault(x, "pull 2 0;", false, 4, 5);
        Probe.fault(x, "moth 0 1;", false, 4, 7);
        x.unravel();
        Probe.fault(x, "pull 1 0;", false, 4, 5);
        x = Probe.of("wide 8;" + Q + Probe.times("row q knit 8;", 12));
        Probe.fault(x, "moth 11 7;darn 11 7;pull 11 1;when whole 11;end;", false, 0, -1);
        Probe.fault(x, "moth 12 7;", false, 4, 5);
        Probe.fault(x, "darn 11 8;", false, 4, 8);
    }

    private static void tooManySteps() {
        Probe.says("FAULT 6: a 31st STEP (at its WORD; end is none)");
        String thirty = Probe.times("any;", 30);
        stepsFine(thirty);
        stepFault(thirty + "any;", 6, 120);
        stepFault(thirty + "  stop", 6, 122);
        stepFault(thirty + "year 0;", 6, 120);
        stepFault(thirty + "end;", 2, 120);
        stepFault(thirty + "go;", 2, 120);
        String nested = Probe.times("loop 1;end;", 20) + Probe.times("any;", 9) + "loop 9;any;";
        stepFault(nested, 6, nested.length() - 4);
        nested = nested.substring(0, nested.length() - 4);
        stepsFine(nested + "end;");
        stepFault(nested + "end;any;", 6, nested.length() + 4);
        KnitTreaty x = piece();
        Probe.ok(x, "how many", Probe.centuries(x, nested + "end;"), 30);
        Probe.ok(x, "how many", Probe.centuries(x, "when whole 0;loop 2;any;end;end;stop;"), 4);
        Probe.ok(x, "how many", Probe.centuries(x, ""), 0);
        Probe.says("FAULT 7: a when, loop within three others (at its WORD)");
        String[] opens = {"loop 1;", "when said a;", "when whole 0;", "when undone = 1;"};
        for (String o : opens) {
            String three = o + "loop 1;" + o;
            stepsFine(three + "any;end;" + o + "end;end;end;" + o + "end;");
            stepFault(three + o, 7, three.length());
            stepFault(three + " when", 7, three.length() + 1);
            stepFault(three + "any;loop", 7, three.length() + 4);
            stepFault(three + "end;" + o + "loop", 7, three.length() + 4 + o.length());
        }
    }
}
