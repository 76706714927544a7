/** The boundary cases of what is said, what will be, bargains and half-seen rows, sentence by sentence: 32 to 58. */
public final class SaidBoundsTest {
    public static void main(String[] args) {
        said();
        saidUndone();
        binds();
        clashes();
        lost();
        undoneIn();
        firstLost();
        pulled();
        pulledOut();
        mend();
        mendTies();
        shortest();
        shortestOfMany();
        shortestUnlike();
        wins();
        bargain();
        bargainTies();
        losers();
        stable();
        fills();
        fillsAnew();
        seenNumbers();
        look();
        lookByEach();
        sure();
        Probe.finish("what is said and will be");
    }

    // ---- what is said

    private static void said() {
        Probe.says("SAID in a ROW from a column on, if its KINDS stand there one by one");
        KnitTreaty x = Probe.of("wide 4;queen q;clause a is knit knit;clause b is knit knit knit knit;clause c is hole;"
                + "clause d is purl hole;row q knit 4;row q purl hole hole purl;row q hole purl purl hole;");
        Probe.ok(x, "over one another", x.saidIn(0, 0), 3);
        Probe.ok(x, "as long as WIDE", x.saidIn(1, 0), 1);
        Probe.ok(x, "at the last column", x.saidIn(3, 2), 1);
        Probe.ok(x, "not over the end of a ROW", x.said(3), 2);
        Probe.ok(x, "not backwards", x.saidIn(2, 0), 0);
        Probe.ok(x, "in all ROWS", x.said(2), 4);
        Probe.ok(x, "in the last ROW", x.saidIn(2, 2), 2);
        Probe.no(x, "row 3", x.saidIn(2, 3), 2);
        Probe.no(x, "clause 4", x.saidIn(4, 2), 2);
        Probe.says("34: the first place, as 10 times the ROW and the column (8: nowhere)");
        Probe.ok(x, "first", x.firstSaid(0), 0);
        Probe.ok(x, "first", x.firstSaid(2), 11);
        Probe.ok(x, "first", x.firstSaid(3), 10);
        x.moth(1, 0);
        Probe.ok(x, "first then", x.firstSaid(3), 22);
        x.moth(2, 3);
        Probe.no(x, "nowhere", x.firstSaid(3), 8);
        Probe.ok(x, "nowhere", x.said(3), 0);
        x = Probe.of("wide 8;queen q;clause a is cable;" + Probe.times("row q purl 8;", 11) + "row q purl 7 cable;");
        Probe.ok(x, "row 11, column 7", x.firstSaid(0), 117);
        x = Probe.of("wide 1;clause a is cable;");
        Probe.no(x, "without ROWS", x.firstSaid(0), 8);
        Probe.ok(x, "without ROWS", x.said(0), 0);
        Probe.ok(x, "without ROWS", x.binds(0), 0);
    }

    private static void saidUndone() {
        Probe.says("SAID: none of them UNDONE");
        for (int c = 0; c < 5; c++) {
            KnitTreaty x = Probe.of("wide 5;queen q;clause a is purl cable hole;row q hole purl cable hole purl;");
            x.moth(0, c);
            Probe.ok(x, "said with " + c + " undone", x.said(0), c == 0 || c == 4 ? 1 : 0);
            Probe.is("set", x.many(9), c == 0 || c == 4 ? 1 : 0);
            x.darn(0, c);
            Probe.ok(x, "said with " + c + " darned", x.said(0), 1);
        }
    }

    private static void binds() {
        Probe.says("35, 36: it BINDS the QUEENS of all ROWS in which it is SAID");
        KnitTreaty x = Probe.of("wide 2;queen q;queen r;queen s;queen t;clause a is knit;clause b is purl;clause c is hole;"
                + "row t knit purl;row q purl knit;row t purl 2;row s knit knit;");
        Probe.ok(x, "a", x.binds(0), 13);
        Probe.ok(x, "b", x.binds(1), 9);
        Probe.ok(x, "c", x.binds(2), 0);
        Probe.ok(x, "q", x.boundBy(0), 3);
        Probe.ok(x, "r without ROWS", x.boundBy(1), 0);
        Probe.ok(x, "s", x.boundBy(2), 1);
        Probe.ok(x, "t", x.boundBy(3), 3);
        Probe.no(x, "no queen", x.boundBy(4), 2);
        Probe.no(x, "no clause", x.binds(3), 2);
        x.moth(0, 0);
        Probe.ok(x, "a", x.binds(0), 5);
        Probe.ok(x, "t", x.boundBy(3), 2);
    }

    private static void clashes() {
        Probe.says("37: couples of CLAUSES that CLASH and are both SAID somewhere");
        KnitTreaty x = Probe.of("wide 3;queen q;clause a is knit;clause b is purl;clause c is hole;clause d is cable;"
                + "clash d c;clash b a;clash c a;row q knit purl hole;");
        Probe.ok(x, "d is not said", x.clashes(), 2);
        Probe.says("38: the first of these as 10 times the lesser and the greater (8: none)");
        Probe.ok(x, "a and b", x.firstClash(), 1);
        x.moth(0, 1);
        Probe.ok(x, "one", x.clashes(), 1);
        Probe.ok(x, "a and c", x.firstClash(), 2);
        Probe.row(x, 0, "CCC");
        x.knit(0, 0);
        Probe.ok(x, "in another ROW", x.clashes(), 2);
        x.moth(0, 0);
        Probe.ok(x, "c and d", x.firstClash(), 23);
        x.moth(0, 2);
        Probe.no(x, "none", x.firstClash(), 8);
        Probe.ok(x, "none", x.clashes(), 0);
        x = Probe.of("wide 1;queen q;clause a is knit;clause b is knit;clause c is knit;clause d is knit;clause e is knit;"
                + "clause f is knit;clash e f;row q knit;");
        Probe.ok(x, "the last two", x.firstClash(), 45);
        x.quarrel(4, 5, false);
        Probe.no(x, "no CLASH", x.firstClash(), 8);
    }

    // ---- what will be

    private static void lost() {
        Probe.says("LOST: in how many YEARS a CLAUSE is SAID nowhere first (0 to 99; 9,999 does not matter)");
        KnitTreaty x = Probe.of("wide 2;tough 50;queen q;clause a is purl;clause b is hole;clause c is knit;clause d is cable;"
                + "row q purl cable;row q knit 2;");
        Probe.ok(x, "at the last moment", x.lost(0), 50);
        Probe.ok(x, "said nowhere", x.lost(1), 0);
        x.rule(1);
        Probe.ok(x, "by the first YEAR", x.lost(0), 1);
        x.moth(0, 1);
        Probe.ok(x, "said nowhere now", x.lost(3), 0);
        Probe.ok(x, "half of it by a LADDER", x.lost(2), 1);
        Probe.no(x, "clause 4", x.lost(4), 2);
        x.darn(0, 0);
        Probe.no(x, "not in 99", x.lost(0), 8);
        x.rule(50);
        for (int i = 0; i < 101; i++) {
            x.year(99);
        }
        Probe.is("year", x.many(5), 9999);
        x.unravel();
        Probe.row(x, 0, "KH");
        x.knit(0, 0);
        Probe.ok(x, "beside a HOLE", x.lost(2), 25);
        // By 1 in each of 25 YEARS, by 2 beside what is UNDONE then.
        Probe.ok(x, "beyond 9,999", x.lost(1), 38);
        Probe.says("LOST by a LADDER");
        x = Probe.of("wide 2;tough 7;queen q;clause a is knit;row q purl hole;row q knit purl;");
        Probe.ok(x, "with the PURL beside the HOLE", x.lost(0), 4);
        Probe.says("LOST: SAID nowhere, not in one ROW alone");
        x = Probe.of("wide 2;tough 7;queen q;clause a is purl;row q purl hole;row q purl 2;");
        Probe.ok(x, "in the other ROW, too", x.lost(0), 7);
    }

    private static void undoneIn() {
        Probe.says("41: how many STITCHES are UNDONE in so many YEARS (0 to 99)");
        KnitTreaty x = Probe.of("wide 2;tough 50;queen q;row q purl 2;row q purl knit;");
        Probe.no(x, "-1", x.undoneIn(-1), 5);
        Probe.no(x, "100", x.undoneIn(100), 5);
        Probe.ok(x, "0", x.undoneIn(0), 0);
        Probe.ok(x, "49", x.undoneIn(49), 0);
        Probe.ok(x, "50", x.undoneIn(50), 4);
        Probe.ok(x, "99", x.undoneIn(99), 4);
        x.moth(0, 1);
        Probe.ok(x, "those UNDONE now, too", x.undoneIn(0), 2);
        Probe.ok(x, "beside them", x.undoneIn(24), 2);
        Probe.ok(x, "beside them", x.undoneIn(25), 4);
        x.darn(0, 0);
        Probe.ok(x, "not the DARNED", x.undoneIn(99), 3);
        Probe.is("nothing happens", x.many(5) * 10 + x.many(6), 2);
    }

    private static void firstLost() {
        Probe.says("42: of CLAUSES that are SAID the one that is LOST the soonest, of several the first (8: none is in 99)");
        String s = "wide 2;tough 50;queen q;clause a is cable;clause b is purl;clause c is knit;clause d is hole;";
        KnitTreaty x = Probe.of(s + "row q purl knit;");
        Probe.ok(x, "of two at once the first", x.firstLost(), 1);
        x.darn(0, 0);
        Probe.ok(x, "the other", x.firstLost(), 2);
        x.darn(0, 1);
        Probe.no(x, "none", x.firstLost(), 8);
        x = Probe.of(s + "row q purl 2;row q hole knit;");
        Probe.ok(x, "the soonest", x.firstLost(), 2);
        x.moth(1, 1);
        Probe.ok(x, "what is not SAID now is not asked", x.firstLost(), 3);
        x = Probe.of(s + "row q cable knit;row q knit purl;");
        Probe.ok(x, "of three at once the first", x.firstLost(), 0);
        x.darn(0, 0);
        Probe.ok(x, "of two at once the first", x.firstLost(), 1);
        x = Probe.of(s);
        Probe.no(x, "without ROWS", x.firstLost(), 8);
        x = Probe.of("wide 1;tough 1;queen q;row q purl;");
        Probe.no(x, "without CLAUSES", x.firstLost(), 8);
    }

    private static void pulled() {
        Probe.says("43: how many STITCHES would come undone by a PULL");
        String s = "wide 3;queen q;row q purl cable purl;row q knit 3;row q cable purl cable;";
        KnitTreaty x = Probe.of(s);
        Probe.ok(x, "by LADDERS, too", x.pulled(0, 0), 2);
        Probe.ok(x, "all", x.pulled(1, 1), 3);
        Probe.ok(x, "none", x.pulled(2, 0), 0);
        Probe.no(x, "row 3", x.pulled(3, 0), 2);
        Probe.no(x, "side 2", x.pulled(2, 2), 5);
        Probe.says("44: 10 times the ROW and the side, of several the least (8: no ROWS)");
        Probe.ok(x, "worst", x.worstPull(), 10);
        x.darn(1, 0);
        Probe.ok(x, "of several the least", x.worstPull(), 1);
        x.moth(1, 2);
        x.moth(1, 1);
        Probe.ok(x, "less is left", x.worstPull(), 0);
        Probe.is("nothing happens", x.many(6), 2);
        x = Probe.of("wide 1;queen q;" + Probe.times("row q cable;", 11) + "row q purl;");
        Probe.ok(x, "the last ROW", x.worstPull(), 110);
        x = Probe.of("wide 2;queen q;" + Probe.times("row q cable 2;", 11) + "row q cable purl;");
        Probe.ok(x, "the last ROW, from the right", x.worstPull(), 111);
        x.moth(11, 1);
        Probe.ok(x, "none by any", x.worstPull(), 0);
        x = Probe.of("queen q;");
        Probe.no(x, "no ROWS", x.worstPull(), 8);
    }

    private static void pulledOut() {
        Probe.says("45: CLAUSES that would be SAID nowhere any more by a PULL (and are now)");
        KnitTreaty x = Probe.of("wide 2;queen q;clause a is purl;clause b is hole;clause c is cable;clause d is knit;"
                + "row q purl hole;row q cable knit;row q purl cable;");
        Probe.ok(x, "but for what is SAID elsewhere", x.pulledOut(0, 0), 10);
        Probe.ok(x, "from the right, by a LADDER, too", x.pulledOut(0, 1), 10);
        Probe.ok(x, "none", x.pulledOut(1, 0), 0);
        Probe.ok(x, "one", x.pulledOut(1, 1), 8);
        x.moth(1, 1);
        Probe.ok(x, "what is not SAID now", x.pulledOut(1, 1), 0);
        x.moth(2, 0);
        Probe.ok(x, "what is SAID there alone", x.pulledOut(0, 0), 3);
        Probe.no(x, "row 3", x.pulledOut(3, 0), 2);
        Probe.no(x, "side -1", x.pulledOut(0, -1), 5);
        Probe.is("nothing happens", x.many(6), 2);
    }

    private static void mend() {
        Probe.says("MEND: the fewest STITCHES of that ROW that must be DARNED ahead of a PULL");
        KnitTreaty x = Probe.of("wide 8;queen q;clause a is purl purl purl purl purl;clause b is cable purl;clause c is hole;"
                + "row q purl 8;row q purl 6 cable purl;row q cable purl 7;");
        Probe.ok(x, "one", x.mend(0, 0, 0), 1);
        Probe.ok(x, "at column 0", x.mendSet(0, 0, 0), 1);
        Probe.ok(x, "one", x.mend(0, 0, 1), 1);
        Probe.ok(x, "at column 4, five are left", x.mendSet(0, 0, 1), 16);
        Probe.ok(x, "none: a CABLE holds", x.mend(0, 1, 1), 0);
        Probe.ok(x, "no set", x.mendSet(0, 1, 1), 0);
        Probe.ok(x, "the PURL behind it", x.mendSet(1, 1, 1), 128);
        Probe.ok(x, "none", x.mend(1, 1, 0), 0);
        Probe.ok(x, "none", x.mend(1, 2, 0), 0);
        Probe.ok(x, "the PURL", x.mendSet(1, 2, 1), 2);
        Probe.no(x, "not by any", x.mend(2, 0, 0), 8);
        Probe.no(x, "not by any", x.mendSet(2, 0, 0), 8);
        Probe.no(x, "clause 3", x.mend(3, 0, 0), 2);
        Probe.no(x, "row 3", x.mendSet(0, 3, 0), 2);
        Probe.no(x, "side 2", x.mend(0, 0, 2), 5);
        Probe.no(x, "side -1", x.mendSet(0, 0, -1), 5);
        Probe.says("MEND of what is all UNDONE");
        for (int c = 0; c < 8; c++) {
            x.moth(0, c);
        }
        Probe.ok(x, "five", x.mend(0, 0, 1), 5);
        Probe.ok(x, "the first five", x.mendSet(0, 0, 1), 31);
        Probe.ok(x, "five", x.mend(0, 0, 0), 5);
        Probe.ok(x, "the first five", x.mendSet(0, 0, 0), 31);
        x.darn(0, 6);
        Probe.ok(x, "what is DARNED counts no more", x.mend(0, 0, 0), 4);
        Probe.ok(x, "2 to 5", x.mendSet(0, 0, 0), 60);
        Probe.is("nothing happens", x.many(6) * 10 + x.many(7), 71);
    }

    private static void mendTies() {
        Probe.says("MEND: of several sets the least as a number (1 for column 0 ..)");
        KnitTreaty x = Probe.of("wide 6;queen q;clause a is purl hole;row q purl hole purl hole purl hole;");
        Probe.ok(x, "from the left", x.mendSet(0, 0, 0), 1);
        Probe.ok(x, "from the right", x.mendSet(0, 0, 1), 2);
        x.moth(0, 0);
        Probe.ok(x, "from the left what is DARNED is whole again", x.mendSet(0, 0, 0), 1);
        Probe.ok(x, "from the right", x.mendSet(0, 0, 1), 8);
        x.moth(0, 2);
        x.moth(0, 5);
        Probe.ok(x, "one, though its number is the greatest", x.mend(0, 0, 1), 1);
        Probe.ok(x, "the last column", x.mendSet(0, 0, 1), 32);
        x.moth(0, 4);
        Probe.ok(x, "two", x.mend(0, 0, 1), 2);
        Probe.ok(x, "0 and 1 rather than 2 and 3, 4 and 5", x.mendSet(0, 0, 1), 3);
        Probe.ok(x, "one", x.mendSet(0, 0, 0), 1);
        Probe.says("MEND: the CLAUSE is SAID in that ROW behind it");
        x = Probe.of("wide 2;queen q;clause a is purl;row q cable hole;row q purl 2;");
        Probe.no(x, "not in another ROW", x.mend(0, 0, 0), 8);
        Probe.says("MEND: LADDERS of the PULL count, too");
        x = Probe.of("wide 2;queen q;clause a is knit;row q cable purl;");
        x.moth(0, 0);
        Probe.row(x, 0, "KP");
        x.knit(0, 0);
        Probe.ok(x, "the LADDER set off by the PURL", x.mendSet(0, 1, 1), 1);
    }

    // ---- bargains

    private static void shortest() {
        Probe.says("48: the shortest run of KINDS in which each of them stands somewhere");
        KnitTreaty x = Probe.of("wide 5;clause a is knit purl;clause b is purl knit;clause c is knit purl knit;"
                + "clause d is knit purl;clause e is purl purl;clause f is hole;");
        Probe.ok(x, "of none", x.shortest(0), 0);
        Probe.no(x, "of none there is no place 0", x.shortestAt(0, 0), 8);
        Probe.ok(x, "one", x.shortest(32), 1);
        Probe.ok(x, "its KIND", x.shortestAt(32, 0), 3);
        Probe.no(x, "place 1", x.shortestAt(32, 1), 8);
        Probe.no(x, "place -1", x.shortestAt(32, -1), 8);
        Probe.ok(x, "like ones", x.shortest(9), 2);
        Probe.ok(x, "one within another", x.shortest(7), 3);
        run(x, 7, "010");
        Probe.says("SHORTEST: of several the first by KINDS");
        run(x, 3, "010");
        run(x, 33, "013");
        run(x, 34, "103");
        run(x, 17, "011");
        run(x, 18, "110");
        run(x, 19, "0110");
        run(x, 51, "01103");
        Probe.says("48: (5): a set with what there is none of");
        Probe.no(x, "64", x.shortest(64), 5);
        Probe.no(x, "-1", x.shortest(-1), 5);
        Probe.no(x, "65", x.shortestAt(65, 0), 5);
        Probe.no(x, "5 ahead of 8", x.shortestAt(64, 99), 5);
        x = new KnitTreaty();
        Probe.ok(x, "without CLAUSES", x.shortest(0), 0);
        Probe.no(x, "without CLAUSES", x.shortest(1), 5);
    }

    private static void shortestOfMany() {
        Probe.says("SHORTEST of six that have nothing in common");
        KnitTreaty x = Probe.of("clause a is hole hole hole hole hole;clause b is cable cable cable cable cable;"
                + "clause c is purl purl purl purl purl;clause d is knit knit knit knit knit;"
                + "clause e is hole purl hole purl purl;clause f is cable knit cable cable knit;");
        run(x, 15, "00000111112222233333");
        Probe.no(x, "no 21st", x.shortestAt(15, 20), 8);
        // CCCCC, CKCCK, KKKKK share one by one, HHHHH, HPHPP, PPPPP one and two; the blocks nothing.
        run(x, 63, "2222" + "20220" + "0000" + "3333" + "31311" + "111");
        Probe.says("SHORTEST of one is the CLAUSE itself");
        run(x, 16, "31311");
        run(x, 32, "20220");
    }

    private static void shortestUnlike() {
        Probe.says("SHORTEST of CLAUSES as long as can be and as short as can be");
        KnitTreaty x = Probe.of("wide 8;clause a is knit knit knit knit knit;clause b is purl;clause c is purl purl knit;"
                + "clause d is hole knit knit;clause e is knit knit purl purl purl;clause f is knit;");
        run(x, 3, "000001");
        run(x, 5, "1100000");
        run(x, 9, "300000");
        run(x, 33, "00000");
        run(x, 34, "01");
        run(x, 17, "00000111");
        run(x, 21, "000001110");
        run(x, 25, "300000111");
        run(x, 6, "110");
        run(x, 24, "300111");
        run(x, 28, "3001110");
        run(x, 63, "3000001110");
    }

    private static void run(KnitTreaty x, int set, String want) {
        Probe.ok(x, "length of " + set, x.shortest(set), want.length());
        for (int k = 0; k < want.length(); k++) {
            Probe.ok(x, "place " + k + " of " + set, x.shortestAt(set, k), want.charAt(k) - '0');
        }
    }

    private static void wins() {
        Probe.says("50: GIVES less COSTS; STATUS tells NONE from -1");
        String s = "queen q;queen r;queen s;";
        StringBuilder b = new StringBuilder(s);
        for (int i = 0; i < 6; i++) {
            char c = (char) ('a' + i);
            b.append("clause ").append(c).append(" is knit;gives q ").append(c).append(" 99;costs r ").append(c).append(" 99;");
        }
        KnitTreaty x = Probe.of(b + "gives s a 4;costs s a 5;");
        Probe.ok(x, "the most", x.wins(0, 63), 594);
        Probe.ok(x, "the least", x.wins(1, 63), -594);
        Probe.ok(x, "-1", x.wins(2, 1), -1);
        Probe.ok(x, "of none", x.wins(1, 0), 0);
        Probe.ok(x, "of one", x.wins(0, 32), 99);
        Probe.no(x, "set 64", x.wins(0, 64), 5);
        Probe.no(x, "set -1", x.wins(0, -1), 5);
        Probe.no(x, "queen 3", x.wins(3, 0), 2);
        Probe.ok(x, "no bargain", x.bargain(), 0);
        Probe.ok(x, "no worth", x.bargainWorth(), 0);
        Probe.ok(x, "just the set of none", x.stables(), 1);
    }

    private static void bargain() {
        Probe.says("BARGAIN: by which no QUEEN loses (GIVES no less than COSTS, together)");
        String s = "queen q;queen r;clause a is knit;clause b is purl;clause c is hole;";
        KnitTreaty x = Probe.of(s + "gives q a 9;costs r a 3;gives r b 3;costs q b 8;");
        Probe.ok(x, "one loses by each, none by both", x.bargain(), 3);
        Probe.ok(x, "worth", x.bargainWorth(), 1);
        x.value(1, 1, 0, 2);
        Probe.ok(x, "now she loses by 1", x.bargain(), 0);
        Probe.ok(x, "worth", x.bargainWorth(), 0);
        Probe.says("BARGAIN: of which no two CLASH");
        x = Probe.of(s + "gives q a 5;gives q b 6;gives r c 7;clash a b;clash b c;");
        Probe.ok(x, "a and c", x.bargain(), 5);
        Probe.ok(x, "worth", x.bargainWorth(), 12);
        x.quarrel(0, 2, true);
        Probe.ok(x, "c", x.bargain(), 4);
        x.quarrel(0, 1, false);
        Probe.ok(x, "a and b", x.bargain(), 3);
        Probe.ok(x, "worth", x.bargainWorth(), 11);
        Probe.says("BARGAIN: all QUEENS together win the most");
        x = Probe.of(s + "gives q a 9;costs r a 2;gives r b 5;costs r c 3;gives q c 3;");
        Probe.ok(x, "a and b", x.bargain(), 3);
        Probe.ok(x, "worth", x.bargainWorth(), 12);
    }

    private static void bargainTies() {
        Probe.says("BARGAIN: of several the least as a number (perhaps no CLAUSE)");
        String s = "queen q;clause a is knit;clause b is purl;clause c is hole;";
        KnitTreaty x = Probe.of(s);
        Probe.ok(x, "nothing is worth anything", x.bargain(), 0);
        x.value(0, 1, 0, 4);
        Probe.ok(x, "not with what is worth nothing", x.bargain(), 2);
        x.value(0, 2, 0, 4);
        x.quarrel(1, 2, true);
        Probe.ok(x, "the lesser of two", x.bargain(), 2);
        x.value(0, 2, 0, 5);
        Probe.ok(x, "the better of two", x.bargain(), 4);
        x.value(0, 0, 0, 1);
        x.value(0, 0, 1, 1);
        Probe.ok(x, "GIVES as much as it COSTS", x.bargain(), 4);
        Probe.ok(x, "worth", x.bargainWorth(), 5);
        x = Probe.of("clause a is knit;clause b is purl;");
        Probe.ok(x, "without QUEENS", x.bargain(), 0);
        Probe.ok(x, "without QUEENS", x.bargainWorth(), 0);
        x = Probe.of("queen q;");
        Probe.ok(x, "without CLAUSES", x.bargain(), 0);
        x = Probe.of(s + "clause d is hole;clause e is knit;clause f is knit;gives q f 1;gives q a 1;gives q e 2;");
        Probe.ok(x, "the last of all", x.bargain(), 49);
        Probe.ok(x, "worth", x.bargainWorth(), 4);
    }

    private static void losers() {
        Probe.says("BARGAIN, STABLE: no QUEEN loses, the first or the last, by 1 or more");
        for (int loser = 0; loser < 4; loser++) {
            for (int much = 1; much < 100; much += 98) {
                KnitTreaty x = Probe.of("queen q;queen r;queen s;queen t;clause a is knit;clause b is purl;");
                for (int q = 0; q < 4; q++) {
                    x.value(q, 0, q == loser ? 1 : 0, q == loser ? much : 99);
                }
                Probe.ok(x, "no CLAUSE by which she loses", x.bargain(), 0);
                Probe.ok(x, "none", x.bargainWorth(), 0);
                Probe.ok(x, "not stable", x.stable(1), 0);
                Probe.ok(x, "none and the other", x.stables(), 2);
                x.value(loser, 1, 0, much - 1);
                Probe.ok(x, "1 too little", x.bargain(), much == 1 ? 0 : 2);
                x.value(loser, 1, 0, much);
                Probe.ok(x, "no less than it COSTS", x.bargain(), 3);
                Probe.ok(x, "worth", x.bargainWorth(), 297);
                Probe.ok(x, "she would win more by one less", x.stable(3), 0);
                Probe.ok(x, "the other", x.stable(2), 1);
                Probe.ok(x, "none and the other", x.stables(), 2);
                x.value(loser, 0, 0, much);
                Probe.ok(x, "she would win as much", x.stable(3), 1);
            }
        }
    }

    private static void stable() {
        Probe.says("STABLE: without CLASHES, by which no QUEEN loses");
        String s = "queen q;queen r;clause a is knit;clause b is purl;clause c is hole;";
        KnitTreaty x = Probe.of(s + "clash a b;gives q a 3;costs q c 0;gives r c 1;costs r c 2;");
        Probe.ok(x, "none", x.stable(0), 1);
        Probe.ok(x, "a", x.stable(1), 1);
        Probe.ok(x, "b is worth nothing", x.stable(2), 1);
        Probe.ok(x, "they CLASH", x.stable(3), 0);
        Probe.ok(x, "r loses", x.stable(4), 0);
        Probe.ok(x, "how many", x.stables(), 3);
        Probe.says("STABLE: no QUEEN would win more by any one CLAUSE less");
        x.value(1, 0, 0, 9);
        Probe.ok(x, "r does not lose by both", x.stable(5), 0);
        x.value(1, 2, 0, 2);
        Probe.ok(x, "she would win as much", x.stable(5), 1);
        Probe.ok(x, "how many", x.stables(), 6);
        x.quarrel(0, 1, false);
        Probe.ok(x, "how many", x.stables(), 8);
        Probe.no(x, "set 8", x.stable(8), 5);
        Probe.no(x, "set -1", x.stable(-1), 5);
        x = Probe.of("clause a is knit;clause b is purl;clause c is hole;clause d is hole;clause e is hole;clause f is hole;");
        Probe.ok(x, "without QUEENS all", x.stables(), 64);
        x.quarrel(4, 5, true);
        Probe.ok(x, "but those with both", x.stables(), 48);
        Probe.ok(x, "both", x.stable(48), 0);
        Probe.no(x, "set 64", x.stable(64), 5);
        x = new KnitTreaty();
        Probe.ok(x, "without CLAUSES", x.stables(), 1);
        Probe.no(x, "without CLAUSES", x.stable(1), 5);
    }

    // ---- half-seen rows

    private static void fills() {
        Probe.says("FILLS: in how many ways what is not known can be so that the CLAUSE stands in it somewhere");
        KnitTreaty x = Probe.of("wide 8;clause a is knit;clause b is knit knit knit knit knit;clause c is purl knit;"
                + "clause d is knit purl knit;");
        Probe.row(x, 0, "********");
        Probe.ok(x, "one KIND", x.fills(0, 0), 65536 - 6561);
        // Places 0 to 3; each but the first with another KIND ahead of it.
        Probe.ok(x, "five of one KIND", x.fills(1, 0), 64 + 3 * 3 * 16);
        Probe.says("FILLS of what is all known");
        Probe.row(x, 0, "PPPPPPPK");
        Probe.ok(x, "at the last column", x.fills(2, 0), 1);
        Probe.ok(x, "nowhere", x.fills(1, 0), 0);
        Probe.row(x, 0, "PKPPPPPP");
        Probe.ok(x, "at the first column", x.fills(2, 0), 1);
        Probe.row(x, 0, "CHCH*HCH");
        Probe.ok(x, "one way", x.fills(0, 0), 1);
        Probe.ok(x, "no way", x.fills(2, 0), 0);
        Probe.row(x, 0, "KPKPP**C");
        Probe.ok(x, "it stands there anyway", x.fills(3, 0), 16);
        Probe.row(x, 0, "KP*PKHHC");
        Probe.ok(x, "twice over one another is one way", x.fills(3, 0), 1);
        Probe.says("56: the part of FILLS in all ways in which what is not known can be");
        Probe.ok(x, "chance", x.chance(3, 0));
        Probe.is("1 by 4", x.top() * 10 + x.bottom(), 14);
        Probe.row(x, 0, "********");
        x.chance(0, 0);
        Probe.is("top", x.top(), 58975);
        Probe.is("bottom", x.bottom(), 65536);
        x.chance(1, 0);
        Probe.is("208 by 65536: top", x.top(), 13);
        Probe.is("208 by 65536: bottom", x.bottom(), 4096);
        Probe.row(x, 0, "KKKKKKKK");
        x.chance(0, 0);
        Probe.is("1 by 1", x.top() * 10 + x.bottom(), 11);
        x.chance(2, 0);
        Probe.is("0 by 1", x.top() * 10 + x.bottom(), 1);
    }

    private static void fillsAnew() {
        Probe.says("the CLAUSE stands in it somewhere: begun anew within itself");
        KnitTreaty x = Probe.of("wide 8;clause a is purl knit purl;clause b is purl knit purl knit cable;"
                + "clause c is purl purl cable;clause d is hole hole knit hole hole;");
        String[] runs = {"PPKPCCCC", "PKKPPKPC", "PKPKPKCC", "PPPKPKCP", "PPPPCPPP", "HHHKHHKP", "HHKHKHHP", "HHKHHKHH"};
        int[] due = {1, 1, 3, 3, 4, 8, 0, 8};
        for (int i = 0; i < runs.length; i++) {
            Probe.row(x, 0, runs[i]);
            for (int c = 0; c < 4; c++) {
                Probe.ok(x, c + " in " + runs[i], x.fills(c, 0), due[i] >> c & 1);
            }
        }
        Probe.says("FILLS, counted one by one");
        x = Probe.of("wide 4;clause a is purl knit purl;clause b is cable cable;clause c is hole;clause d is knit knit knit;");
        Probe.row(x, 0, "****");
        Probe.ok(x, "two places, both at once never", x.fills(0, 0), 8);
        Probe.ok(x, "three places of 16, less 4 + 4 + 1, more 1", x.fills(1, 0), 40);
        Probe.ok(x, "256 less 81", x.fills(2, 0), 175);
        Probe.ok(x, "two places of 4, less 1", x.fills(3, 0), 7);
    }

    private static void seenNumbers() {
        Probe.says("55: among the first, as many as WIDE, neither a KIND nor -1 (5)");
        KnitTreaty x = Probe.of("wide 2;clause a is knit purl;");
        x.tray(0, 3, 3);
        x.write(0, 2, 99);
        Probe.ok(x, "what is behind does not matter", x.fills(0, 0), 0);
        x.write(0, 1, -1);
        Probe.ok(x, "-1", x.fills(0, 0), 1);
        Probe.no(x, "-1", x.look(0, 0), 8);
        x.write(0, 0, -1);
        Probe.ok(x, "both -1", x.fills(0, 0), 1);
        x.write(0, 1, 4);
        Probe.no(x, "the last of them", x.fills(0, 0), 5);
    }

    private static void look() {
        Probe.says("LOOK: of what is not known the column by which the greatest number of FILLS with one KIND is the least");
        KnitTreaty x = Probe.of("wide 3;clause a is knit purl;clause b is hole;");
        Probe.row(x, 0, "***");
        // KP? and ?KP: column 0 has KNIT five times, 1 PURL or KNIT four times, 2 PURL five times.
        Probe.ok(x, "the middle", x.look(0, 0), 1);
        Probe.says("LOOK: of several the first");
        Probe.ok(x, "each alike", x.look(1, 0), 0);
        Probe.row(x, 0, "P**");
        Probe.ok(x, "of what is not known", x.look(1, 0), 1);
        Probe.row(x, 0, "**P");
        Probe.ok(x, "the first", x.look(0, 0), 0);
        Probe.row(x, 0, "KP*");
        Probe.ok(x, "the last", x.look(0, 0), 2);
        Probe.row(x, 0, "H**");
        Probe.ok(x, "all are FILLS", x.look(1, 0), 1);
        Probe.says("LOOK: none if there are not two FILLS");
        Probe.row(x, 0, "HK*");
        Probe.no(x, "one", x.look(0, 0), 8);
        Probe.row(x, 0, "HHH");
        Probe.no(x, "one, all known", x.look(1, 0), 8);
        Probe.no(x, "none", x.look(0, 0), 8);
        Probe.row(x, 0, "P*P");
        Probe.no(x, "one", x.look(0, 0), 8);
        Probe.row(x, 0, "*KP");
        Probe.ok(x, "four", x.look(0, 0), 0);
        Probe.row(x, 0, "*PP");
        Probe.no(x, "one", x.look(0, 0), 8);
        Probe.says("LOOK: two FILLS");
        x = Probe.of("wide 4;clause a is knit purl;");
        Probe.row(x, 0, "HK*P");
        // HKPP, HKKP
        Probe.ok(x, "two", x.look(0, 0), 2);
        Probe.ok(x, "two", x.fills(0, 0), 2);
    }

    private static void lookByEach() {
        Probe.says("LOOK: the greatest number of FILLS with one KIND, whichever that is");
        String[] kinds = {"knit", "purl", "cable", "hole"};
        String letters = "KPCH";
        for (int k = 0; k < 4; k++) {
            KnitTreaty x = Probe.of("wide 3;clause a is " + kinds[k] + " " + kinds[k] + ";");
            Probe.row(x, 0, "***");
            // Of the 7 FILLS all have it in the middle, 4 at each end.
            Probe.ok(x, "an end", x.look(0, 0), 0);
            Probe.row(x, 0, "*" + letters.charAt(k) + "*");
            Probe.ok(x, "an end", x.look(0, 0), 0);
            Probe.row(x, 0, letters.charAt(k) + "**");
            // The middle has it four times, the end it two times.
            Probe.ok(x, "the end", x.look(0, 0), 2);
            for (int c = 0; c < 4; c++) {
                Probe.row(x, 0, letters.charAt(k) + "" + letters.charAt(k) + "*");
                Probe.no(x, "each KIND once", x.sure(0, 0, 2), 8);
                Probe.ok(x, "each KIND once", x.look(0, 0), 2);
            }
            Probe.row(x, 0, letters.charAt(3 - k) + "**");
            Probe.ok(x, "it", x.sure(0, 0, 1), k);
            Probe.ok(x, "it", x.sure(0, 0, 2), k);
        }
    }

    private static void sure() {
        Probe.says("58: the KIND that a column has in all FILLS (8: no FILLS, or not the same one)");
        KnitTreaty x = Probe.of("wide 3;clause a is knit purl;clause b is hole hole hole;clause c is cable;");
        Probe.row(x, 0, "*H*");
        Probe.ok(x, "all", x.sure(1, 0, 0), 3);
        Probe.ok(x, "what is known", x.sure(1, 0, 1), 3);
        Probe.ok(x, "all", x.sure(1, 0, 2), 3);
        Probe.no(x, "no FILLS", x.sure(0, 0, 0), 8);
        Probe.no(x, "no FILLS, of what is known", x.sure(0, 0, 1), 8);
        Probe.row(x, 0, "*K*");
        Probe.no(x, "four", x.sure(0, 0, 0), 8);
        Probe.ok(x, "the last column", x.sure(0, 0, 2), 1);
        Probe.no(x, "column 3", x.sure(0, 0, 3), 2);
        Probe.no(x, "column -1", x.sure(0, 0, -1), 2);
        Probe.row(x, 0, "KP*");
        for (int c = 0; c < 2; c++) {
            Probe.ok(x, "known", x.sure(0, 0, c), c);
        }
        Probe.no(x, "any", x.sure(0, 0, 2), 8);
        Probe.row(x, 0, "*PK");
        Probe.ok(x, "KNIT", x.sure(0, 0, 0), 0);
        Probe.row(x, 0, "*PC");
        Probe.ok(x, "CABLE or not: known", x.sure(2, 0, 2), 2);
        Probe.no(x, "CABLE or not", x.sure(2, 0, 0), 8);
        Probe.row(x, 0, "PHC");
        Probe.ok(x, "all known", x.sure(2, 0, 0), 1);
    }
}
