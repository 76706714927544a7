import java.util.ArrayList;
import java.util.Collections;
import java.util.List;

/** Numbers that are easily taken for one another are unlike here, so that a mix-up shows. */
public final class UnlikeTest {
    private static final String LETTERS = "KPCH";
    private static final String[] KINDS = {"knit", "purl", "cable", "hole"};

    public static void main(String[] args) {
        pours();
        copies();
        toughBelowWide();
        toughAboveWide();
        couplesAlone();
        bargainsOfAllSets();
        meanOfWhatIsThere();
        anew();
        looksOfMany();
        alikeClauses();
        shortestOfAllSets();
        Probe.finish("what is unlike");
    }

    /** A text's KINDS for letters. */
    private static String kinds(String letters) {
        StringBuilder b = new StringBuilder();
        for (char c : letters.toCharArray()) {
            b.append(' ').append(KINDS[LETTERS.indexOf(c)]);
        }
        return b.toString();
    }

    private static void pours() {
        Probe.says("8: from each TRAY to each");
        for (int from = 0; from < 4; from++) {
            for (int to = 0; to < 4; to++) {
                KnitTreaty x = new KnitTreaty();
                for (int t = 0; t < 4; t++) {
                    x.tray(t, 1, 6);
                    for (int p = 0; p < 6; p++) {
                        x.write(t, p, 100 * t + p);
                    }
                }
                Probe.ok(x, "pour of " + from + " to " + to, x.pour(from, 1, to, 3, 2));
                for (int t = 0; t < 4; t++) {
                    for (int p = 0; p < 6; p++) {
                        boolean poured = t == to && (p == 3 || p == 4);
                        Probe.ok(x, "tray " + t + " place " + p, x.read(t, p), poured ? 100 * from + p - 2 : 100 * t + p);
                    }
                }
            }
        }
    }

    private static void copies() {
        Probe.says("21: the KINDS of each ROW to each TRAY");
        KnitTreaty x = Probe.of("wide 3;queen q;row q" + kinds("KPC") + ";row q" + kinds("HHK") + ";row q" + kinds("PCH")
                + ";row q" + kinds("CKP") + ";row q" + kinds("PPP") + ";");
        String[] rows = {"KPC", "HHK", "PCH", "CKP", "PPP"};
        for (int row = 0; row < 5; row++) {
            for (int tray = 0; tray < 4; tray++) {
                x.tray(tray, tray, 4);
                x.write(tray, 3, 77);
                Probe.ok(x, "row " + row + " to " + tray, x.copyRow(row, tray), 3);
                for (int c = 0; c < 3; c++) {
                    Probe.is("column " + c, x.read(tray, c), LETTERS.indexOf(rows[row].charAt(c)));
                }
                Probe.is("what is behind stays", x.read(tray, 3), 77);
            }
        }
    }

    // ---- TOUGH and WIDE

    private static void toughBelowWide() {
        Probe.says("TOUGH 1, WIDE 8");
        KnitTreaty x = Probe.of("wide 8;tough 1;queen q;clause a is" + kinds("CP") + ";clause b is" + kinds("KPP")
                + ";row q" + kinds("PPPPKKCP") + ";row q" + kinds("PPPPPKPP") + ";");
        Probe.ok(x, "firstSaid", x.firstSaid(0), 6);
        Probe.ok(x, "firstSaid", x.firstSaid(1), 15);
        Probe.ok(x, "pulled", x.pulled(0, 0), 7);
        Probe.ok(x, "mend", x.mend(1, 1, 0), 1);
        Probe.ok(x, "mendSet", x.mendSet(1, 1, 0), 1);
        Probe.ok(x, "mendSet from the other side", x.mendSet(1, 1, 1), 128);
        Probe.ok(x, "a CABLE that holds for it", x.mend(0, 0, 0), 0);
        Probe.ok(x, "mendSet from the other side", x.mendSet(0, 0, 1), 128);
        Probe.ok(x, "lost", x.lost(0), 1);
        Probe.ok(x, "undoneIn", x.undoneIn(1), 16);
        Probe.ok(x, "many", x.many(0) * 100 + x.many(1), 801);
    }

    private static void toughAboveWide() {
        Probe.says("TOUGH 9, WIDE 2, seven ROWS");
        KnitTreaty x = Probe.of("wide 2;tough 9;queen q;clause a is hole;" + Probe.times("row q purl 2;", 6) + "row q purl hole;");
        Probe.ok(x, "firstSaid", x.firstSaid(0), 61);
        Probe.ok(x, "mendSet", x.mendSet(0, 6, 1), 2);
        for (int row = 0; row < 2; row++) {
            x.darn(row, 0);
            x.darn(row, 1);
        }
        Probe.ok(x, "the first ROWS are DARNED: the others wear", x.year(5), 1);
        Probe.shows(x, 6, ".H");
        Probe.worn(x, 5, 5, 5);
        Probe.worn(x, 1, 0, 0);
        x.darn(2, 1);
        Probe.ok(x, "and on", x.year(4), 8);
        Probe.shows(x, 2, ".p");
    }

    // ---- CLASHES

    private static void couplesAlone() {
        Probe.says("37, 38: each couple by itself");
        StringBuilder b = new StringBuilder("wide 6;queen q;");
        String[] runs = {"K", "P", "C", "H", "KP", "CH"};
        for (int c = 0; c < 6; c++) {
            b.append("clause c").append((char) ('a' + c)).append(" is").append(kinds(runs[c])).append(';');
        }
        b.append("row q").append(kinds("KPCHHH")).append(';');
        for (int i = 0; i < 6; i++) {
            for (int j = i + 1; j < 6; j++) {
                KnitTreaty x = Probe.of(b.toString());
                x.quarrel(j, i, true);
                Probe.ok(x, "clashes of " + i + " and " + j, x.clashes(), 1);
                Probe.ok(x, "firstClash", x.firstClash(), 10 * i + j);
                int[] due = new int[64];
                int free = 0;
                for (int set = 0; set < 64; set++) {
                    due[set] = (set >> i & set >> j & 1) == 1 ? 0 : 1;
                    free += due[set];
                    Probe.ok(x, "stable " + set, x.stable(set), due[set]);
                }
                Probe.ok(x, "stables", x.stables(), free);
            }
        }
        KnitTreaty x = Probe.of(b.toString());
        x.quarrel(2, 3, true);
        x.quarrel(1, 5, true);
        x.quarrel(4, 5, true);
        Probe.ok(x, "three", x.clashes(), 3);
        Probe.ok(x, "the first", x.firstClash(), 15);
    }

    private static void bargainsOfAllSets() {
        Probe.says("51, 52: BARGAIN, each set once");
        StringBuilder b = new StringBuilder("wide 5;queen p;queen q;");
        for (int c = 0; c < 6; c++) {
            b.append("clause c").append((char) ('a' + c)).append(" is hole;");
        }
        for (int eighth = 0; eighth < 8; eighth++) {
            KnitTreaty x = Probe.of(b.toString());
            for (int set = 8 * eighth; set < 8 * eighth + 8; set++) {
                int worth = 0;
                for (int c = 0; c < 6; c++) {
                    boolean in = (set >> c & 1) == 1;
                    x.value(1, c, 0, in ? c + 3 : 2);
                    x.value(1, c, 1, in ? 2 : c + 3);
                    worth += in ? c + 1 : 0;
                }
                Probe.ok(x, "bargain", x.bargain(), set);
                Probe.ok(x, "bargainWorth", x.bargainWorth(), worth);
                Probe.ok(x, "stable", x.stable(set), 1);
                Probe.ok(x, "stables", x.stables(), 1 << Integer.bitCount(set));
                Probe.ok(x, "wins", x.wins(1, set), worth);
                Probe.ok(x, "the other one wins nothing", x.wins(0, set), 0);
            }
        }
    }

    // ---- what is there, and what was

    private static void meanOfWhatIsThere() {
        Probe.says("61: behind the CENTURIES, of the TREATY, that are there");
        KnitTreaty x = Probe.of("wide 3;queen q;clause a is purl;row q purl 3;");
        Probe.centuries(x, "moth 0 0;");
        x.mark();
        Probe.centuries(x, "moth 0 0;moth 0 1;");
        Probe.ok(x, "mean", x.mean(0, 3));
        Probe.is("two", x.top() * 10 + x.bottom(), 21);
        x.back();
        Probe.ok(x, "mean", x.mean(0, 3));
        Probe.is("one, as was kept", x.top() * 10 + x.bottom(), 11);
        Probe.tape(x, "year 1;?");
        x.centuries(8);
        Probe.ok(x, "mean", x.mean(0, 3));
        Probe.is("one, as ahead of the FAULT", x.top() * 10 + x.bottom(), 11);
        Probe.tape(x, "wide 8;clause b is hole;queen z;row z hole 8;?");
        x.treaty(46);
        Probe.is("a FAULT", x.fault(0) * 100 + x.fault(1), 145);
        Probe.ok(x, "mean", x.mean(0, 3));
        Probe.is("one, as ahead of the FAULT in a TREATY", x.top() * 10 + x.bottom(), 11);
        Probe.treaty(x, "wide 2;queen q;clause a is cable;row q cable 2;");
        Probe.centuries(x, "when said a;moth 0 0;moth 0 1;end;");
        Probe.ok(x, "mean", x.mean(0, 20));
        Probe.is("by the new CLAUSE", x.top() * 10 + x.bottom(), 21);
        Probe.ok(x, "all stays", x.many(6), 0);
        Probe.ok(x, "live", x.live(0), 3);
        Probe.ok(x, "as one that lives it", x.many(6), 2);
    }

    /** A piece on which others lay before is as one on a new object. */
    private static void anew() {
        Probe.says("a TREATY that is taken: nothing is worn, undone, darned; YEAR 0; no CENTURIES");
        String[] small = {"wide 3;tough 4;queen q;clause a is purl;row q purl 3;row q purl hole purl;row q knit 3;row q purl 3;",
            "wide 1;tough 4;queen q;clause a is purl;" + Probe.times("row q purl;", 7),
            "wide 8;tough 4;queen q;clause a is hole purl;row q hole purl 6 hole;row q knit 8;", "wide 2;tough 3;"};
        for (String s : small) {
            for (int column = 0; column < 4; column++) {
                KnitTreaty x = used(column);
                Probe.ok(x, "a TREATY in its place", Probe.treaty(x, s), Probe.of(s).many(4));
                KnitTreaty twin = Probe.of(s);
                Probe.no(x, "no CENTURIES", x.live(0), 8);
                for (int row = 0; row < twin.many(4) - 1; row++) {
                    darnRow(x, row);
                    darnRow(twin, row);
                    sameYears(x, twin, s);
                }
                x.year(1);
                twin.year(1);
                sameYears(x, twin, s);
            }
        }
    }

    /** An object whose rooms have all been used: by pieces WORN, UNDONE and from a column on DARNED. */
    private static KnitTreaty used(int column) {
        String s = "wide 8;tough 9;queen q;clause a is purl;" + Probe.times("row q purl 8;", 12);
        KnitTreaty x = new KnitTreaty();
        for (int i = 0; i < 2; i++) {
            Probe.treaty(x, s);
            x.year(3);
            for (int row = 0; row < 12; row++) {
                for (int c = column; c < 8; c++) {
                    x.darn(row, c);
                }
                if (column > 0) {
                    x.moth(row, 0);
                }
            }
        }
        Probe.centuries(x, "year 2;stop;");
        return x;
    }

    private static void darnRow(KnitTreaty x, int row) {
        for (int c = 0; c < 8; c++) {
            x.darn(row, c);
        }
    }

    private static void sameYears(KnitTreaty x, KnitTreaty twin, String s) {
        for (int years = 0; years < 6; years++) {
            Probe.is("undoneIn " + years + " of " + s, x.undoneIn(years), twin.undoneIn(years));
        }
        Probe.is("lost of " + s, x.lost(0), twin.lost(0));
        Probe.is("firstLost of " + s, x.firstLost(), twin.firstLost());
        for (int what = 0; what < 10; what++) {
            Probe.is("many " + what + " of " + s, x.many(what), twin.many(what));
        }
    }

    // ---- half-seen

    private static void looksOfMany() {
        Probe.says("57: the greatest number of FILLS with one and the same KIND is the least, among thousands");
        for (int wide = 1; wide <= 8; wide++) {
            KnitTreaty x = Probe.of("wide " + wide + ";clause a is hole;");
            Probe.row(x, 2, Probe.times("*", wide));
            int all = 1;
            int without = 1;
            for (int c = 0; c < wide; c++) {
                all *= 4;
                without *= 3;
            }
            Probe.ok(x, "fills of " + wide, x.fills(0, 2), all - without);
            if (wide == 1) {
                Probe.no(x, "one FILL", x.look(0, 2), 8);
                Probe.ok(x, "sure", x.sure(0, 2, 0), 3);
            } else {
                Probe.ok(x, "look of " + wide, x.look(0, 2), 0);
                Probe.no(x, "sure", x.sure(0, 2, 0), 8);
            }
        }
        KnitTreaty x = Probe.of("wide 8;clause a is" + kinds("HP") + ";");
        Probe.row(x, 3, "********");
        // HOLE stands in so many runs of eight with HP in them: the most at either end, the least in the middle.
        int best = 0;
        int least = Integer.MAX_VALUE;
        for (int c = 0; c < 8; c++) {
            int most = 0;
            for (char k : LETTERS.toCharArray()) {
                Probe.row(x, 1, Probe.times("*", c) + k + Probe.times("*", 7 - c));
                most = Math.max(most, x.fills(0, 1));
            }
            if (most < least) {
                least = most;
                best = c;
            }
        }
        Probe.ok(x, "look as counted by FILLS", x.look(0, 3), best);
    }

    // ---- SHORTEST

    private static void alikeClauses() {
        Probe.says("48: CLAUSES that are alike, or stand in one another, wherever they are numbered");
        String[] runs = {"KP", "PH", "PH", "CKP", "PH", "KP"};
        StringBuilder b = new StringBuilder("wide 6;");
        for (int c = 0; c < 6; c++) {
            b.append("clause c").append((char) ('a' + c)).append(" is").append(kinds(runs[c])).append(';');
        }
        KnitTreaty x = Probe.of(b.toString());
        for (int i = 0; i < 6; i++) {
            for (int j = i; j < 6; j++) {
                String one = runs[i];
                String other = runs[j];
                String want = one.contains(other) ? one : other.contains(one) ? other
                        : one.endsWith("P") ? one + "H" : other + "H";
                shortest(x, 1 << i | 1 << j, want);
            }
        }
        shortest(x, 63, "CKPH");
        shortest(x, 63 - 8, "KPH");
    }

    private static void shortest(KnitTreaty x, int set, String want) {
        Probe.ok(x, "shortest " + set, x.shortest(set), want.length());
        StringBuilder b = new StringBuilder();
        for (int k = 0; k < want.length(); k++) {
            int kind = x.shortestAt(set, k);
            b.append(kind < 0 || kind > 3 ? '?' : LETTERS.charAt(kind));
        }
        Probe.is("shortest " + set + " is " + b + ", due is " + want, b.toString().equals(want) ? 1 : 0, 1);
        Probe.no(x, "nothing behind", x.shortestAt(set, want.length()), 8);
    }

    /** No end of these is a beginning of another: the first by KINDS is that in which they stand in order. */
    private static void shortestOfAllSets() {
        Probe.says("48: of several the first by KINDS, for all sets of six");
        String[][] numberings = {{"HKK", "HCP", "HKP", "HPC", "HCC", "HPK"}, {"HCC", "HCP", "HPP", "HPK", "HKC", "HKK"},
            {"HKKKK", "HP", "HCP", "HC", "HPK", "HCPC"}};
        for (String[] runs : numberings) {
            StringBuilder b = new StringBuilder("wide 5;");
            for (int c = 0; c < 6; c++) {
                b.append("clause c").append((char) ('a' + c)).append(" is").append(kinds(runs[c])).append(';');
            }
            for (int half = 0; half < 4; half++) {
                KnitTreaty x = Probe.of(b.toString());
                for (int set = 16 * half; set < 16 * half + 16; set++) {
                    shortest(x, set, inOrder(runs, set));
                }
            }
        }
    }

    private static String inOrder(String[] runs, int set) {
        List<String> all = new ArrayList<>();
        for (int c = 0; c < 6; c++) {
            boolean within = false;
            for (int d = 0; d < 6; d++) {
                within |= d != c && (set >> d & 1) == 1 && runs[d].contains(runs[c]);
            }
            if ((set >> c & 1) == 1 && !within) {
                all.add(runs[c]);
            }
        }
        // As long as HOLE comes behind all others, a run that goes on with another KIND is ahead of one that is over.
        Collections.sort(all, (p, q) -> byKinds(p + "HHHHH", q + "HHHHH"));
        return String.join("", all);
    }

    private static int byKinds(String p, String q) {
        for (int i = 0; i < 5; i++) {
            if (p.charAt(i) != q.charAt(i)) {
                return LETTERS.indexOf(p.charAt(i)) - LETTERS.indexOf(q.charAt(i));
            }
        }
        return 0;
    }
}
