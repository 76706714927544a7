/**
 * Every STATUS of every call: what it answers, which of two comes first, and that nothing but STATUS is changed;
 * calls that only ask change nothing, and calls that do something change nothing else.
 */
public final class RefusalsTest {
    private static final int LEAST = Integer.MIN_VALUE;
    private static final int MOST = Integer.MAX_VALUE;
    private static Probe.Deed ahead = x -> { };

    public static void main(String[] args) {
        trays();
        texts();
        told();
        done();
        said();
        willBe();
        bargains();
        halfSeen();
        centuries();
        marks();
        empty();
        full();
        asking();
        doing();
        Probe.finish("what is refused");
    }

    // ---- helpers

    private static KnitTreaty made() {
        KnitTreaty x = Probe.piece();
        ahead.to(x);
        return x;
    }

    /** A call that answers NONE with a STATUS. */
    private static void num(String what, int status, Probe.Num call) {
        Probe.says("STATUS " + status);
        KnitTreaty x = made();
        Probe.no(x, what, call.of(x), status);
        Probe.same(what, x, made(), "");
    }

    /** A call that answers false with a STATUS. */
    private static void yes(String what, int status, Probe.Yes call) {
        Probe.says("STATUS " + status);
        KnitTreaty x = made();
        Probe.no(x, what, call.of(x), status);
        Probe.same(what, x, made(), "");
    }

    /** A taken call, by which just some of what can be seen may become another. */
    private static void only(String what, String mayDiffer, Probe.Deed call) {
        Probe.says("changes nothing else");
        KnitTreaty x = made();
        call.to(x);
        Probe.is("status of " + what, x.status(), 0);
        Probe.same(what, x, made(), mayDiffer);
    }

    private static void nothing(String what, Probe.Num call) {
        only(what, "", x -> call.of(x));
    }

    // ---- every STATUS

    private static void trays() {
        for (int t : new int[] {-1, 4, LEAST, MOST}) {
            yes("tray " + t, 1, x -> x.tray(t, 0, 1));
            yes("tray 1 ahead of 5", 1, x -> x.tray(t, 0, 61));
            yes("tray 1 ahead of 6", 1, x -> x.tray(t, 0, -1));
            yes("write 1 ahead of 4", 1, x -> x.write(t, -1, 0));
            num("read 1 ahead of 4", 1, x -> x.read(t, 60));
            yes("pour from none", 1, x -> x.pour(t, 0, 0, 0, 1));
            yes("pour to none", 1, x -> x.pour(0, 0, t, 0, 1));
            yes("pour 1 ahead of 3", 1, x -> x.pour(3, 0, t, 0, -1));
            yes("pour 1 ahead of 3, too", 1, x -> x.pour(t, 0, 3, 0, -1));
        }
        for (int sort : new int[] {-1, 4, LEAST, MOST}) {
            yes("sort " + sort, 1, x -> x.tray(0, sort, 1));
            yes("sort ahead of 5", 1, x -> x.tray(3, sort, 61));
            yes("sort ahead of 6", 1, x -> x.tray(3, sort, -1));
        }
        yes("61 numbers", 5, x -> x.tray(0, 0, 61));
        yes("very many numbers", 5, x -> x.tray(3, 3, MOST));
        yes("-1 numbers", 6, x -> x.tray(0, 0, -1));
        yes("far below 0", 6, x -> x.tray(3, 3, LEAST));
        yes("write to a missing one", 3, x -> x.write(3, 0, 1));
        yes("write 3 ahead of 4", 3, x -> x.write(3, -1, 1));
        num("read of a missing one", 3, x -> x.read(3, 0));
        num("read 3 ahead of 4", 3, x -> x.read(3, -1));
        for (int place : new int[] {-1, 3, 60, LEAST, MOST}) {
            yes("write at " + place, 4, x -> x.write(0, place, 1));
            num("read at " + place, 4, x -> x.read(0, place));
        }
        pours();
    }

    private static void pours() {
        yes("pour from a missing one", 3, x -> x.pour(3, 0, 0, 0, 1));
        yes("pour to a missing one", 3, x -> x.pour(0, 0, 3, 0, 1));
        yes("pour 3 ahead of 11, 6, 4", 3, x -> x.pour(3, -1, 1, -1, -1));
        yes("pour from a missing one to itself", 3, x -> x.pour(3, 0, 3, 0, 0));
        yes("pour of unlike sorts", 11, x -> x.pour(0, 0, 1, 0, 1));
        yes("pour of unlike sorts, none", 11, x -> x.pour(2, 0, 0, 0, 0));
        yes("pour 11 ahead of 6", 11, x -> x.pour(0, 0, 1, 0, -1));
        yes("pour 11 ahead of 4", 11, x -> x.pour(0, -1, 1, 5, 1));
        yes("pour below 0", 6, x -> x.pour(0, 0, 0, 0, -1));
        yes("pour far below 0", 6, x -> x.pour(0, 0, 0, 0, LEAST));
        yes("pour 6 ahead of 4", 6, x -> x.pour(0, -1, 0, 9, -1));
        yes("pour from -1", 4, x -> x.pour(1, -1, 1, 0, 1));
        yes("pour to -1", 4, x -> x.pour(1, 0, 1, -1, 1));
        yes("pour of one too many", 4, x -> x.pour(1, 0, 1, 0, 5));
        yes("pour from 1 of one too many", 4, x -> x.pour(1, 1, 1, 0, 4));
        yes("pour to 1 of one too many", 4, x -> x.pour(1, 0, 1, 1, 4));
        yes("pour none from 5 of 4", 4, x -> x.pour(1, 5, 1, 0, 0));
        yes("pour none to 5 of 4", 4, x -> x.pour(1, 0, 1, 5, 0));
        yes("pour none from -1", 4, x -> x.pour(1, -1, 1, 0, 0));
        yes("pour none to -1", 4, x -> x.pour(1, 0, 1, -1, 0));
        yes("pour of very many", 4, x -> x.pour(1, 1, 1, 0, MOST));
        yes("pour of very many to 1", 4, x -> x.pour(1, 0, 1, 1, MOST));
        yes("pour from far off", 4, x -> x.pour(1, MOST, 1, 0, 1));
        yes("pour to far off", 4, x -> x.pour(1, 0, 1, MOST, MOST));
        yes("pour from far below", 4, x -> x.pour(1, LEAST, 1, LEAST, 1));
    }

    private static void texts() {
        for (int n : new int[] {-1, 21, 901, LEAST, MOST}) {
            num("treaty(" + n + ")", 5, x -> x.treaty(n));
            num("centuries(" + n + ")", 5, x -> x.centuries(n));
        }
        // With 10 the tape becomes empty, and fault() tells of it.
        Probe.says("STATUS 10");
        KnitTreaty x = made();
        Probe.no(x, "a treaty", x.treaty(8), 10);
        Probe.same("a treaty with a FAULT", x, made(), "fault.*|tape.*");
        x = made();
        Probe.no(x, "centuries", x.centuries(8), 10);
        Probe.same("centuries with a FAULT", x, made(), "fault.*|tape.*");
        for (int what : new int[] {-1, 10, LEAST, MOST}) {
            num("many(" + what + ")", 5, y -> y.many(what));
        }
        ahead = y -> {
            for (int i = 0; i < 15; i++) {
                y.feed(0, 0, 0, 0, 0);
            }
        };
        num("centuries(301) of 320", 5, y -> y.centuries(301));
        num("centuries(320) of 320", 5, y -> y.centuries(320));
        num("treaty(321) of 320", 5, y -> y.treaty(321));
        ahead = y -> { };
    }

    private static void told() {
        for (int r : new int[] {-1, 3, LEAST, MOST}) {
            num("stitch of row " + r, 2, x -> x.stitch(r, 0, 0));
            num("stitch 2 ahead of 5", 2, x -> x.stitch(r, 0, 4));
            num("queen of row " + r, 2, x -> x.queenOf(r));
            num("copy of row " + r, 2, x -> x.copyRow(r, 0));
            num("copy 2 ahead of 3", 2, x -> x.copyRow(r, 3));
            num("copy 2 ahead of 4", 2, x -> x.copyRow(r, 2));
        }
        for (int c : new int[] {-1, 3, LEAST, MOST}) {
            num("stitch of column " + c, 2, x -> x.stitch(0, c, 0));
            num("stitch 2 ahead of 5", 2, x -> x.stitch(0, c, -1));
        }
        for (int what : new int[] {-1, 4, LEAST, MOST}) {
            num("stitch what " + what, 5, x -> x.stitch(2, 2, what));
        }
        for (int q : new int[] {-1, 2, LEAST, MOST}) {
            num("wool of " + q, 2, x -> x.wool(q));
            num("worth to " + q, 2, x -> x.worth(q, 0, 0));
            num("worth 2 ahead of 5", 2, x -> x.worth(q, 0, 2));
        }
        for (int c : new int[] {-1, 3, LEAST, MOST}) {
            num("length of " + c, 2, x -> x.length(c));
            num("kind of " + c, 2, x -> x.kind(c, 0));
            num("kind 2 ahead of 8", 2, x -> x.kind(c, -1));
            num("clash of " + c, 2, x -> x.clash(c, 0));
            num("clash with " + c, 2, x -> x.clash(0, c));
            num("clash 2 ahead of 9", 2, x -> x.clash(c, c));
            num("worth of " + c, 2, x -> x.worth(0, c, 0));
            num("worth 2 ahead of 5", 2, x -> x.worth(0, c, -1));
        }
        for (int k : new int[] {-1, 2, LEAST, MOST}) {
            num("kind " + k, 8, x -> x.kind(0, k));
            num("worth what " + k, 5, x -> x.worth(1, 2, k));
        }
        num("kind 1 of one", 8, x -> x.kind(1, 1));
        num("kind 3 of three", 8, x -> x.kind(2, 3));
        for (int c = 0; c < 3; c++) {
            int one = c;
            num("clash with itself", 9, x -> x.clash(one, one));
        }
        for (int t : new int[] {-1, 4, LEAST, MOST}) {
            num("copy to tray " + t, 1, x -> x.copyRow(0, t));
            num("copy 1 ahead of 2", 1, x -> x.copyRow(3, t));
        }
        num("copy to a missing one", 3, x -> x.copyRow(0, 3));
        num("copy to one too short", 4, x -> x.copyRow(0, 2));
    }

    private static void done() {
        for (int years : new int[] {0, 100, -1, LEAST, MOST}) {
            num("year(" + years + ")", 5, x -> x.year(years));
        }
        for (int r : new int[] {-1, 3, LEAST, MOST}) {
            num("pull of row " + r, 2, x -> x.pull(r, 0));
            num("pull 2 ahead of 5", 2, x -> x.pull(r, 2));
            num("moth at row " + r, 2, x -> x.moth(r, 0));
            num("moth at column " + r, 2, x -> x.moth(0, r));
            num("darn at row " + r, 2, x -> x.darn(r, 0));
            num("darn at column " + r, 2, x -> x.darn(0, r));
        }
        for (int side : new int[] {-1, 2, LEAST, MOST}) {
            num("pull from side " + side, 5, x -> x.pull(2, side));
        }
        num("moth at what is undone", 9, x -> x.moth(0, 1));
        num("moth at what is undone by a ladder", 9, x -> x.moth(1, 1));
        num("moth at what is darned", 9, x -> x.moth(1, 2));
        for (int q : new int[] {-1, 2, LEAST, MOST}) {
            num("shear of queen " + q, 2, x -> x.shear(q, 1));
            num("shear 2 ahead of 5", 2, x -> x.shear(q, 0));
            yes("value to queen " + q, 2, x -> x.value(q, 0, 0, 1));
            yes("value 2 ahead of 5", 2, x -> x.value(q, 0, 2, 1));
            yes("value 2 ahead of 5, too", 2, x -> x.value(q, 0, 0, 100));
        }
        for (int much : new int[] {0, -1, 1000, LEAST, MOST}) {
            num("shear of " + much, 5, x -> x.shear(1, much));
        }
        for (int tough : new int[] {0, 51, -1, LEAST, MOST}) {
            yes("rule of " + tough, 5, x -> x.rule(tough));
        }
        for (int c : new int[] {-1, 3, LEAST, MOST}) {
            yes("quarrel of " + c, 2, x -> x.quarrel(c, 0, true));
            yes("quarrel with " + c, 2, x -> x.quarrel(0, c, false));
            yes("quarrel 2 ahead of 9", 2, x -> x.quarrel(c, c, true));
            yes("value of " + c, 2, x -> x.value(0, c, 0, 1));
            yes("value 2 ahead of 5", 2, x -> x.value(1, c, -1, -1));
        }
        for (boolean is : new boolean[] {true, false}) {
            yes("quarrel of one and itself", 9, x -> x.quarrel(2, 2, is));
            yes("it is so", 9, x -> x.quarrel(0, is ? 1 : 2, is));
            yes("it is so, told from the other", 9, x -> x.quarrel(is ? 1 : 2, 0, is));
        }
        for (int what : new int[] {-1, 2, LEAST, MOST}) {
            yes("value what " + what, 5, x -> x.value(0, 0, what, 1));
        }
        for (int much : new int[] {-1, 100, LEAST, MOST}) {
            yes("gives " + much, 5, x -> x.value(0, 0, 0, much));
            yes("costs " + much, 5, x -> x.value(1, 0, 1, much));
        }
        knits();
    }

    private static void knits() {
        for (int t : new int[] {-1, 4, LEAST, MOST}) {
            num("knit of tray " + t, 1, x -> x.knit(0, t));
            num("knit 1 ahead of 2", 1, x -> x.knit(2, t));
            num("needs of tray " + t, 1, x -> x.needs(t));
        }
        for (int q : new int[] {-1, 2, LEAST, MOST}) {
            num("knit by queen " + q, 2, x -> x.knit(q, 0));
            num("knit 2 ahead of 3", 2, x -> x.knit(q, 3));
            num("knit 2 ahead of 4", 2, x -> x.knit(q, 2));
            num("knit 2 ahead of 5", 2, x -> x.knit(q, 1));
        }
        num("knit of a missing one", 3, x -> x.knit(0, 3));
        num("needs of a missing one", 3, x -> x.needs(3));
        num("knit of too few", 4, x -> x.knit(0, 2));
        num("needs of too few", 4, x -> x.needs(2));
        num("knit of what is not known", 5, x -> x.knit(0, 1));
        num("needs of what is not known", 5, x -> x.needs(1));
        ahead = x -> x.write(0, 2, 4);
        num("knit of 4", 5, x -> x.knit(0, 0));
        num("needs of 4", 5, x -> x.needs(0));
        ahead = x -> x.write(1, 1, 1L << 32);
        num("knit of a number whose lower half is a kind", 5, x -> x.knit(0, 1));
        num("needs of it", 5, x -> x.needs(1));
        // Two KNIT and a CABLE take 4; she has 3.
        ahead = x -> Probe.row(x, 0, "KCK");
        num("knit without wool", 9, x -> x.knit(1, 0));
        ahead = x -> { };
    }

    private static void said() {
        for (int c : new int[] {-1, 3, LEAST, MOST}) {
            num("saidIn of " + c, 2, x -> x.saidIn(c, 0));
            num("saidIn row " + c, 2, x -> x.saidIn(0, c));
            num("said of " + c, 2, x -> x.said(c));
            num("firstSaid of " + c, 2, x -> x.firstSaid(c));
            num("binds of " + c, 2, x -> x.binds(c));
            num("lost of " + c, 2, x -> x.lost(c));
        }
        for (int q : new int[] {-1, 2, LEAST, MOST}) {
            num("boundBy of " + q, 2, x -> x.boundBy(q));
        }
        num("firstSaid of what is said nowhere", 8, x -> x.firstSaid(2));
        num("firstClash of none", 8, x -> x.firstClash());
    }

    private static void willBe() {
        for (int years : new int[] {-1, 100, LEAST, MOST}) {
            num("undoneIn(" + years + ")", 5, x -> x.undoneIn(years));
        }
        ahead = x -> {
            for (int r = 0; r < 3; r++) {
                for (int c = 0; c < 3; c++) {
                    x.darn(r, c);
                }
            }
        };
        num("lost never", 8, x -> x.lost(0));
        num("firstLost of none", 8, x -> x.firstLost());
        ahead = x -> { };
        for (int r : new int[] {-1, 3, LEAST, MOST}) {
            num("pulled of row " + r, 2, x -> x.pulled(r, 0));
            num("pulled 2 ahead of 5", 2, x -> x.pulled(r, -1));
            num("pulledOut of row " + r, 2, x -> x.pulledOut(r, 0));
            num("pulledOut 2 ahead of 5", 2, x -> x.pulledOut(r, 2));
            num("mend of clause " + r, 2, x -> x.mend(r, 0, 0));
            num("mend in row " + r, 2, x -> x.mend(0, r, 0));
            num("mend 2 ahead of 5", 2, x -> x.mend(r, 0, 2));
            num("mend 2 ahead of 5, too", 2, x -> x.mend(0, r, -1));
            num("mendSet of clause " + r, 2, x -> x.mendSet(r, 0, 0));
            num("mendSet in row " + r, 2, x -> x.mendSet(0, r, 0));
            num("mendSet 2 ahead of 5", 2, x -> x.mendSet(r, 0, 2));
            num("mendSet 2 ahead of 5, too", 2, x -> x.mendSet(0, r, -1));
        }
        for (int side : new int[] {-1, 2, LEAST, MOST}) {
            num("pulled from side " + side, 5, x -> x.pulled(0, side));
            num("pulledOut from side " + side, 5, x -> x.pulledOut(0, side));
            num("mend from side " + side, 5, x -> x.mend(0, 0, side));
            num("mendSet from side " + side, 5, x -> x.mendSet(0, 0, side));
            num("mend 5 ahead of 8", 5, x -> x.mend(2, 2, side));
            num("mendSet 5 ahead of 8", 5, x -> x.mendSet(2, 2, side));
        }
        num("mend by none", 8, x -> x.mend(2, 2, 0));
        num("mendSet by none", 8, x -> x.mendSet(2, 2, 1));
    }

    private static void bargains() {
        for (int set : new int[] {-1, 8, 16, LEAST, MOST}) {
            num("shortest(" + set + ")", 5, x -> x.shortest(set));
            num("shortestAt(" + set + ")", 5, x -> x.shortestAt(set, 0));
            num("shortestAt 5 ahead of 8", 5, x -> x.shortestAt(set, -1));
            num("wins of set " + set, 5, x -> x.wins(0, set));
            num("stable(" + set + ")", 5, x -> x.stable(set));
        }
        for (int k : new int[] {-1, 4, LEAST, MOST}) {
            num("shortestAt place " + k, 8, x -> x.shortestAt(7, k));
        }
        num("shortestAt of no clause", 8, x -> x.shortestAt(0, 0));
        for (int q : new int[] {-1, 2, LEAST, MOST}) {
            num("wins of queen " + q, 2, x -> x.wins(q, 0));
            num("wins 2 ahead of 5", 2, x -> x.wins(q, 8));
        }
    }

    private static void halfSeen() {
        for (int t : new int[] {-1, 4, LEAST, MOST}) {
            num("fills of tray " + t, 1, x -> x.fills(0, t));
            num("fills 1 ahead of 2", 1, x -> x.fills(3, t));
            yes("chance of tray " + t, 1, x -> x.chance(0, t));
            yes("chance 1 ahead of 2", 1, x -> x.chance(3, t));
            num("look of tray " + t, 1, x -> x.look(0, t));
            num("look 1 ahead of 2", 1, x -> x.look(3, t));
            num("sure of tray " + t, 1, x -> x.sure(0, t, 0));
            num("sure 1 ahead of 2", 1, x -> x.sure(3, t, 0));
            num("sure 1 ahead of 2, too", 1, x -> x.sure(0, t, 3));
        }
        for (int c : new int[] {-1, 3, LEAST, MOST}) {
            for (int t = 1; t < 4; t++) {
                int one = t;
                num("fills 2", 2, x -> x.fills(c, one));
                yes("chance 2", 2, x -> x.chance(c, one));
                num("look 2", 2, x -> x.look(c, one));
                num("sure 2", 2, x -> x.sure(c, one, 0));
                num("sure 2 by the column", 2, x -> x.sure(0, one, c));
            }
        }
        for (int t = 2; t < 4; t++) {
            int one = t;
            num("fills of too few, of a missing one", t == 2 ? 4 : 3, x -> x.fills(0, one));
            yes("chance of too few, of a missing one", t == 2 ? 4 : 3, x -> x.chance(0, one));
            num("look of too few, of a missing one", t == 2 ? 4 : 3, x -> x.look(0, one));
            num("sure of too few, of a missing one", t == 2 ? 4 : 3, x -> x.sure(0, one, 0));
        }
        for (long v : new long[] {-2, 4, 1L << 32, (1L << 32) - 1, Long.MIN_VALUE, Long.MAX_VALUE}) {
            for (int p = 0; p < 3; p++) {
                int place = p;
                ahead = x -> x.write(1, place, v);
                num("fills of " + v, 5, x -> x.fills(0, 1));
                yes("chance of " + v, 5, x -> x.chance(0, 1));
                num("look of " + v, 5, x -> x.look(0, 1));
                num("sure of " + v, 5, x -> x.sure(0, 1, 0));
            }
        }
        ahead = x -> { };
        // KPK is the one FILL of CLAUSE 0 in K?K; tray 0 is PKH.
        num("look of one fill", 8, x -> x.look(0, 1));
        num("look of no fill", 8, x -> x.look(2, 1));
        num("look of what is all known", 8, x -> x.look(1, 0));
        num("sure of no fills", 8, x -> x.sure(2, 1, 1));
        num("sure of no fills at what is known", 8, x -> x.sure(2, 0, 0));
        ahead = x -> Probe.row(x, 0, "*KP");
        num("sure of not the same one", 8, x -> x.sure(0, 0, 0));
        ahead = x -> { };
    }

    private static void centuries() {
        for (int seed : new int[] {-1, 10000, LEAST, MOST}) {
            num("live by " + seed, 5, x -> x.live(seed));
            yes("mean from " + seed, 5, x -> x.mean(seed, 1));
        }
        for (int many : new int[] {0, 21, -1, LEAST, MOST}) {
            yes("mean of " + many, 5, x -> x.mean(0, many));
        }
        yes("mean above 9,999", 5, x -> x.mean(9999, 2));
        yes("mean above 9,999", 5, x -> x.mean(9981, 20));
        yes("mean far above", 5, x -> x.mean(MOST, 20));
        yes("mean far above", 5, x -> x.mean(MOST, MOST));
        for (int what : new int[] {-1, 5, LEAST, MOST}) {
            num("lived(" + what + ")", 5, x -> x.lived(what));
        }
        ahead = x -> {
            x.treaty(0);
            Probe.treaty(x, Probe.PIECE);
        };
        num("live without centuries", 8, x -> x.live(0));
        num("live 5 ahead of 8", 5, x -> x.live(10000));
        yes("mean without centuries", 8, x -> x.mean(0, 1));
        yes("mean 5 ahead of 8", 5, x -> x.mean(0, 0));
        ahead = x -> { };
    }

    private static void marks() {
        ahead = x -> {
            x.mark();
            x.mark();
        };
        num("a fourth mark", 7, x -> x.mark());
        ahead = x -> x.back();
        num("back without", 8, x -> x.back());
        ahead = x -> { };
    }

    /** A TREATY of nothing at all. */
    private static void empty() {
        ahead = x -> x.treaty(0);
        num("stitch", 2, x -> x.stitch(0, 0, 0));
        num("queenOf", 2, x -> x.queenOf(0));
        num("wool", 2, x -> x.wool(0));
        num("length", 2, x -> x.length(0));
        num("kind", 2, x -> x.kind(0, 0));
        num("clash", 2, x -> x.clash(0, 1));
        num("clash of one and itself", 2, x -> x.clash(0, 0));
        num("worth", 2, x -> x.worth(0, 0, 0));
        num("copyRow", 2, x -> x.copyRow(0, 0));
        num("pull", 2, x -> x.pull(0, 0));
        num("moth", 2, x -> x.moth(0, 0));
        num("darn", 2, x -> x.darn(0, 0));
        num("knit", 2, x -> x.knit(0, 0));
        num("unravel", 8, x -> x.unravel());
        num("shear", 2, x -> x.shear(0, 1));
        yes("quarrel", 2, x -> x.quarrel(0, 1, true));
        yes("value", 2, x -> x.value(0, 0, 0, 0));
        num("said", 2, x -> x.said(0));
        num("firstClash", 8, x -> x.firstClash());
        num("firstLost", 8, x -> x.firstLost());
        num("worstPull", 8, x -> x.worstPull());
        num("shortest", 5, x -> x.shortest(1));
        num("stable", 5, x -> x.stable(1));
        num("wins", 2, x -> x.wins(0, 0));
        num("fills", 2, x -> x.fills(0, 0));
        ahead = x -> { };
    }

    /** What there is as many of as can be. */
    private static void full() {
        ahead = x -> {
            Probe.row(x, 0, "HHH");
            for (int i = 3; i < 12; i++) {
                x.knit(1, 0);
            }
        };
        num("a 13th row", 7, x -> x.knit(0, 0));
        num("5 ahead of 7", 5, x -> x.knit(0, 1));
        num("4 ahead of 7", 4, x -> x.knit(0, 2));
        num("3 ahead of 7", 3, x -> x.knit(0, 3));
        num("2 ahead of 7", 2, x -> x.knit(2, 0));
        num("1 ahead of 7", 1, x -> x.knit(0, 4));
        ahead = x -> {
            Probe.row(x, 0, "HHH");
            for (int i = 3; i < 12; i++) {
                x.knit(1, 0);
            }
            Probe.row(x, 0, "CCC");
        };
        num("7 ahead of 9", 7, x -> x.knit(1, 0));
        ahead = x -> {
            for (int i = 0; i < 100; i++) {
                x.year(99);
            }
        };
        // The YEAR was 2 or 3; a hundred times 99 more.
        num("above 9,999", 7, x -> x.year(99));
        num("5 ahead of 7", 5, x -> x.year(100));
        num("5 ahead of 7", 5, x -> x.year(0));
        ahead = x -> { };
    }

    // ---- what is taken

    private static void asking() {
        nothing("read", x -> x.read(1, 1));
        for (int what = 0; what < 10; what++) {
            int one = what;
            nothing("many", x -> x.many(one));
        }
        nothing("stitch", x -> x.stitch(1, 1, 2));
        nothing("queenOf", x -> x.queenOf(1));
        nothing("wool", x -> x.wool(1));
        nothing("length", x -> x.length(2));
        nothing("kind", x -> x.kind(2, 2));
        nothing("clash", x -> x.clash(0, 1));
        nothing("worth", x -> x.worth(1, 2, 1));
        nothing("saidIn", x -> x.saidIn(0, 0));
        nothing("said", x -> x.said(0));
        nothing("firstSaid", x -> x.firstSaid(1));
        nothing("binds", x -> x.binds(1));
        nothing("boundBy", x -> x.boundBy(0));
        nothing("clashes", x -> x.clashes());
        ahead = x -> {
            x.darn(0, 1);
            x.many(10);
        };
        nothing("firstClash", x -> x.firstClash());
        ahead = x -> { };
        nothing("needs", x -> x.needs(0));
        nothing("lost", x -> x.lost(1));
        nothing("undoneIn", x -> x.undoneIn(99));
        nothing("firstLost", x -> x.firstLost());
        for (int r = 0; r < 3; r++) {
            int one = r;
            nothing("pulled", x -> x.pulled(one, 0));
            nothing("pulledOut", x -> x.pulledOut(one, 1));
        }
        nothing("worstPull", x -> x.worstPull());
        nothing("mend", x -> x.mend(0, 0, 0));
        nothing("mendSet", x -> x.mendSet(0, 0, 1));
        nothing("shortest", x -> x.shortest(7));
        nothing("shortestAt", x -> x.shortestAt(7, 1));
        nothing("wins", x -> x.wins(1, 7));
        nothing("bargain", x -> x.bargain());
        nothing("bargainWorth", x -> x.bargainWorth());
        nothing("stable", x -> x.stable(1));
        nothing("stables", x -> x.stables());
        nothing("fills", x -> x.fills(0, 1));
        nothing("sure", x -> x.sure(0, 1, 1));
        only("look", "tray 1.*", x -> {
            x.write(1, 0, -1);
            x.look(1, 1);
        });
        only("chance", "top|bottom", x -> x.chance(0, 0));
        only("mean", "top|bottom", x -> x.mean(17, 20));
        nothing("lived", x -> x.lived(0));
        only("what has no STATUS", "tape.*", x -> {
            x.many(10);
            x.status();
            x.fault(0);
            x.fault(7);
            x.top();
            x.bottom();
            x.feed(1, 2, 3, 4, 5);
            Probe.is("status", x.status(), 5);
            x.many(0);
            Probe.is("a fault of no such thing", x.fault(-7), -1);
        });
    }

    private static void doing() {
        String worn = "many [68]|stitch.*|then.*";
        only("tray", "tray 3.*", x -> x.tray(3, 2, 7));
        only("tray anew", "tray 1.*", x -> x.tray(1, 3, 4));
        only("write", "tray 1 2", x -> x.write(1, 2, 77));
        only("pour", "tray 1 [23]", x -> x.pour(1, 0, 1, 2, 2));
        only("pour of none", "", x -> x.pour(1, 4, 1, 4, 0));
        only("feed", "tape.*", x -> {
            x.many(0);
            x.feed(1, 2, 3, 4, 5);
        });
        only("centuries", "fault.*|tape.*|then.*|lived.*", x -> Probe.centuries(x, ""));
        only("copyRow", "tray 1 [012]", x -> x.copyRow(1, 1));
        only("year", "many [568]|stitch.*[12]|then.*", x -> x.year(3));
        only("pull", worn, x -> x.pull(0, 0));
        only("a pull by which nothing comes undone", "", x -> x.pull(1, 1));
        only("moth", worn, x -> x.moth(2, 0));
        only("darn", "many [6789]|stitch 1 1 [123]|then.*", x -> x.darn(1, 1));
        only("knit", "many [49]|wool 0|stitch 3.*|queenOf 3|then.*", x -> x.knit(0, 0));
        only("unravel", "many [46789]|wool 0|stitch 2.*|queenOf 2|then.*", x -> x.unravel());
        only("shear", "wool 1", x -> x.shear(1, 5));
        only("rule", "many 1|then.*", x -> x.rule(5));
        only("quarrel", "clash 0 2|clash 2 0", x -> x.quarrel(2, 0, true));
        only("quarrel no more", "clash 0 1|clash 1 0", x -> x.quarrel(0, 1, false));
        only("value", "worth 1 2 1", x -> x.value(1, 2, 1, 3));
        only("live", "many [56789]|stitch.*|lived.*|then.*", x -> x.live(9));
        only("mark", "back.*", x -> x.mark());
        only("back", "many.*|stitch.*|back.*|then.*|lived.*", x -> {
            x.back();
            int[] lived = {x.lived(0), x.lived(1), x.lived(2), x.lived(3), x.lived(4)};
            Probe.is("centuries are gone, too", x.live(0), -1);
            for (int i = 0; i < 5; i++) {
                Probe.is("lived stays", x.lived(i), lived[i]);
            }
        });
        only("treaty", "many.*|stitch.*|queenOf.*|wool.*|length.*|kind.*|clash.*|worth.*|fault.*|tape.*|then.*",
                x -> x.treaty(0));
    }
}
