/** The boundary cases of CENTURIES and MARKS, sentence by sentence: promises 59 to 63. */
public final class LifeBoundsTest {
    private static final String ONE = "wide 2;tough 50;queen q;clause a is purl;row q purl 2;";

    public static void main(String[] args) {
        seeds();
        draws();
        missed();
        missedYears();
        rowsNoMore();
        whens();
        compares();
        loops();
        stops();
        threeHundred();
        threeHundredNested();
        lived();
        means();
        meanSeeds();
        marks();
        marksLargest();
        marksKept();
        marksFull();
        Probe.finish("lives");
    }

    private static KnitTreaty of(String treaty, String centuries) {
        KnitTreaty x = Probe.of(treaty);
        Probe.centuries(x, centuries);
        Probe.is("status of " + centuries, x.status(), 0);
        return x;
    }

    /** STEPS, then MISSED, YEARS, STITCHES that came undone, DARNS, whether a STEP was left. */
    private static void lives(KnitTreaty x, String what, int seed, int... due) {
        Probe.ok(x, what + ": steps", x.live(seed), due[0]);
        String[] names = {"missed", "years", "undone", "darns", "left"};
        for (int i = 0; i < 5; i++) {
            Probe.ok(x, what + ": " + names[i], x.lived(i), due[i + 1]);
        }
    }

    // ---- seeds and draws

    private static void seeds() {
        Probe.says("LIVED by a seed (0 to 9,999)");
        KnitTreaty x = of(ONE, "any;");
        Probe.no(x, "-1", x.live(-1), 5);
        Probe.no(x, "10000", x.live(10000), 5);
        Probe.no(x, "there was none", x.lived(0), 8);
        Probe.ok(x, "0", x.live(0), 1);
        Probe.ok(x, "9999", x.live(9999), 1);
        Probe.says("59: no CENTURIES (8)");
        x = Probe.of(ONE);
        Probe.no(x, "live", x.live(0), 8);
        Probe.no(x, "5 ahead of 8", x.live(-1), 5);
    }

    /** The same draws by hand. */
    private static int drawn(int seed, int times, int n) {
        int s = seed;
        for (int i = 0; i < times; i++) {
            s = (int) ((s * 2971L + 10729L) & 0xffff);
        }
        return (s >> 3) % n;
    }

    private static void draws() {
        Probe.says("any: a MOTH at a ROW by a draw by how many there are, and a column by a draw by WIDE");
        int[] seeds = {0, 1, 7, 4242, 9998, 9999};
        for (int seed : seeds) {
            for (int wide = 1; wide <= 8; wide += 7) {
                for (int rows = 1; rows <= 12; rows += 11) {
                    KnitTreaty x = of("wide " + wide + ";queen q;" + Probe.times("row q purl " + wide + ";", rows), "any;");
                    lives(x, "any", seed, 1, 0, 0, 1, 0, 0);
                    Probe.is("it is undone", x.stitch(drawn(seed, 1, rows), drawn(seed, 2, wide), 2), 1);
                    x.back();
                    KnitTreaty y = of("wide " + wide + ";queen q;" + Probe.times("row q purl " + wide + ";", rows),
                            "any;any;any;");
                    y.live(seed);
                    for (int i = 1; i < 6; i += 2) {
                        Probe.is("it is undone", y.stitch(drawn(seed, i, rows), drawn(seed, i + 1, wide), 2), 1);
                    }
                }
            }
        }
        Probe.says("any: draws when it is MISSED, too");
        KnitTreaty x = of("wide 2;queen q;row q purl 2;row q purl 2;row q purl 2;", "loop 20;any;end;");
        int fresh = 0;
        boolean[] had = new boolean[6];
        for (int i = 0; i < 20; i++) {
            int at = drawn(11, 2 * i + 1, 3) * 2 + drawn(11, 2 * i + 2, 2);
            fresh += had[at] ? 0 : 1;
            had[at] = true;
        }
        lives(x, "twenty", 11, 21, 20 - fresh, 0, fresh, 0, 0);
        Probe.says("any without ROWS (no draws)");
        x = of("wide 2;queen q;", "any;any;");
        lives(x, "any", 5, 2, 2, 0, 0, 0, 0);
        x.mean(3, 2);
        Probe.is("mean", x.top() * 10 + x.bottom(), 1);
    }

    // ---- what is MISSED

    private static void missed() {
        Probe.says("MISSED: a pull by which nothing comes undone");
        KnitTreaty x = of("wide 2;queen q;row q cable purl;row q knit 2;", "pull 0 0;pull 0 1;pull 0 1;pull 1 0;");
        lives(x, "pulls", 0, 4, 2, 0, 3, 0, 0);
        Probe.says("MISSED: a moth at what is UNDONE or DARNED");
        x = of("wide 2;queen q;row q purl 2;", "moth 0 0;moth 0 0;darn 0 0;moth 0 0;darn 0 1;moth 0 1;darn 0 1;");
        lives(x, "moths", 0, 7, 3, 0, 1, 3, 0);
        Probe.is("darned", x.many(7), 2);
        Probe.says("MISSED: by any, too");
        x = of("wide 1;queen q;row q purl;", "any;any;darn 0 0;any;");
        lives(x, "any", 0, 4, 2, 0, 1, 1, 0);
        Probe.says("a when that does not hold is not MISSED");
        x = of(ONE, "when undone > 0;any;end;");
        lives(x, "when", 0, 1, 0, 0, 0, 0, 0);
        Probe.says("YEARS by which nothing comes undone are not MISSED");
        x = of(ONE, "year 20;");
        lives(x, "year", 0, 1, 0, 20, 0, 0, 0);
    }

    private static void missedYears() {
        Probe.says("MISSED: YEARS beyond 9,999 (as a whole)");
        KnitTreaty x = Probe.of("wide 1;tough 50;queen q;row q purl;");
        x.darn(0, 0);
        for (int i = 0; i < 100; i++) {
            x.year(99);
        }
        x.year(79);
        Probe.is("year", x.many(5), 9979);
        x.mark();
        Probe.centuries(x, "year 20;year 1;");
        lives(x, "just as many", 0, 2, 1, 20, 0, 0, 0);
        Probe.is("year", x.many(5), 9999);
        x.back();
        x.mark();
        x.year(1);
        Probe.centuries(x, "year 20;year 19;year 1;year 2;");
        lives(x, "one too many", 0, 4, 3, 19, 0, 0, 0);
        Probe.is("year", x.many(5), 9999);
        x.back();
        x.year(19);
        Probe.centuries(x, "year 2;year 1;");
        lives(x, "two of one", 0, 2, 1, 1, 0, 0, 0);
        Probe.is("year", x.many(5), 9999);
    }

    private static void rowsNoMore() {
        Probe.says("in CENTURIES a ROW that is no more: what names it is MISSED, whole of it does not hold");
        KnitTreaty x = of("wide 2;tough 50;queen q;row q purl 2;row q hole 2;",
                "moth 1 1;pull 1 1;darn 1 1;when whole 1;year 1;end;darn 0 0;");
        x.mark();
        lives(x, "while it is there", 0, 5, 0, 0, 2, 2, 0);
        x.back();
        x.unravel();
        lives(x, "when it is gone", 0, 5, 3, 0, 0, 1, 0);
        Probe.is("year", x.many(5), 0);
        Probe.row(x, 0, "PP");
        x.knit(0, 0);
        lives(x, "when it is another one", 0, 5, 0, 0, 2, 2, 0);
        Probe.says("without ROWS any is MISSED");
        x.unravel();
        x.unravel();
        Probe.centuries(x, "any;year 20;");
        lives(x, "no row", 0, 2, 1, 20, 0, 0, 0);
    }

    // ---- when, loop, stop

    private static void whens() {
        Probe.says("when said: SAID somewhere; whole: no STITCH of that ROW is UNDONE");
        KnitTreaty x = of("wide 2;tough 50;queen q;clause a is purl;clause b is hole;row q purl 2;row q cable purl;",
                "when said a;year 1;end;when said b;year 2;end;when whole 0;year 4;end;when whole 1;year 8;end;");
        x.mark();
        lives(x, "all", 0, 7, 0, 13, 0, 0, 0);
        x.back();
        x.mark();
        x.moth(0, 1);
        lives(x, "one is UNDONE", 0, 6, 0, 9, 0, 0, 0);
        x.back();
        x.mark();
        x.moth(0, 0);
        x.moth(1, 1);
        lives(x, "one in each", 0, 5, 0, 1, 0, 0, 0);
        x.moth(0, 1);
        lives(x, "the CLAUSE is SAID nowhere", 0, 4, 0, 0, 0, 0, 0);
        x.darn(1, 1);
        lives(x, "DARNED is whole", 0, 6, 0, 9, 0, 0, 0);
        Probe.says("a when asks as it is then");
        x = of(ONE, "when whole 0;moth 0 0;when whole 0;year 20;end;when said a;moth 0 1;end;when said a;year 1;end;end;");
        lives(x, "one by one", 0, 6, 0, 0, 2, 0, 0);
    }

    private static void compares() {
        Probe.says("undone: so many STITCHES are, < or > or =");
        String s = "";
        char[] signs = {'<', '>', '='};
        int[] numbers = {0, 2, 3, 4, 99};
        for (char sign : signs) {
            for (int n : numbers) {
                KnitTreaty x = Probe.of("wide 5;queen q;row q purl 5;");
                for (int c = 0; c < 3; c++) {
                    x.moth(0, c);
                }
                Probe.centuries(x, "when undone " + sign + " " + n + ";year 1;end;");
                boolean holds = sign == '<' ? 3 < n : sign == '>' ? 3 > n : n == 3;
                lives(x, "3 " + sign + " " + n, 0, holds ? 2 : 1, 0, holds ? 1 : 0, 0, 0, 0);
            }
        }
        KnitTreaty x = of("queen q;", "when undone = 0;when undone < 1;year 1;end;end;when undone > 0;year 2;end;");
        lives(x, "none", 0, 4, 0, 1, 0, 0, 0);
    }

    private static void loops() {
        Probe.says("loop n (1 to 99): as often");
        KnitTreaty x = of(ONE, "loop 1;year 1;end;");
        lives(x, "once", 0, 2, 0, 1, 0, 0, 0);
        x = of(ONE, "loop 99;darn 0 0;end;");
        lives(x, "99 times", 0, 100, 0, 0, 0, 99, 0);
        x = of(ONE, "loop 3;loop 2;year 1;end;darn 0 0;end;");
        Probe.says("when, loop count as one each time they are come to from ahead; end does not");
        lives(x, "within one another", 0, 13, 0, 6, 0, 3, 0);
        x = of(ONE, "loop 5;when undone = 0;moth 0 0;end;end;");
        lives(x, "a when within", 0, 7, 0, 0, 1, 0, 0);
        x = of(ONE, "loop 2;loop 2;loop 2;year 1;end;end;end;");
        lives(x, "three deep", 0, 15, 0, 8, 0, 0, 0);
        x = of(ONE, "loop 2;end;when undone = 0;end;loop 9;when undone > 0;year 9;end;end;");
        lives(x, "with nothing in them", 0, 12, 0, 0, 0, 0, 0);
        x = of(ONE, "when undone > 0;loop 9;year 1;end;year 1;end;year 2;");
        lives(x, "a when that does not hold passes by all in it", 0, 2, 0, 2, 0, 0, 0);
        lives(x, "once more, as it has become", 0, 2, 0, 2, 0, 0, 0);
        Probe.is("the YEAR", x.many(5), 4);
    }

    private static void stops() {
        Probe.says("stop: no more is done");
        KnitTreaty x = of(ONE, "year 1;stop;year 2;");
        lives(x, "stop", 0, 2, 0, 1, 0, 0, 0);
        x = of(ONE, "stop;");
        lives(x, "stop alone", 0, 1, 0, 0, 0, 0, 0);
        x = of(ONE, "loop 9;year 1;when undone = 0;stop;end;end;year 1;");
        lives(x, "within a when within a loop", 0, 4, 0, 1, 0, 0, 0);
        x = of(ONE, "when undone > 0;stop;end;year 1;");
        lives(x, "a stop that is not come to", 0, 2, 0, 1, 0, 0, 0);
        Probe.says("60: a STEP left to be done by the 300 alone, not by stop");
        x = of(ONE, "loop 99;darn 0 0;darn 0 0;darn 0 0;end;darn 0 0;stop;year 1;");
        lives(x, "stop as the 300th", 0, 300, 0, 0, 0, 298, 0);
        Probe.says("a when is not done again, even where a loop stood that a stop or the 300 broke off");
        x = of(ONE, "loop 9;stop;end;");
        lives(x, "a loop that is broken off", 0, 2, 0, 0, 0, 0, 0);
        Probe.ok(x, "a when in its place", Probe.centuries(x, "when undone = 0;darn 0 0;end;"), 2);
        lives(x, "once", 0, 2, 0, 0, 0, 1, 0);
        x = of(ONE, "loop 99;loop 99;darn 0 0;end;end;");
        lives(x, "loops that are broken off", 0, 300, 0, 0, 0, 296, 1);
        Probe.ok(x, "whens in their places", Probe.centuries(x, "when said a;when whole 0;darn 0 0;end;end;"), 3);
        lives(x, "once", 0, 3, 0, 0, 0, 1, 0);
        Probe.says("a loop that was broken off begins anew");
        x = of(ONE, "loop 3;darn 0 0;when undone = 0;stop;end;end;");
        lives(x, "at its first", 0, 4, 0, 0, 0, 1, 0);
        x.moth(0, 1);
        lives(x, "to its end", 0, 7, 0, 0, 0, 3, 0);
    }

    private static void threeHundred() {
        Probe.says("at most 300 STEPS");
        String most = "loop 99;darn 0 0;darn 0 0;darn 0 0;end;";
        KnitTreaty x = of(ONE, most);
        lives(x, "298", 0, 298, 0, 0, 0, 297, 0);
        x = of(ONE, most + "darn 0 0;");
        lives(x, "299", 0, 299, 0, 0, 0, 298, 0);
        x = of(ONE, most + "darn 0 0;year 7;");
        lives(x, "300", 0, 300, 0, 7, 0, 298, 0);
        Probe.says("60: 1 if a STEP was left to be done");
        x = of(ONE, most + "darn 0 0;year 7;year 1;");
        lives(x, "301", 0, 300, 0, 7, 0, 298, 1);
        Probe.is("the year", x.many(5), 7);
        x = of(ONE, most + "darn 0 0;year 7;any;any;");
        lives(x, "302", 0, 300, 0, 7, 0, 298, 1);
        Probe.centuries(x, "stop;");
        lives(x, "of live() latest", 0, 1, 0, 0, 0, 0, 0);
        Probe.says("MISSED ones count, too");
        x = of("wide 1;queen q;row q cable;", "loop 99;pull 0 0;pull 0 0;pull 0 0;end;pull 0 1;pull 0 1;darn 0 0;");
        lives(x, "all but the loop", 0, 300, 299, 0, 0, 0, 1);
        Probe.is("not darned", x.many(7), 0);
    }

    private static void threeHundredNested() {
        Probe.says("an end that brings no STEP more leaves none");
        KnitTreaty x = of(ONE, "loop 1;loop 99;darn 0 0;darn 0 0;darn 0 0;end;darn 0 0;end;");
        lives(x, "300 and ends", 0, 300, 0, 0, 0, 298, 0);
        x = of(ONE, "loop 2;loop 99;darn 0 0;darn 0 0;darn 0 0;end;darn 0 0;end;");
        lives(x, "300 and once more", 0, 300, 0, 0, 0, 298, 1);
        x = of(ONE, "loop 99;darn 0 0;darn 0 0;darn 0 0;end;darn 0 0;loop 99;end;");
        lives(x, "a loop with nothing in it as the 300th", 0, 300, 0, 0, 0, 298, 0);
        x = of(ONE, "loop 99;darn 0 0;darn 0 0;darn 0 0;end;darn 0 0;loop 1;any;end;");
        lives(x, "a loop with one in it as the 300th", 0, 300, 0, 0, 0, 298, 1);
        x = of(ONE, "loop 99;darn 0 0;darn 0 0;darn 0 0;end;darn 0 0;when undone > 0;any;end;");
        lives(x, "a when that does not hold as the 300th", 0, 300, 0, 0, 0, 298, 0);
        x = of(ONE, "loop 99;darn 0 0;darn 0 0;darn 0 0;end;darn 0 0;when undone < 1;any;end;");
        lives(x, "a when that holds as the 300th", 0, 300, 0, 0, 0, 298, 1);
        x = of(ONE, "loop 99;loop 99;loop 99;end;end;end;");
        lives(x, "loops alone", 0, 300, 0, 0, 0, 0, 1);
        x = of(ONE, "loop 99;when undone=0;loop 99;end;loop 9;end;end;end;year 1;year 1;");
        lives(x, "loops with nothing in them, again and again", 0, 300, 0, 2, 0, 0, 0);
        x = of(ONE, "loop 99;when undone=0;loop 99;end;loop 9;end;end;end;year 1;year 1;year 1;");
        lives(x, "one more", 0, 300, 0, 2, 0, 0, 1);
        Probe.says("thirty STEPS, each with its end, in 300 bytes (a TOKEN goes as long as it can, so no blank is asked)");
        x = of(ONE, Probe.times("loop9;end;", 30));
        lives(x, "thirty loops", 0, 30, 0, 0, 0, 0, 0);
        x = of(ONE, Probe.times("loop2;loop2;loop9;end;end;end;", 10));
        lives(x, "thirty loops, three within one another", 0, 10 * (1 + 2 + 4), 0, 0, 0, 0, 0);
        Probe.ok(x, "kept by a MARK", x.mark(), 1);
        Probe.ok(x, "one STEP in its place", Probe.centuries(x, "stop;"), 1);
        Probe.ok(x, "back", x.back(), 0);
        lives(x, "the thirty again", 0, 70, 0, 0, 0, 0, 0);
    }

    private static void lived() {
        Probe.says("60: of live() latest with STATUS 0 (5; 8: there was none)");
        KnitTreaty x = of("wide 2;tough 3;queen q;row q purl 2;", "year 2;moth 0 0;moth 0 0;darn 0 0;year 1;");
        Probe.no(x, "none yet", x.lived(0), 8);
        Probe.no(x, "none yet", x.lived(4), 8);
        Probe.no(x, "5 ahead of 8", x.lived(5), 5);
        Probe.no(x, "5 ahead of 8", x.lived(-1), 5);
        x.mean(0, 3);
        Probe.no(x, "mean is no live", x.lived(0), 8);
        x.mark();
        int[] due = {5, 1, 3, 2, 1, 0};
        lives(x, "live", 0, due);
        Probe.no(x, "what 5", x.lived(5), 5);
        Probe.no(x, "what -1", x.lived(-1), 5);
        Probe.says("60: (treaty(), centuries(), back() leave it)");
        x.back();
        stays(x, due);
        x.live(-1);
        x.mean(1, 2);
        stays(x, due);
        Probe.centuries(x, "stop;");
        stays(x, due);
        x.treaty(0);
        stays(x, due);
        Probe.no(x, "live", x.live(0), 8);
        stays(x, due);
        Probe.centuries(x, "any;year 3;");
        lives(x, "another one", 0, 2, 1, 3, 0, 0, 0);
    }

    private static void stays(KnitTreaty x, int[] due) {
        for (int i = 0; i < 5; i++) {
            Probe.ok(x, "lived " + i, x.lived(i), due[i + 1]);
        }
    }

    // ---- the mean

    private static void means() {
        Probe.says("61: the mean of how many STITCHES are UNDONE behind the CENTURIES");
        KnitTreaty x = of("wide 4;queen q;row q purl 4;", "moth 0 0;");
        Probe.ok(x, "mean", x.mean(0, 20));
        Probe.is("1 by 1", x.top() * 10 + x.bottom(), 11);
        x.moth(0, 1);
        x.mean(0, 20);
        Probe.is("those UNDONE already count", x.top() * 10 + x.bottom(), 21);
        Probe.is("all stays as it is", x.many(6), 1);
        x = of("wide 4;queen q;row q purl 4;", "stop;");
        x.mean(0, 7);
        Probe.is("0 by 1", x.top() * 10 + x.bottom(), 1);
        Probe.says("61: without a common divisor");
        x = of("wide 3;queen q;row q purl 3;", "any;any;any;");
        for (int many = 1; many <= 20; many++) {
            int sum = 0;
            for (int seed = 100; seed < 100 + many; seed++) {
                boolean[] had = new boolean[3];
                for (int i = 0; i < 3; i++) {
                    int c = drawn(seed, 2 * i + 2, 3);
                    sum += had[c] ? 0 : 1;
                    had[c] = true;
                }
            }
            Probe.ok(x, "mean", x.mean(100, many));
            int d = many;
            while (sum % d != 0 || many % d != 0) {
                d--;
            }
            Probe.is("top by " + many, x.top(), sum / d);
            Probe.is("bottom by " + many, x.bottom(), many / d);
        }
    }

    private static void meanSeeds() {
        Probe.says("61: by so many seeds (1 to 20) from one on (5: the last above 9,999, too; 8)");
        KnitTreaty x = of("wide 1;queen q;row q purl;", "any;");
        Probe.ok(x, "1", x.mean(0, 1));
        Probe.ok(x, "20", x.mean(0, 20));
        Probe.no(x, "0", x.mean(0, 0), 5);
        Probe.no(x, "21", x.mean(0, 21), 5);
        Probe.no(x, "-1", x.mean(0, -1), 5);
        Probe.no(x, "seed -1", x.mean(-1, 1), 5);
        Probe.no(x, "seed -1, which ends above", x.mean(-1, 2), 5);
        Probe.ok(x, "the last is 9,999", x.mean(9999, 1));
        Probe.no(x, "the last is 10,000", x.mean(9999, 2), 5);
        Probe.no(x, "seed 10,000", x.mean(10000, 1), 5);
        Probe.ok(x, "the last is 9,999", x.mean(9980, 20));
        Probe.no(x, "the last is 10,000", x.mean(9981, 20), 5);
        Probe.no(x, "far above", x.mean(Integer.MAX_VALUE, 20), 5);
        x.treaty(0);
        Probe.no(x, "no CENTURIES", x.mean(0, 1), 8);
        Probe.no(x, "5 ahead of 8", x.mean(0, 0), 5);
        Probe.no(x, "5 ahead of 8", x.mean(9999, 2), 5);
        Probe.is("the FRACTION stays", x.top() * 10 + x.bottom(), 11);
    }

    // ---- MARKS

    private static void marks() {
        Probe.says("MARKS, at most 3 (7)");
        KnitTreaty x = new KnitTreaty();
        for (int i = 1; i < 4; i++) {
            Probe.ok(x, "mark", x.mark(), i);
        }
        Probe.no(x, "a fourth", x.mark(), 7);
        Probe.says("63: all is taken back to the latest MARK, which is gone then: how many there are left (8)");
        for (int i = 2; i >= 0; i--) {
            Probe.ok(x, "back", x.back(), i);
        }
        Probe.no(x, "none", x.back(), 8);
        Probe.ok(x, "mark", x.mark(), 1);
        Probe.ok(x, "back", x.back(), 0);
        Probe.no(x, "none", x.back(), 8);
        x = Probe.of("wide 1;tough 50;queen q;row q purl;");
        x.mark();
        x.year(1);
        x.mark();
        x.year(1);
        x.mark();
        x.year(1);
        x.mark();
        Probe.is("year", x.many(5), 3);
        Probe.says("63: to the latest");
        x.back();
        Probe.is("year", x.many(5), 2);
        x.year(5);
        x.mark();
        x.back();
        Probe.is("year", x.many(5), 7);
        x.back();
        Probe.is("year", x.many(5), 1);
        x.back();
        Probe.is("year", x.many(5), 0);
        Probe.worn(x, 0, 0);
    }

    private static String large(int kind, int much) {
        String[] kinds = {"knit", "purl", "cable", "hole"};
        StringBuilder b = new StringBuilder("wide 8;tough 50;");
        for (int q = 0; q < 4; q++) {
            b.append("queen q").append((char) ('a' + q)).append(" wool ").append(much + q).append(';');
        }
        for (int c = 0; c < 6; c++) {
            b.append("clause c").append((char) ('a' + c)).append(" is");
            b.append(Probe.times(" " + kinds[kind], 4)).append(' ').append(kinds[(kind + c) % 4]).append(';');
        }
        b.append("gives qd cf ").append(much).append(";costs qd cf ").append(much + 1).append(';');
        for (int r = 0; r < 12; r++) {
            b.append("row q").append((char) ('a' + (r + much) % 4)).append(' ').append(kinds[kind]).append(" 8;");
        }
        return b.toString();
    }

    /** The largest piece: its last STITCH, QUEEN, CLAUSE and STEP are kept, and seen by what will be. */
    private static void marksLargest() {
        Probe.says("all that became of it is kept, in the largest piece, too");
        KnitTreaty x = Probe.of(large(1, 30));
        Probe.centuries(x, Probe.times("loop9;end;", 28) + "loop9;any;end;");
        x.year(7);
        Probe.ok(x, "shear", x.shear(3, 5), 38);
        x.quarrel(4, 5, true);
        Probe.ok(x, "what the last STITCH is WORN counts", x.undoneIn(43), 96);
        Probe.ok(x, "not ahead of that", x.undoneIn(42), 0);
        x.darn(11, 7);
        Probe.ok(x, "that it is DARNED counts", x.undoneIn(43), 95);
        Probe.ok(x, "mark", x.mark(), 1);
        x.moth(11, 6);
        Probe.ok(x, "that another is UNDONE counts", x.pulled(11, 0), 6);
        Probe.ok(x, "mark", x.mark(), 2);
        Probe.ok(x, "another large piece", Probe.treaty(x, large(3, 50)), 12);
        x.year(1);
        x.moth(11, 7);
        Probe.centuries(x, Probe.times("stop;", 30));
        x.live(0);
        Probe.ok(x, "back", x.back(), 1);
        Probe.shows(x, 11, "PPPPPP.p");
        Probe.worn(x, 11, 7, 7, 7, 7, 7, 7, 7, 0);
        Probe.worn(x, 10, 7, 7, 7, 7, 7, 7, 7, 7);
        Probe.ok(x, "back", x.back(), 0);
        Probe.shows(x, 11, "PPPPPPPp");
        Probe.worn(x, 11, 7, 7, 7, 7, 7, 7, 7, 0);
        Probe.ok(x, "queenOf", x.queenOf(11), (11 + 30) % 4);
        Probe.ok(x, "wool", x.wool(3), 38);
        Probe.ok(x, "clash", x.clash(5, 4), 1);
        Probe.ok(x, "worth", x.worth(3, 5, 0) * 100 + x.worth(3, 5, 1), 3031);
        Probe.ok(x, "kind", x.kind(5, 4), 2);
        Probe.ok(x, "length", x.length(5), 5);
        Probe.ok(x, "the last NAME", Probe.centuries(x, "when said cf;end;"), 1);
        lives(x, "it is not SAID", 0, 1, 0, 0, 0, 0, 0);
    }

    private static void marksKept() {
        Probe.says("the TREATY with all that became of it, the CENTURIES are kept as they are");
        KnitTreaty x = of("wide 2;tough 9;queen q wool 5;clause a is purl;clause b is hole;clash a b;gives q a 3;"
                + "row q purl 2;row q purl hole;", "year 2;stop;");
        x.year(1);
        x.moth(0, 0);
        x.darn(1, 1);
        x.shear(0, 2);
        x.rule(8);
        x.tray(0, 0, 2);
        x.mark();
        x.year(3);
        x.moth(0, 1);
        x.darn(0, 0);
        x.unravel();
        x.shear(0, 2);
        x.rule(7);
        x.quarrel(0, 1, false);
        x.value(0, 0, 0, 4);
        x.value(0, 1, 1, 4);
        x.tray(0, 3, 7);
        Probe.centuries(x, "any;");
        Probe.treaty(x, "wide 3;queen z;clause y is cable;");
        Probe.ok(x, "back", x.back(), 0);
        int[] due = {2, 8, 1, 2, 2, 1, 1, 1, 3, 3};
        for (int what = 0; what < 10; what++) {
            Probe.ok(x, "many " + what, x.many(what), due[what]);
        }
        Probe.shows(x, 0, ".P");
        Probe.shows(x, 1, "Ph");
        Probe.worn(x, 0, 1, 1);
        // By 1, and by 1 more beside the HOLE.
        Probe.worn(x, 1, 2, 0);
        Probe.is("wool", x.wool(0), 7);
        Probe.is("clash", x.clash(0, 1), 1);
        Probe.is("gives", x.worth(0, 0, 0), 3);
        Probe.is("costs", x.worth(0, 1, 1), 0);
        Probe.is("TRAYS are not", x.pour(0, 0, 0, 0, 7), true);
        Probe.says("the CENTURIES are kept");
        lives(x, "as they were", 0, 2, 0, 2, 0, 0, 0);
        Probe.says("the NAMES are kept");
        x.treaty(0);
        Probe.no(x, "of the TREATY that is gone", Probe.centuries(x, "when said b;end;"), 10);
    }

    /** All the numbers of a TREATY with as much as can be in it, each another one. */
    private static void marksFull() {
        Probe.says("MARKS: with all that became of it: as much as can be");
        StringBuilder other = new StringBuilder("wide 8;queen z;queen y wool 7;queen x wool 7;queen w wool 7;");
        StringBuilder one = new StringBuilder("wide 8;queen q;queen r;queen s;queen t;");
        for (char c = 'a'; c < 'g'; c++) {
            other.append("clause ").append((char) (c + 8)).append(" is knit;");
            one.append("clause ").append(c).append(" is hole").append(Probe.times(" cable", c < 'c' ? c - 'a' : 3)).append(" purl;");
        }
        other.append(Probe.times("row x hole 8;", 12));
        one.append(Probe.times("row q purl 8;", 11)).append("row t cable 8;");
        for (int treaties = 1; treaties < 4; treaties++) {
            KnitTreaty x = Probe.of(one.toString());
            for (int i = 0; i < 48; i++) {
                x.value(i / 12, i / 2 % 6, i % 2, i + 3);
            }
            x.quarrel(0, 1, true);
            x.quarrel(5, 4, true);
            x.shear(3, 33);
            x.darn(11, 7);
            x.mark();
            for (int i = 0; i < treaties; i++) {
                Probe.is("rows", Probe.treaty(x, other.toString()), 12);
            }
            x.back();
            marksFullBack(x);
        }
    }

    private static void marksFullBack(KnitTreaty x) {
        for (int i = 0; i < 48; i++) {
            Probe.ok(x, "worth", x.worth(i / 12, i / 2 % 6, i % 2), i + 3);
        }
        for (int i = 0; i < 6; i++) {
            Probe.ok(x, "length", x.length(i), i < 2 ? i + 2 : 5);
            Probe.ok(x, "first", x.kind(i, 0), 3);
            Probe.ok(x, "last", x.kind(i, i < 2 ? i + 1 : 4), 1);
            for (int j = 0; j < i; j++) {
                Probe.ok(x, "clash", x.clash(i, j), i + j == 1 || i + j == 9 ? 1 : 0);
            }
        }
        for (int r = 0; r < 12; r++) {
            Probe.ok(x, "queen", x.queenOf(r), r < 11 ? 0 : 3);
        }
        Probe.ok(x, "wool", x.wool(3), 133);
        Probe.ok(x, "wool", x.wool(2), 100);
        Probe.ok(x, "the last stitch", x.stitch(11, 7, 3), 1);
        Probe.shows(x, 11, "CCCCCCCc");
        Probe.ok(x, "the names", Probe.centuries(x, "when said a;end;when said f;end;pull 11 1;"), 3);
        Probe.no(x, "no other names", Probe.centuries(x, "when said q;end;"), 10);
    }
}
