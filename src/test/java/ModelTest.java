import java.util.Random;

/** Random runs of calls, each answer held against the model's; no object is used for more than 512 calls. */
public final class ModelTest {
    private static final String[] KINDS = {"knit", "purl", "cable", "hole"};
    private static final String[] QUEENS = {"ann", "bea", "cleo", "dora", "emma"};
    private static final String[] CLAUSES = {"fish", "reef", "salt", "tide", "whale", "harbours", "crab"};
    private static final int MOST_CALLS = 512;
    // A text of 900 bytes and the call that reads it, with all that is asked behind them.
    private static final int DEAREST = 110;
    private static final String[] ODD = {";", "<", ">", "=", "0", "1", "7", "12", "100", "9999", "12345", "!", "A",
        "wide", "tough", "queen", "wool", "clause", "is", "clash", "gives", "costs", "row", "knit", "purl", "cable",
        "hole", "year", "pull", "moth", "darn", "any", "when", "said", "whole", "undone", "loop", "end", "stop",
        "ann", "fish", "nobody", "verylongname", "eightlet", "\n", ""};

    private final Random random;
    private final KnitTreaty x = new KnitTreaty();
    private final Model m = new Model();
    private final StringBuilder told = new StringBuilder();
    private int calls = 0;
    private static int wrong = 0;
    private static final java.util.Map<String, int[]> SEEN = new java.util.TreeMap<>();

    private ModelTest(long seed) {
        random = new Random(seed);
    }

    public static void main(String[] args) {
        int runs = args.length > 0 ? Integer.parseInt(args[0]) : 4000;
        for (int seed = 0; seed < runs && wrong < 5; seed++) {
            new ModelTest(seed).play(seed);
        }
        if (args.length > 1) {
            for (java.util.Map.Entry<String, int[]> e : SEEN.entrySet()) {
                System.out.println(e.getKey() + " " + e.getValue()[0]);
            }
        }
        System.out.println(wrong == 0 ? "the model agrees" : "the model does not agree");
        if (wrong > 0) {
            System.exit(1);
        }
    }

    private void play(long seed) {
        boolean same = true;
        for (int i = 0; calls < MOST_CALLS - DEAREST && same; i++) {
            if (i == 1 || random.nextInt(60) == 0) {
                same = text(true);
            } else if (i == 2 || random.nextInt(25) == 0) {
                same = text(false);
            } else {
                same = call(random.nextInt(59));
            }
        }
        if (!same) {
            wrong++;
            System.out.println("seed " + seed + "\n" + told);
        } else if (calls > MOST_CALLS) {
            wrong++;
            System.out.println("seed " + seed + " takes " + calls + " calls");
        }
    }

    private int n(int most) {
        return random.nextInt(20) == 0 ? random.nextInt(most + 8) - 4 : random.nextInt(most);
    }

    private int rows() {
        return Math.max(1, m.now.rows.size());
    }

    private int queens() {
        return Math.max(1, m.now.wool.size());
    }

    private int clauses() {
        return Math.max(1, m.now.runs.size());
    }

    private int wide() {
        return m.now.wide;
    }

    /** Most calls are held with STATUS alone, some with all else that tells of the latest ones. */
    private boolean is(String call, long got, long want) {
        calls += 2;
        int status = x.status();
        told.append("  ").append(call).append(" => ").append(got).append(", due is ").append(want).append(" status ")
                .append(status).append("/").append(m.status).append("\n");
        String name = call.indexOf('(') < 0 ? call : call.substring(0, call.indexOf('('));
        SEEN.computeIfAbsent(name + " " + m.status + (m.status == 10 ? " fault " + m.faultKind : ""),
                k -> new int[1])[0]++;
        boolean same = got == want && status == m.status;
        boolean text = name.equals("treaty") || name.equals("centuries");
        if (same && (text || random.nextInt(20) == 0)) {
            calls += 2;
            same = x.fault(0) == m.fault(0) && x.fault(1) == m.fault(1);
        }
        if (same && (name.equals("chance") || name.equals("mean") || random.nextInt(20) == 0)) {
            calls += 2;
            same = x.top() == m.top && x.bottom() == m.bottom;
        }
        return same;
    }

    private boolean is(String call, boolean got, boolean want) {
        return is(call, got ? 1 : 0, want ? 1 : 0);
    }

    // ---- texts

    private boolean text(boolean treaty) {
        String s = treaty ? treatyText() : centuryText();
        if (random.nextInt(3) == 0) {
            s = spoiled(s);
        }
        if (s.length() > 880) {
            s = s.substring(0, 880);
        }
        told.append("  text: ").append(s).append("\n");
        boolean same = true;
        for (int at = 0; at < s.length() && same; at += 20) {
            int[] v = new int[5];
            for (int k = 0; k < 20; k++) {
                int c = at + k < s.length() ? s.charAt(at + k) : ' ';
                v[k / 4] = v[k / 4] << 8 | c & 255;
            }
            calls++;
            same = x.feed(v[0], v[1], v[2], v[3], v[4]) == m.feed(v[0], v[1], v[2], v[3], v[4]);
        }
        int n = s.length() + (random.nextInt(15) == 0 ? random.nextInt(41) - 20 : 0);
        return same && (treaty ? is("treaty(" + n + ")", x.treaty(n), m.treaty(n))
                : is("centuries(" + n + ")", x.centuries(n), m.centuries(n)));
    }

    private String spoiled(String s) {
        StringBuilder b = new StringBuilder(s);
        int at = random.nextInt(b.length() + 1);
        String odd = ODD[random.nextInt(ODD.length)];
        switch (random.nextInt(4)) {
            case 0:
                b.insert(at, " " + odd + " ");
                break;
            case 1:
                b.insert(at, odd);
                break;
            case 2:
                b.delete(at, Math.min(b.length(), at + 1 + random.nextInt(8)));
                break;
            default:
                String[] words = s.split(" ");
                words[random.nextInt(words.length)] = odd;
                return String.join(" ", words);
        }
        return b.toString();
    }

    private String blank() {
        return random.nextInt(10) == 0 ? "\n " : " ";
    }

    private String treatyText() {
        StringBuilder b = new StringBuilder();
        int wide = 6;
        if (random.nextInt(4) > 0) {
            wide = 1 + random.nextInt(8);
            b.append("wide ").append(wide).append(blank()).append("; ");
        }
        if (random.nextInt(4) > 0) {
            b.append("tough ").append(1 + random.nextInt(random.nextBoolean() ? 12 : 50)).append(" ; ");
        }
        int queens = random.nextInt(12) == 0 ? random.nextInt(6) : 1 + random.nextInt(4);
        for (int i = 0; i < queens; i++) {
            b.append("queen ").append(QUEENS[i % 5]);
            if (random.nextBoolean()) {
                b.append(" wool ").append(random.nextInt(random.nextBoolean() ? 20 : 1000));
            }
            b.append(" ;").append(blank());
        }
        int clauses = random.nextInt(12) == 0 ? random.nextInt(8) : 1 + random.nextInt(6);
        int kinds = 1 + random.nextInt(4);
        for (int i = 0; i < clauses; i++) {
            b.append("clause ").append(CLAUSES[i % 7]).append(" is");
            int most = random.nextInt(60) == 0 ? 7 : Math.min(5, wide);
            for (int k = 1 + random.nextInt(most); k > 0; k--) {
                b.append(' ').append(KINDS[random.nextInt(kinds)]);
            }
            b.append(" ; ");
        }
        if (queens > 0 && clauses > 0) {
            pairs(b, Math.min(queens, 4), Math.min(clauses, 6));
        }
        int rows = random.nextInt(12) == 0 ? 13 : random.nextInt(10);
        for (int i = 0; i < rows && queens > 0; i++) {
            b.append("row ").append(QUEENS[random.nextInt(queens) % 5]);
            int left = wide + (random.nextInt(80) == 0 ? random.nextInt(3) - 1 : 0);
            while (left > 0) {
                int times = 1 + random.nextInt(left);
                b.append(' ').append(KINDS[random.nextInt(kinds)]);
                if (times > 1 || random.nextBoolean()) {
                    b.append(' ').append(times);
                }
                left -= times;
            }
            b.append(" ; ");
        }
        return b.toString();
    }

    private void pairs(StringBuilder b, int queens, int clauses) {
        for (int i = random.nextInt(4); i > 0; i--) {
            int one = random.nextInt(clauses);
            int other = random.nextInt(clauses);
            if (one != other || random.nextInt(20) == 0) {
                b.append("clash ").append(CLAUSES[one]).append(' ').append(CLAUSES[other]).append(" ; ");
            }
        }
        for (int i = random.nextInt(8); i > 0; i--) {
            b.append(random.nextBoolean() ? "gives " : "costs ").append(QUEENS[random.nextInt(queens)]).append(' ')
                    .append(CLAUSES[random.nextInt(clauses)]).append(' ').append(random.nextInt(12)).append(" ; ");
        }
    }

    private String centuryText() {
        StringBuilder b = new StringBuilder();
        steps(b, 0, 1 + random.nextInt(random.nextInt(8) == 0 ? 33 : 8));
        return b.toString();
    }

    private void steps(StringBuilder b, int depth, int many) {
        for (int i = 0; i < many; i++) {
            switch (random.nextInt(12)) {
                case 0:
                case 1:
                    b.append("year ").append(1 + random.nextInt(random.nextBoolean() ? 3 : 20));
                    break;
                case 2:
                    b.append("pull ").append(random.nextInt(rows())).append(' ').append(random.nextInt(2));
                    break;
                case 3:
                    b.append("moth ").append(random.nextInt(rows())).append(' ').append(random.nextInt(wide()));
                    break;
                case 4:
                    b.append("darn ").append(random.nextInt(rows())).append(' ').append(random.nextInt(wide()));
                    break;
                case 5:
                    b.append(random.nextInt(6) == 0 ? "stop" : "any");
                    break;
                case 6:
                case 7:
                case 8:
                    opens(b, depth);
                    break;
                default:
                    b.append("any");
                    break;
            }
            b.append(random.nextBoolean() ? ";" : " ; ");
        }
    }

    private void opens(StringBuilder b, int depth) {
        if (depth > (random.nextInt(20) == 0 ? 3 : 2)) {
            b.append("any");
            return;
        }
        switch (random.nextInt(5)) {
            case 0:
                b.append("when said ").append(CLAUSES[random.nextInt(clauses())]);
                break;
            case 1:
                b.append("when whole ").append(random.nextInt(rows()));
                break;
            case 2:
                b.append("when undone ").append("<>=".charAt(random.nextInt(3))).append(' ')
                        .append(random.nextInt(30));
                break;
            default:
                b.append("loop ").append(1 + random.nextInt(random.nextBoolean() ? 4 : 99));
                break;
        }
        b.append(" ; ");
        steps(b, depth + 1, random.nextInt(5));
        b.append("end ");
    }

    // ---- calls

    private boolean fill(int t, int least) {
        boolean same = is("tray", x.tray(t, 0, wide()), m.tray(t, 0, wide()));
        int kinds = 1 + random.nextInt(4);
        int known = random.nextInt(4);
        for (int i = 0; i < wide() && same && m.status == 0; i++) {
            int v = least < 0 && random.nextInt(4) >= known ? -1 : random.nextInt(kinds);
            v = random.nextInt(200) == 0 ? 4 : v;
            same = is("write(" + v + ")", x.write(t, i, v), m.write(t, i, v));
        }
        return same;
    }

    private boolean call(int which) {
        int a = n(5);
        int r = n(rows());
        int q = n(queens());
        int c = n(clauses());
        int o = n(clauses());
        int col = n(wide());
        int side = n(2);
        int t = n(4);
        int set = n(1 << m.now.runs.size());
        int k = n(6);
        if (which < 20) {
            return callFirst(which, a, r, q, c, o, col, t, k);
        }
        return which < 40 ? callSecond(which, r, q, c, o, col, side, t) : callThird(which, r, q, c, side, t, set, k);
    }

    private boolean callFirst(int which, int a, int r, int q, int c, int o, int col, int t, int k) {
        String s = "(" + a + " r" + r + " q" + q + " c" + c + " o" + o + " col" + col + " t" + t + " k" + k + ")";
        int sort = n(4);
        int many = n(61);
        int i = n(20);
        int j = n(20);
        int years = n(100);
        long v = random.nextLong() >> random.nextInt(64);
        switch (which) {
            case 0:
                return is("tray" + s, x.tray(t, sort, many), m.tray(t, sort, many));
            case 1:
                return is("write" + s, x.write(t, i, v), m.write(t, i, v));
            case 2:
                return is("read" + s, x.read(t, i), m.read(t, i));
            case 3:
                return is("pour" + s, x.pour(t, i, a, j, k), m.pour(t, i, a, j, k));
            case 4:
                return is("fault" + s, x.fault(a), m.fault(a));
            case 5:
                return is("many" + s, x.many(i - 5), m.many(i - 5));
            case 6:
                return is("stitch" + s, x.stitch(r, col, sort), m.stitch(r, col, sort));
            case 7:
                return is("queenOf" + s, x.queenOf(r), m.queenOf(r));
            case 8:
                return is("wool" + s, x.wool(q), m.wool(q));
            case 9:
                return is("length" + s, x.length(c), m.length(c));
            case 10:
                return is("kind" + s, x.kind(c, k), m.kind(c, k));
            case 11:
                return is("clash" + s, x.clash(c, o), m.clash(c, o));
            case 12:
                return is("worth" + s, x.worth(q, c, a - 1), m.worth(q, c, a - 1));
            case 13:
                return is("copyRow" + s, x.copyRow(r, t), m.copyRow(r, t));
            case 14:
            case 15:
                years = random.nextInt(5) > 0 ? 1 + random.nextInt(3) : years;
                return is("year" + s + years, x.year(years), m.year(years));
            case 16:
                return is("darn" + s, x.darn(r, col), m.darn(r, col));
            case 17:
                return is("moth" + s, x.moth(r, col), m.moth(r, col));
            case 18:
                return is("darn" + s, x.darn(r, col), m.darn(r, col));
            default:
                return (t < 0 || random.nextInt(3) == 0 || fill(t, 0)) && is("knit" + s, x.knit(q, t), m.knit(q, t));
        }
    }

    private boolean callSecond(int which, int r, int q, int c, int o, int col, int side, int t) {
        String s = "(r" + r + " q" + q + " c" + c + " o" + o + " col" + col + " side" + side + " t" + t + ")";
        int much = n(100);
        int what = n(2);
        boolean is = random.nextBoolean();
        switch (which) {
            case 20:
                return is("unravel" + s, x.unravel(), m.unravel());
            case 21:
                return is("shear" + s, x.shear(q, much * 10), m.shear(q, much * 10));
            case 22:
                return is("rule" + s, x.rule(much), m.rule(much));
            case 23:
                return is("quarrel" + s, x.quarrel(c, o, is), m.quarrel(c, o, is));
            case 24:
                return is("value" + s, x.value(q, c, what, much), m.value(q, c, what, much));
            case 25:
                return is("saidIn" + s, x.saidIn(c, r), m.saidIn(c, r));
            case 26:
                return is("said" + s, x.said(c), m.said(c));
            case 27:
                return is("firstSaid" + s, x.firstSaid(c), m.firstSaid(c));
            case 28:
                return is("binds" + s, x.binds(c), m.binds(c));
            case 29:
                return is("boundBy" + s, x.boundBy(q), m.boundBy(q));
            case 30:
                return is("clashes" + s, x.clashes(), m.clashes());
            case 31:
                return is("firstClash" + s, x.firstClash(), m.firstClash());
            case 32:
                return (random.nextInt(3) == 0 || fill(t, 0)) && is("needs" + s, x.needs(t), m.needs(t));
            case 33:
                return is("lost" + s, x.lost(c), m.lost(c));
            case 34:
                return is("undoneIn" + s, x.undoneIn(much), m.undoneIn(much));
            case 35:
                return is("firstLost" + s, x.firstLost(), m.firstLost());
            case 36:
                return is("pulled" + s, x.pulled(r, side), m.pulled(r, side));
            case 37:
                return is("worstPull" + s, x.worstPull(), m.worstPull());
            case 38:
                return is("pulledOut" + s, x.pulledOut(r, side), m.pulledOut(r, side));
            default:
                return is("mendSet" + s, x.mendSet(c, r, side), m.mendSet(c, r, side));
        }
    }

    private boolean callThird(int which, int r, int q, int c, int side, int t, int set, int k) {
        String s = "(r" + r + " q" + q + " c" + c + " side" + side + " t" + t + " set" + set + " k" + k + ")";
        int seed = random.nextInt(20) == 0 ? 9990 + random.nextInt(15) : n(9999);
        int many = random.nextInt(4) == 0 ? n(21) : n(4);
        int col = n(wide());
        boolean ready = which < 48 || which > 51 || random.nextInt(3) == 0 || fill(t, -1);
        switch (which) {
            case 40:
                return is("mend" + s, x.mend(c, r, side), m.mend(c, r, side));
            case 41:
                return is("shortest" + s, x.shortest(set), m.shortest(set));
            case 42:
                return is("shortestAt" + s, x.shortestAt(set, 2 * k), m.shortestAt(set, 2 * k));
            case 43:
                return is("wins" + s, x.wins(q, set), m.wins(q, set));
            case 44:
                return is("bargain" + s, x.bargain(), m.bargain());
            case 45:
                return is("bargainWorth" + s, x.bargainWorth(), m.bargainWorth());
            case 46:
                return is("stable" + s, x.stable(set), m.stable(set));
            case 47:
                return is("stables" + s, x.stables(), m.stables());
            case 48:
                return ready && is("fills" + s, x.fills(c, t), m.fills(c, t));
            case 49:
                return ready && is("chance" + s, x.chance(c, t), m.chance(c, t));
            case 50:
                return ready && is("look" + s, x.look(c, t), m.look(c, t));
            case 51:
                return ready && is("sure" + s, x.sure(c, t, col), m.sure(c, t, col));
            case 52:
                return is("live" + s + seed, x.live(seed), m.live(seed));
            case 53:
                return is("lived" + s, x.lived(k - 1), m.lived(k - 1));
            case 54:
                return is("mean" + s + seed + " " + many, x.mean(seed, many), m.mean(seed, many));
            case 55:
                return is("mark" + s, x.mark(), m.mark());
            case 56:
                return is("back" + s, x.back(), m.back());
            case 57:
                return is("pull" + s, x.pull(r, side), m.pull(r, side));
            default:
                return is("year" + s, x.year(1), m.year(1));
        }
    }
}
