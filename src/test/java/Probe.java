import java.util.LinkedHashMap;
import java.util.Map;

/** What the tests of boundary cases share: texts, rows, a piece in full use, and all that can be seen of it. */
final class Probe {
    /** A call that answers a number. */
    interface Num {
        long of(KnitTreaty x);
    }

    /** A call that answers true or false. */
    interface Yes {
        boolean of(KnitTreaty x);
    }

    /** What is done to a piece ahead of a call. */
    interface Deed {
        void to(KnitTreaty x);
    }

    /** In full use: worn, undone, darned, with a MARK, CENTURIES, TRAYS, a FRACTION, a FAULT told, bytes on the tape. */
    static final String PIECE = "wide 3;tough 9;queen ann wool 50;queen bea wool 3;clause one is knit purl;"
            + "clause two is hole;clause tri is cable knit purl;clash one two;gives ann one 9;costs bea one 4;"
            + "gives bea two 7;row ann knit purl hole;row bea cable knit purl;row ann knit 3;";

    private static int wrong = 0;
    private static String sentence = "";

    private Probe() {
    }

    /** The sentence of the document that what follows is about. */
    static void says(String words) {
        sentence = words;
    }

    static void is(String what, long got, long want) {
        if (got != want) {
            wrong++;
            System.out.println(sentence + ": " + what + " answered " + got + ", due is " + want);
        }
    }

    static void is(String what, boolean got, boolean want) {
        is(what, got ? 1 : 0, want ? 1 : 0);
    }

    /** An answer with STATUS 0. */
    static void ok(KnitTreaty x, String what, long got, long want) {
        is(what, got, want);
        is("status of " + what, x.status(), 0);
    }

    static void ok(KnitTreaty x, String what, boolean got) {
        is(what, got, true);
        is("status of " + what, x.status(), 0);
    }

    /** A refused call. */
    static void no(KnitTreaty x, String what, long got, int status) {
        is(what, got, KnitTreaty.NONE);
        is("status of " + what, x.status(), status);
    }

    static void no(KnitTreaty x, String what, boolean got, int status) {
        is(what, got, false);
        is("status of " + what, x.status(), status);
    }

    static void finish(String name) {
        System.out.println(wrong == 0 ? name + " holds" : name + ": " + wrong + " answers are not as due");
        if (wrong > 0) {
            System.exit(1);
        }
    }

    // ---- texts and rows

    /** Feeds a text, blanks behind it up to a multiple of twenty. */
    static void tape(KnitTreaty x, String s) {
        for (int at = 0; at < s.length(); at += 20) {
            int[] v = new int[5];
            for (int k = 0; k < 20; k++) {
                int c = at + k < s.length() ? s.charAt(at + k) : ' ';
                v[k / 4] = v[k / 4] << 8 | c & 255;
            }
            x.feed(v[0], v[1], v[2], v[3], v[4]);
        }
    }

    static int treaty(KnitTreaty x, String s) {
        tape(x, s);
        return x.treaty(s.length());
    }

    static int centuries(KnitTreaty x, String s) {
        tape(x, s);
        return x.centuries(s.length());
    }

    static KnitTreaty of(String s) {
        KnitTreaty x = new KnitTreaty();
        treaty(x, s);
        is("status of " + s, x.status(), 0);
        return x;
    }

    static String times(String s, int many) {
        return s.repeat(many);
    }

    /** A TRAY of KINDS, by their letters; an asterisk is -1. */
    static void row(KnitTreaty x, int tray, String kinds) {
        x.tray(tray, 0, kinds.length());
        for (int i = 0; i < kinds.length(); i++) {
            x.write(tray, i, "KPCH".indexOf(kinds.charAt(i)));
        }
    }

    /** The STITCHES of a ROW: letters, small if DARNED, a dot if UNDONE. */
    static void shows(KnitTreaty x, int row, String want) {
        StringBuilder b = new StringBuilder();
        for (int c = 0; c < want.length(); c++) {
            int kind = x.stitch(row, c, 0);
            char k = kind < 0 ? '?' : "KPCH".charAt(kind);
            b.append(x.stitch(row, c, 2) == 1 ? '.' : x.stitch(row, c, 3) == 1 ? Character.toLowerCase(k) : k);
        }
        if (!b.toString().equals(want)) {
            wrong++;
            System.out.println(sentence + ": row " + row + " is " + b + ", due is " + want);
        }
    }

    /** By how much the STITCHES of a ROW are WORN. */
    static void worn(KnitTreaty x, int row, int... want) {
        for (int c = 0; c < want.length; c++) {
            is("row " + row + " column " + c + " is worn by", x.stitch(row, c, 1), want[c]);
        }
    }

    // ---- FAULTS

    static void treatyFault(String s, int kind, int place) {
        fault(new KnitTreaty(), s, true, kind, place);
    }

    static void treatyFine(String s) {
        fault(new KnitTreaty(), s, true, 0, KnitTreaty.NONE);
    }

    static void fault(KnitTreaty x, String s, boolean treaty, int kind, int place) {
        int got = treaty ? treaty(x, s) : centuries(x, s);
        if (kind == 0) {
            is("status of <" + s + ">", x.status(), 0);
        } else {
            no(x, "<" + s + ">", got, 10);
        }
        is("fault of <" + s + ">", x.fault(0), kind);
        is("place in <" + s + ">", x.fault(1), place);
    }

    // ---- a piece in full use

    static KnitTreaty piece() {
        KnitTreaty x = of(PIECE);
        x.mark();
        x.year(2);
        x.moth(0, 1);
        x.darn(1, 2);
        x.tray(0, 0, 3);
        x.write(0, 0, 1);
        x.write(0, 2, 3);
        x.tray(1, 3, 4);
        x.write(1, 1, -1);
        x.write(1, 3, 1L << 40);
        x.tray(2, 1, 2);
        x.write(2, 1, 300);
        centuries(x, "any;when said one;year 1;end;darn 0 0;");
        x.live(3);
        x.chance(0, 1);
        tape(x, "year 1;?");
        x.centuries(8);
        tape(x, "wide 5;?");
        return x;
    }

    /** All that can be seen of a piece; what is seen last is by calls that change it. */
    static Map<String, Long> seen(KnitTreaty x) {
        Map<String, Long> all = new LinkedHashMap<>();
        all.put("top", x.top());
        all.put("bottom", x.bottom());
        all.put("fault 0", (long) x.fault(0));
        all.put("fault 1", (long) x.fault(1));
        seenTrays(x, all);
        seenState(x, all, "");
        for (int what = 0; what < 5; what++) {
            all.put("lived " + what, (long) x.lived(what));
        }
        all.put("then live", (long) x.live(7));
        for (int what = 0; what < 9; what++) {
            all.put("then many " + what, (long) x.many(what));
        }
        for (int i = 0; i < 4; i++) {
            all.put("back " + i, (long) x.back());
            for (int what = 0; what < 10; what++) {
                all.put("back " + i + " many " + what, (long) x.many(what));
            }
        }
        all.put("tape", (long) x.feed(0, 0, 0, 0, 0));
        all.put("tape treaty", (long) x.treaty(8));
        all.put("tape fault", (long) x.fault(0));
        all.put("tape place", (long) x.fault(1));
        return all;
    }

    private static void seenTrays(KnitTreaty x, Map<String, Long> all) {
        for (int t = 0; t < 4; t++) {
            int status = 0;
            for (int p = 0; status == 0; p++) {
                all.put("tray " + t + " " + p, x.read(t, p));
                status = x.status();
            }
            all.put("tray " + t + " ends by", (long) status);
            if (x.write(t, 0, 0x8182838485868788L)) {
                all.put("tray " + t + " cuts", x.read(t, 0));
            }
        }
    }

    private static void seenState(KnitTreaty x, Map<String, Long> all, String when) {
        int[] many = new int[10];
        for (int what = 0; what < 10; what++) {
            many[what] = x.many(what);
            all.put(when + "many " + what, (long) many[what]);
        }
        for (int r = 0; r < many[4]; r++) {
            all.put(when + "queenOf " + r, (long) x.queenOf(r));
            for (int c = 0; c < many[0] && many[4] * many[0] < 60; c++) {
                for (int what = 0; what < 4; what++) {
                    all.put(when + "stitch " + r + " " + c + " " + what, (long) x.stitch(r, c, what));
                }
            }
        }
        for (int q = 0; q < many[2]; q++) {
            all.put(when + "wool " + q, (long) x.wool(q));
            for (int c = 0; c < many[3]; c++) {
                all.put(when + "worth " + q + " " + c + " 0", (long) x.worth(q, c, 0));
                all.put(when + "worth " + q + " " + c + " 1", (long) x.worth(q, c, 1));
            }
        }
        for (int c = 0; c < many[3]; c++) {
            all.put(when + "length " + c, (long) x.length(c));
            for (int k = 0; k < 3; k++) {
                all.put(when + "kind " + c + " " + k, (long) x.kind(c, k));
            }
            for (int o = c + 1; o < many[3]; o++) {
                all.put(when + "clash " + c + " " + o, (long) x.clash(c, o));
                all.put(when + "clash " + o + " " + c, (long) x.clash(o, c));
            }
        }
    }

    /** Holds all that is seen of two pieces together: only keys of a pattern may differ. */
    static void same(String what, KnitTreaty x, KnitTreaty twin, String mayDiffer) {
        Map<String, Long> one = seen(x);
        Map<String, Long> other = seen(twin);
        for (Map.Entry<String, Long> e : other.entrySet()) {
            Long got = one.get(e.getKey());
            if (!e.getKey().matches(mayDiffer) && !e.getValue().equals(got)) {
                wrong++;
                System.out.println(sentence + ": " + what + " leaves " + e.getKey() + " as " + got + ", due is "
                        + e.getValue());
            }
        }
        for (String key : one.keySet()) {
            if (!key.matches(mayDiffer) && !other.containsKey(key)) {
                wrong++;
                System.out.println(sentence + ": " + what + " makes " + key);
            }
        }
    }
}
