import java.util.ArrayDeque;
import java.util.ArrayList;
import java.util.Arrays;
import java.util.HashMap;
import java.util.HashSet;
import java.util.LinkedHashMap;
import java.util.List;
import java.util.Map;
import java.util.Set;

/** A second, slow telling of the document, by other means, to hold the class against. */
final class Model {
    static final Set<String> WORDS = new HashSet<>(Arrays.asList(("wide tough queen wool clause is clash gives costs"
            + " row knit purl cable hole year pull moth darn any when said whole undone loop end stop").split(" ")));
    static final List<String> KINDS = Arrays.asList("knit", "purl", "cable", "hole");
    static final int[] WOOL = {1, 1, 2, 0};

    static final class Stitch {
        int kind;
        int worn;
        boolean undone;
        boolean darned;

        Stitch(int kind) {
            this.kind = kind;
        }

        Stitch copy() {
            Stitch s = new Stitch(kind);
            s.worn = worn;
            s.undone = undone;
            s.darned = darned;
            return s;
        }

        boolean loose() {
            return !undone && !darned;
        }
    }

    static final class Row {
        final int queen;
        final List<Stitch> stitches = new ArrayList<>();

        Row(int queen) {
            this.queen = queen;
        }
    }

    static final class Node {
        String op;
        int a;
        int b;
        String test = "";
        final List<Node> body = new ArrayList<>();
    }

    static final class Treaty {
        int wide = 6;
        int tough = 20;
        int year = 0;
        final List<Integer> wool = new ArrayList<>();
        final Map<String, Integer> queens = new LinkedHashMap<>();
        final Map<String, Integer> clauses = new LinkedHashMap<>();
        final List<String> runs = new ArrayList<>();
        final Set<String> clash = new HashSet<>();
        final Map<String, Integer> worth = new HashMap<>();
        final List<Row> rows = new ArrayList<>();
        List<Node> centuries = null;
        int steps = 0;

        Treaty copy() {
            Treaty t = new Treaty();
            t.wide = wide;
            t.tough = tough;
            t.year = year;
            t.wool.addAll(wool);
            t.queens.putAll(queens);
            t.clauses.putAll(clauses);
            t.runs.addAll(runs);
            t.clash.addAll(clash);
            t.worth.putAll(worth);
            t.centuries = centuries;
            t.steps = steps;
            for (Row r : rows) {
                Row c = new Row(r.queen);
                for (Stitch s : r.stitches) {
                    c.stitches.add(s.copy());
                }
                t.rows.add(c);
            }
            return t;
        }

        boolean clashing(int i, int j) {
            return clash.contains(Math.min(i, j) + "," + Math.max(i, j));
        }

        int worth(int q, int c, int what) {
            return worth.getOrDefault(q + "," + c + "," + what, 0);
        }

        int undone() {
            int n = 0;
            for (Row r : rows) {
                for (Stitch s : r.stitches) {
                    n += s.undone ? 1 : 0;
                }
            }
            return n;
        }

        String text(int row) {
            StringBuilder b = new StringBuilder();
            for (Stitch s : rows.get(row).stitches) {
                b.append(s.undone ? "x" : String.valueOf(s.kind));
            }
            return b.toString();
        }

        List<Integer> places(int clause, int row) {
            List<Integer> l = new ArrayList<>();
            String t = text(row);
            for (int at = t.indexOf(runs.get(clause)); at >= 0; at = t.indexOf(runs.get(clause), at + 1)) {
                l.add(at);
            }
            return l;
        }

        int said(int clause) {
            int n = 0;
            for (int r = 0; r < rows.size(); r++) {
                n += places(clause, r).size();
            }
            return n;
        }

        int saidSet() {
            int set = 0;
            for (int c = 0; c < runs.size(); c++) {
                set |= said(c) > 0 ? 1 << c : 0;
            }
            return set;
        }

        /** LADDERS by asking again and again till nothing more comes undone. */
        void ladders(int before) {
            if (undone() == before) {
                return;
            }
            boolean more = true;
            while (more) {
                more = false;
                for (int r = 1; r < rows.size(); r++) {
                    for (int c = 0; c < wide; c++) {
                        Stitch s = rows.get(r).stitches.get(c);
                        if (s.kind == 0 && s.loose() && rows.get(r - 1).stitches.get(c).undone) {
                            s.undone = true;
                            more = true;
                        }
                    }
                }
            }
        }

        int age() {
            int before = undone();
            Treaty old = copy();
            for (int r = 0; r < rows.size(); r++) {
                for (int c = 0; c < wide; c++) {
                    Stitch s = rows.get(r).stitches.get(c);
                    if (!old.rows.get(r).stitches.get(c).loose()) {
                        continue;
                    }
                    int by = 1;
                    for (int d = -1; d <= 1; d += 2) {
                        if (c + d >= 0 && c + d < wide) {
                            Stitch beside = old.rows.get(r).stitches.get(c + d);
                            by += beside.kind == 3 || beside.undone ? 1 : 0;
                        }
                    }
                    s.worn = Math.min(99, s.worn + by);
                    s.undone = s.worn >= tough;
                }
            }
            ladders(before);
            year++;
            return undone() - before;
        }

        int pull(int row, int side) {
            int before = undone();
            int c = side == 0 ? 0 : wide - 1;
            while (c >= 0 && c < wide) {
                Stitch s = rows.get(row).stitches.get(c);
                if (s.darned || s.kind == 2 && !s.undone) {
                    break;
                }
                s.undone = true;
                c += side == 0 ? 1 : -1;
            }
            ladders(before);
            return undone() - before;
        }

        int moth(int row, int column) {
            Stitch s = rows.get(row).stitches.get(column);
            if (!s.loose()) {
                return 0;
            }
            int before = undone();
            s.undone = true;
            ladders(before);
            return undone() - before;
        }

        int darn(int row, int column) {
            Stitch s = rows.get(row).stitches.get(column);
            int w = s.worn;
            s.worn = 0;
            s.undone = false;
            s.darned = true;
            return w;
        }

        int wins(int q, int set) {
            int n = 0;
            for (int c = 0; c < runs.size(); c++) {
                if ((set & 1 << c) != 0) {
                    n += worth(q, c, 0) - worth(q, c, 1);
                }
            }
            return n;
        }

        boolean fair(int set) {
            for (int i = 0; i < runs.size(); i++) {
                for (int j = 0; j < i; j++) {
                    if ((set & 1 << i) != 0 && (set & 1 << j) != 0 && clashing(i, j)) {
                        return false;
                    }
                }
            }
            for (int q = 0; q < wool.size(); q++) {
                if (wins(q, set) < 0) {
                    return false;
                }
            }
            return true;
        }

        int all(int set) {
            int n = 0;
            for (int q = 0; q < wool.size(); q++) {
                n += wins(q, set);
            }
            return n;
        }

        int bargain() {
            int best = 0;
            for (int set = (1 << runs.size()) - 1; set >= 0; set--) {
                if (fair(set) && (!fair(best) || all(set) >= all(best))) {
                    best = set;
                }
            }
            return best;
        }

        boolean stable(int set) {
            if (!fair(set)) {
                return false;
            }
            for (int q = 0; q < wool.size(); q++) {
                for (int c = 0; c < runs.size(); c++) {
                    if ((set & 1 << c) != 0 && wins(q, set & ~(1 << c)) > wins(q, set)) {
                        return false;
                    }
                }
            }
            return true;
        }

        /** By breadth: the first run found is the shortest, and of these the first by KINDS. */
        String shortest(int set) {
            ArrayDeque<String> queue = new ArrayDeque<>();
            Set<String> met = new HashSet<>();
            queue.add("");
            while (!queue.isEmpty()) {
                String run = queue.poll();
                int has = 0;
                for (int c = 0; c < runs.size(); c++) {
                    has |= run.contains(runs.get(c)) ? 1 << c : 0;
                }
                if ((has & set) == set) {
                    return run;
                }
                String end = run.length() > 4 ? run.substring(run.length() - 4) : run;
                if (met.add((has & set) + ":" + end)) {
                    for (int k = 0; k < 4; k++) {
                        queue.add(run + k);
                    }
                }
            }
            return "";
        }
    }

    static final class Fault extends RuntimeException {
        private static final long serialVersionUID = 1L;
        final int kind;
        final int place;

        Fault(int kind, int place) {
            super(null, null, false, false);
            this.kind = kind;
            this.place = place;
        }
    }

    static final class Tok {
        final String text;
        final int place;

        Tok(String text, int place) {
            this.text = text;
            this.place = place;
        }

        boolean word() {
            return text.matches("[a-z]+");
        }

        boolean number() {
            return text.matches("[0-9]{1,4}");
        }

        boolean name() {
            return text.matches("[a-z]{1,8}") && !WORDS.contains(text);
        }

        boolean bad() {
            return !text.isEmpty() && !word() && !number() && !text.matches("[;<>=]");
        }
    }

    /** Reads along TOKENS; an empty TOKEN is the end. */
    static final class Text {
        final List<Tok> toks = new ArrayList<>();
        int at = 0;

        Text(String s) {
            java.util.regex.Matcher m = java.util.regex.Pattern
                    .compile("[a-z]+|[0-9]+|[^ \n]", java.util.regex.Pattern.DOTALL).matcher(s);
            while (m.find()) {
                toks.add(new Tok(m.group(), m.start()));
            }
            toks.add(new Tok("", s.length()));
        }

        Tok see() {
            return toks.get(at);
        }

        Fault fault(int kind) {
            return new Fault(see().bad() ? 1 : kind, see().place);
        }

        Tok next() {
            if (see().text.isEmpty() || see().bad()) {
                throw fault(2);
            }
            return toks.get(at++);
        }

        void want(String s) {
            if (!see().text.equals(s)) {
                throw fault(2);
            }
            next();
        }

        int number(int least, int most) {
            if (!see().number()) {
                throw fault(2);
            }
            int v = Integer.parseInt(see().text);
            if (v < least || v > most) {
                throw fault(4);
            }
            next();
            return v;
        }

        String newName(Treaty t) {
            if (!see().name()) {
                throw fault(2);
            }
            if (t.queens.containsKey(see().text) || t.clauses.containsKey(see().text)) {
                throw fault(3);
            }
            return next().text;
        }

        int oldName(Map<String, Integer> of) {
            if (!see().name()) {
                throw fault(2);
            }
            if (!of.containsKey(see().text)) {
                throw fault(3);
            }
            return of.get(next().text);
        }
    }

    static Treaty readTreaty(String s) {
        Treaty t = new Treaty();
        Text x = new Text(s);
        Set<String> told = new HashSet<>();
        while (!x.see().text.isEmpty()) {
            String word = x.see().text;
            if (word.equals("wide") || word.equals("tough")) {
                if (!t.runs.isEmpty() || !t.rows.isEmpty()) {
                    throw x.fault(2);
                }
                if (!told.add(word)) {
                    throw x.fault(5);
                }
                x.next();
                if (word.equals("wide")) {
                    t.wide = x.number(1, 8);
                } else {
                    t.tough = x.number(1, 50);
                }
            } else if (word.equals("queen")) {
                if (t.wool.size() == 4) {
                    throw x.fault(6);
                }
                x.next();
                t.queens.put(x.newName(t), t.wool.size());
                int w = 100;
                if (x.see().text.equals("wool")) {
                    x.next();
                    w = x.number(0, 999);
                }
                t.wool.add(w);
            } else if (word.equals("clause")) {
                readClause(x, t);
            } else if (word.equals("clash")) {
                x.next();
                int i = x.oldName(t.clauses);
                if (x.see().name() && Integer.valueOf(i).equals(t.clauses.get(x.see().text))) {
                    throw x.fault(5);
                }
                int j = x.oldName(t.clauses);
                t.clash.add(Math.min(i, j) + "," + Math.max(i, j));
            } else if (word.equals("gives") || word.equals("costs")) {
                x.next();
                int q = x.oldName(t.queens);
                int c = x.oldName(t.clauses);
                t.worth.put(q + "," + c + "," + (word.equals("gives") ? 0 : 1), x.number(0, 99));
            } else if (word.equals("row")) {
                readRow(x, t);
            } else {
                throw x.fault(2);
            }
            x.want(";");
        }
        return t;
    }

    private static void readClause(Text x, Treaty t) {
        if (t.runs.size() == 6) {
            throw x.fault(6);
        }
        x.next();
        String name = x.newName(t);
        x.want("is");
        StringBuilder run = new StringBuilder();
        do {
            if (!KINDS.contains(x.see().text)) {
                throw x.fault(2);
            }
            if (run.length() == 5 || run.length() == t.wide) {
                throw x.fault(6);
            }
            run.append(KINDS.indexOf(x.next().text));
        } while (KINDS.contains(x.see().text));
        t.clauses.put(name, t.runs.size());
        t.runs.add(run.toString());
    }

    private static void readRow(Text x, Treaty t) {
        if (t.rows.size() == 12) {
            throw x.fault(6);
        }
        x.next();
        Row row = new Row(x.oldName(t.queens));
        while (KINDS.contains(x.see().text)) {
            if (row.stitches.size() == t.wide) {
                throw x.fault(6);
            }
            int kind = KINDS.indexOf(x.next().text);
            int times = 1;
            if (x.see().number()) {
                int v = Integer.parseInt(x.see().text);
                if (v >= 1 && v <= 8 && row.stitches.size() + v > t.wide) {
                    throw x.fault(6);
                }
                times = x.number(1, 8);
            }
            for (int i = 0; i < times; i++) {
                row.stitches.add(new Stitch(kind));
            }
        }
        if (row.stitches.size() < t.wide) {
            throw x.fault(2);
        }
        t.rows.add(row);
    }

    private static final class Count {
        int steps = 0;
    }

    /** The STEPS up to an end (or to the text's end, outermost). */
    private static List<Node> readSteps(Text x, Treaty t, int depth, Count count) {
        List<Node> list = new ArrayList<>();
        List<String> words = Arrays.asList("year", "pull", "moth", "darn", "any", "when", "loop", "stop");
        while (true) {
            String word = x.see().text;
            if (word.isEmpty() && depth == 0) {
                return list;
            }
            if (word.equals("end") && depth > 0) {
                x.next();
                x.want(";");
                return list;
            }
            if (!words.contains(word)) {
                throw x.fault(2);
            }
            if (++count.steps == 31) {
                throw x.fault(6);
            }
            boolean opens = word.equals("when") || word.equals("loop");
            if (opens && depth == 3) {
                throw x.fault(7);
            }
            x.next();
            Node n = new Node();
            n.op = word;
            list.add(n);
            readArguments(x, t, n);
            x.want(";");
            if (opens) {
                n.body.addAll(readSteps(x, t, depth + 1, count));
            }
        }
    }

    private static void readArguments(Text x, Treaty t, Node n) {
        switch (n.op) {
            case "year":
                n.a = x.number(1, 20);
                break;
            case "loop":
                n.a = x.number(1, 99);
                break;
            case "pull":
                n.a = x.number(0, t.rows.size() - 1);
                n.b = x.number(0, 1);
                break;
            case "moth":
            case "darn":
                n.a = x.number(0, t.rows.size() - 1);
                n.b = x.number(0, t.wide - 1);
                break;
            case "when":
                n.test = x.see().text;
                if (n.test.equals("said")) {
                    x.next();
                    n.a = x.oldName(t.clauses);
                } else if (n.test.equals("whole")) {
                    x.next();
                    n.a = x.number(0, t.rows.size() - 1);
                } else if (n.test.equals("undone")) {
                    x.next();
                    if (!x.see().text.matches("[<>=]")) {
                        throw x.fault(2);
                    }
                    n.test = x.next().text;
                    n.a = x.number(0, 99);
                } else {
                    throw x.fault(2);
                }
                break;
            default:
                break;
        }
    }

    /** Thrown when CENTURIES are over ahead of their end. */
    private static final class Over extends RuntimeException {
        private static final long serialVersionUID = 1L;

        Over() {
            super(null, null, false, false);
        }
    }

    static final class Run {
        final Treaty t;
        int s;
        final int[] told = new int[5];
        int steps = 0;

        Run(Treaty t, int seed) {
            this.t = t;
            s = seed;
            try {
                walk(t.centuries);
            } catch (Over e) {
                s = 0;
            }
        }

        private int draw(int n) {
            s = (int) ((s * 2971L + 10729L) % 65536L);
            return (s >> 3) % n;
        }

        private void walk(List<Node> list) {
            for (Node n : list) {
                if (steps == 300) {
                    told[4] = 1;
                    throw new Over();
                }
                steps++;
                step(n);
            }
        }

        private void step(Node n) {
            int fresh = -1;
            boolean row = n.a < t.rows.size();
            switch (n.op) {
                case "stop":
                    throw new Over();
                case "loop":
                    for (int i = 0; i < n.a; i++) {
                        walk(n.body);
                    }
                    return;
                case "when":
                    boolean is = n.test.equals("said") ? t.said(n.a) > 0
                            : n.test.equals("whole") ? row && !t.text(n.a).contains("x")
                            : n.test.equals("<") ? t.undone() < n.a
                            : n.test.equals(">") ? t.undone() > n.a : t.undone() == n.a;
                    if (is) {
                        walk(n.body);
                    }
                    return;
                case "year":
                    if (t.year + n.a > 9999) {
                        told[0]++;
                        return;
                    }
                    for (int i = 0; i < n.a; i++) {
                        told[2] += t.age();
                    }
                    told[1] += n.a;
                    return;
                case "darn":
                    if (row) {
                        t.darn(n.a, n.b);
                        told[3]++;
                    } else {
                        told[0]++;
                    }
                    return;
                case "pull":
                    fresh = row ? t.pull(n.a, n.b) : 0;
                    break;
                case "moth":
                    fresh = row ? t.moth(n.a, n.b) : 0;
                    break;
                default:
                    fresh = 0;
                    if (!t.rows.isEmpty()) {
                        int r = draw(t.rows.size());
                        fresh = t.moth(r, draw(t.wide));
                    }
                    break;
            }
            told[2] += fresh;
            told[0] += fresh == 0 ? 1 : 0;
        }
    }

    static List<Node> readCenturies(String s, Treaty t, int[] steps) {
        Count count = new Count();
        List<Node> list = readSteps(new Text(s), t, 0, count);
        steps[0] = count.steps;
        return list;
    }

    // ---- the face

    long[][] trays = new long[4][];
    int[] sorts = new int[4];
    String tape = "";
    Treaty now = new Treaty();
    final ArrayDeque<Treaty> marks = new ArrayDeque<>();
    int status = 0;
    long top = 0;
    long bottom = 1;
    int faultKind = -1;
    int faultPlace = -1;
    int[] lastLived = null;

    private int say(int st, java.util.function.IntSupplier answer) {
        status = st;
        return st == 0 ? answer.getAsInt() : -1;
    }

    private static int first(int... found) {
        int least = 0;
        for (int f : found) {
            if (f != 0 && (least == 0 || f < least)) {
                least = f;
            }
        }
        return least;
    }

    private static int not(boolean fine, int st) {
        return fine ? 0 : st;
    }

    private int trayFine(int tray) {
        return not(tray >= 0 && tray < 4, 1);
    }

    private int there(int tray) {
        return trayFine(tray) != 0 ? 0 : not(trays[tray] != null, 3);
    }

    private int place(int tray, int place) {
        return first(trayFine(tray), there(tray)) != 0 ? 0 : not(place >= 0 && place < trays[tray].length, 4);
    }

    private int kinds(int tray, int least) {
        int f = first(trayFine(tray), there(tray), place(tray, now.wide - 1));
        if (f == 0) {
            for (int i = 0; i < now.wide; i++) {
                f = trays[tray][i] < least || trays[tray][i] > 3 ? 5 : f;
            }
        }
        return f;
    }

    private int queen(int q) {
        return not(q >= 0 && q < now.wool.size(), 2);
    }

    private int clause(int c) {
        return not(c >= 0 && c < now.runs.size(), 2);
    }

    private int row(int r) {
        return not(r >= 0 && r < now.rows.size(), 2);
    }

    private int column(int c) {
        return not(c >= 0 && c < now.wide, 2);
    }

    private int in(int v, int least, int most) {
        return not(v >= least && v <= most, 5);
    }

    private int set(int s) {
        return in(s, 0, (1 << now.runs.size()) - 1);
    }

    private static long cut(int sort, long v) {
        return sort == 0 ? (byte) v : sort == 1 ? (short) v : sort == 2 ? (int) v : v;
    }

    boolean tray(int t, int sort, int many) {
        status = first(trayFine(t), not(sort >= 0 && sort <= 3, 1), not(many <= 60, 5), not(many >= 0, 6));
        if (status == 0) {
            trays[t] = new long[many];
            sorts[t] = sort;
        }
        return status == 0;
    }

    boolean write(int t, int p, long v) {
        status = first(trayFine(t), there(t), place(t, p));
        if (status == 0) {
            trays[t][p] = cut(sorts[t], v);
        }
        return status == 0;
    }

    long read(int t, int p) {
        status = first(trayFine(t), there(t), place(t, p));
        return status == 0 ? trays[t][p] : -1;
    }

    boolean pour(int t, int i, int to, int j, int many) {
        status = first(trayFine(t), trayFine(to), there(t), there(to));
        if (status == 0 && sorts[t] != sorts[to]) {
            status = 11;
        }
        if (status == 0 && many < 0) {
            status = 6;
        }
        if (status == 0 && (i < 0 || j < 0 || (long) i + many > trays[t].length
                || (long) j + many > trays[to].length)) {
            status = 4;
        }
        if (status == 0) {
            long[] old = trays[t].clone();
            for (int k = 0; k < many; k++) {
                trays[to][j + k] = old[i + k];
            }
        }
        return status == 0;
    }

    int feed(int a, int b, int c, int d, int e) {
        if (tape.length() > 880) {
            return -1;
        }
        java.nio.ByteBuffer buffer = java.nio.ByteBuffer.allocate(20);
        buffer.putInt(a).putInt(b).putInt(c).putInt(d).putInt(e);
        tape += new String(buffer.array(), java.nio.charset.StandardCharsets.ISO_8859_1);
        return tape.length();
    }

    int treaty(int n) {
        status = in(n, 0, tape.length());
        if (status != 0) {
            return -1;
        }
        String s = tape.substring(0, n);
        tape = "";
        try {
            now = readTreaty(s);
            faultKind = 0;
            faultPlace = -1;
            return now.rows.size();
        } catch (Fault f) {
            status = 10;
            faultKind = f.kind;
            faultPlace = f.place;
            return -1;
        }
    }

    int centuries(int n) {
        status = in(n, 0, Math.min(300, tape.length()));
        if (status != 0) {
            return -1;
        }
        String s = tape.substring(0, n);
        tape = "";
        try {
            int[] steps = new int[1];
            now.centuries = readCenturies(s, now, steps);
            now.steps = steps[0];
            faultKind = 0;
            faultPlace = -1;
            return now.steps;
        } catch (Fault f) {
            status = 10;
            faultKind = f.kind;
            faultPlace = f.place;
            return -1;
        }
    }

    int fault(int what) {
        return what == 0 ? faultKind : what == 1 ? faultPlace : -1;
    }

    int many(int what) {
        return say(in(what, 0, 9), () -> {
            int darned = 0;
            int worn = 0;
            for (Row r : now.rows) {
                for (Stitch s : r.stitches) {
                    darned += s.darned ? 1 : 0;
                    worn += s.undone ? 0 : s.worn;
                }
            }
            return new int[] {now.wide, now.tough, now.wool.size(), now.runs.size(), now.rows.size(), now.year,
                now.undone(), darned, worn, now.saidSet()}[what];
        });
    }

    int stitch(int r, int c, int what) {
        return say(first(row(r), column(c), in(what, 0, 3)), () -> {
            Stitch s = now.rows.get(r).stitches.get(c);
            return what == 0 ? s.kind : what == 1 ? s.worn : (what == 2 ? s.undone : s.darned) ? 1 : 0;
        });
    }

    int queenOf(int r) {
        return say(row(r), () -> now.rows.get(r).queen);
    }

    int wool(int q) {
        return say(queen(q), () -> now.wool.get(q));
    }

    int length(int c) {
        return say(clause(c), () -> now.runs.get(c).length());
    }

    int kind(int c, int k) {
        int f = clause(c);
        f = f != 0 ? f : not(k >= 0 && k < now.runs.get(c).length(), 8);
        return say(f, () -> now.runs.get(c).charAt(k) - '0');
    }

    int clash(int c, int o) {
        return say(first(clause(c), clause(o), not(c != o, 9)), () -> now.clashing(c, o) ? 1 : 0);
    }

    int worth(int q, int c, int what) {
        return say(first(queen(q), clause(c), in(what, 0, 1)), () -> now.worth(q, c, what));
    }

    int copyRow(int r, int t) {
        return say(first(trayFine(t), row(r), there(t), place(t, now.wide - 1)), () -> {
            for (int c = 0; c < now.wide; c++) {
                Stitch s = now.rows.get(r).stitches.get(c);
                trays[t][c] = s.undone ? -1 : s.kind;
            }
            return now.wide;
        });
    }

    int year(int years) {
        return say(first(in(years, 1, 99), not(years > 99 || now.year + years <= 9999, 7)), () -> {
            int n = 0;
            for (int i = 0; i < years; i++) {
                n += now.age();
            }
            return n;
        });
    }

    int pull(int r, int side) {
        return say(first(row(r), in(side, 0, 1)), () -> now.pull(r, side));
    }

    int moth(int r, int c) {
        int f = first(row(r), column(c));
        f = f != 0 ? f : not(now.rows.get(r).stitches.get(c).loose(), 9);
        return say(f, () -> now.moth(r, c));
    }

    int darn(int r, int c) {
        return say(first(row(r), column(c)), () -> now.darn(r, c));
    }

    private int cost(int t) {
        int n = 0;
        for (int i = 0; i < now.wide; i++) {
            n += WOOL[(int) trays[t][i]];
        }
        return n;
    }

    int knit(int q, int t) {
        int f = first(queen(q), kinds(t, 0), not(now.rows.size() < 12, 7));
        f = f != 0 ? f : not(cost(t) <= now.wool.get(q), 9);
        return say(f, () -> {
            now.wool.set(q, now.wool.get(q) - cost(t));
            Row row = new Row(q);
            for (int i = 0; i < now.wide; i++) {
                row.stitches.add(new Stitch((int) trays[t][i]));
            }
            now.rows.add(row);
            return now.rows.size();
        });
    }

    int unravel() {
        return say(not(!now.rows.isEmpty(), 8), () -> {
            Row row = now.rows.remove(now.rows.size() - 1);
            int n = now.wool.get(row.queen);
            for (Stitch s : row.stitches) {
                n += s.undone ? 0 : WOOL[s.kind];
            }
            now.wool.set(row.queen, Math.min(999, n));
            return now.rows.size();
        });
    }

    int shear(int q, int much) {
        return say(first(queen(q), in(much, 1, 999)), () -> {
            now.wool.set(q, Math.min(999, now.wool.get(q) + much));
            return now.wool.get(q);
        });
    }

    boolean rule(int tough) {
        return say(in(tough, 1, 50), () -> now.tough = tough) != -1;
    }

    boolean quarrel(int c, int o, boolean is) {
        return say(first(clause(c), clause(o), not(c != o && is != now.clashing(c, o), 9)), () -> {
            String key = Math.min(c, o) + "," + Math.max(c, o);
            return (is ? now.clash.add(key) : now.clash.remove(key)) ? 1 : 0;
        }) == 1;
    }

    boolean value(int q, int c, int what, int much) {
        return say(first(queen(q), clause(c), in(what, 0, 1), in(much, 0, 99)), () -> {
            now.worth.put(q + "," + c + "," + what, much);
            return 1;
        }) == 1;
    }

    int saidIn(int c, int r) {
        return say(first(clause(c), row(r)), () -> now.places(c, r).size());
    }

    int said(int c) {
        return say(clause(c), () -> now.said(c));
    }

    int firstSaid(int c) {
        int f = clause(c);
        f = f != 0 ? f : not(now.said(c) > 0, 8);
        return say(f, () -> {
            for (int r = now.rows.size() - 1, best = 0;; r--) {
                if (r < 0) {
                    return best;
                }
                best = now.places(c, r).isEmpty() ? best : 10 * r + now.places(c, r).get(0);
            }
        });
    }

    int binds(int c) {
        return say(clause(c), () -> {
            int set = 0;
            for (int r = 0; r < now.rows.size(); r++) {
                set |= now.places(c, r).isEmpty() ? 0 : 1 << now.rows.get(r).queen;
            }
            return set;
        });
    }

    int boundBy(int q) {
        return say(queen(q), () -> {
            int set = 0;
            for (int c = 0; c < now.runs.size(); c++) {
                set |= (binds(c) >> q & 1) << c;
            }
            status = 0;
            return set;
        });
    }

    private List<Integer> clashList() {
        List<Integer> l = new ArrayList<>();
        for (int i = 0; i < now.runs.size(); i++) {
            for (int j = i + 1; j < now.runs.size(); j++) {
                if (now.clashing(i, j) && now.said(i) > 0 && now.said(j) > 0) {
                    l.add(10 * i + j);
                }
            }
        }
        return l;
    }

    int clashes() {
        return say(0, () -> clashList().size());
    }

    int firstClash() {
        return say(not(!clashList().isEmpty(), 8), () -> clashList().get(0));
    }

    int needs(int t) {
        return say(kinds(t, 0), () -> cost(t));
    }

    private int lostIn(int c) {
        Treaty t = now.copy();
        for (int y = 0; y < 100; y++) {
            if (t.said(c) == 0) {
                return y;
            }
            t.age();
        }
        return 100;
    }

    int lost(int c) {
        int f = clause(c);
        f = f != 0 ? f : not(lostIn(c) < 100, 8);
        return say(f, () -> lostIn(c));
    }

    int undoneIn(int years) {
        return say(in(years, 0, 99), () -> {
            Treaty t = now.copy();
            for (int y = 0; y < years; y++) {
                t.age();
            }
            return t.undone();
        });
    }

    int firstLost() {
        int best = -1;
        int soonest = 100;
        for (int c = 0; c < now.runs.size(); c++) {
            if (now.said(c) > 0 && lostIn(c) < soonest) {
                soonest = lostIn(c);
                best = c;
            }
        }
        int found = best;
        return say(not(found >= 0, 8), () -> found);
    }

    int pulled(int r, int side) {
        return say(first(row(r), in(side, 0, 1)), () -> now.copy().pull(r, side));
    }

    int worstPull() {
        return say(not(!now.rows.isEmpty(), 8), () -> {
            int best = 0;
            for (int r = 0; r < now.rows.size(); r++) {
                for (int side = 0; side < 2; side++) {
                    if (now.copy().pull(r, side) > now.copy().pull(best / 10, best % 10)) {
                        best = 10 * r + side;
                    }
                }
            }
            return best;
        });
    }

    int pulledOut(int r, int side) {
        return say(first(row(r), in(side, 0, 1)), () -> {
            Treaty t = now.copy();
            t.pull(r, side);
            return now.saidSet() - (now.saidSet() & t.saidSet());
        });
    }

    private int mendBy(int c, int r, int side) {
        for (int many = 0; many <= now.wide; many++) {
            for (int set = 0; set < 1 << now.wide; set++) {
                if (Integer.bitCount(set) == many) {
                    Treaty t = now.copy();
                    for (int i = 0; i < now.wide; i++) {
                        if ((set & 1 << i) != 0) {
                            t.darn(r, i);
                        }
                    }
                    t.pull(r, side);
                    if (!t.places(c, r).isEmpty()) {
                        return set;
                    }
                }
            }
        }
        return -1;
    }

    int mendSet(int c, int r, int side) {
        int f = first(clause(c), row(r), in(side, 0, 1));
        f = f != 0 ? f : not(mendBy(c, r, side) >= 0, 8);
        return say(f, () -> mendBy(c, r, side));
    }

    int mend(int c, int r, int side) {
        int set = mendSet(c, r, side);
        return status == 0 ? Integer.bitCount(set) : -1;
    }

    int shortest(int s) {
        return say(set(s), () -> now.shortest(s).length());
    }

    int shortestAt(int s, int k) {
        int f = set(s);
        f = f != 0 ? f : not(k >= 0 && k < now.shortest(s).length(), 8);
        return say(f, () -> now.shortest(s).charAt(k) - '0');
    }

    int wins(int q, int s) {
        return say(first(queen(q), set(s)), () -> now.wins(q, s));
    }

    int bargain() {
        return say(0, () -> now.bargain());
    }

    int bargainWorth() {
        return say(0, () -> now.all(now.bargain()));
    }

    int stable(int s) {
        return say(set(s), () -> now.stable(s) ? 1 : 0);
    }

    int stables() {
        return say(0, () -> {
            int n = 0;
            for (int s = 0; s < 1 << now.runs.size(); s++) {
                n += now.stable(s) ? 1 : 0;
            }
            return n;
        });
    }

    private List<String> runsOf(int t) {
        List<String> all = new ArrayList<>();
        all.add("");
        for (int i = 0; i < now.wide; i++) {
            List<String> more = new ArrayList<>();
            for (String s : all) {
                for (int k = 0; k < 4; k++) {
                    if (trays[t][i] == -1 || trays[t][i] == k) {
                        more.add(s + k);
                    }
                }
            }
            all = more;
        }
        return all;
    }

    private List<String> fillsOf(int c, int t) {
        List<String> l = new ArrayList<>();
        for (String s : runsOf(t)) {
            if (s.contains(now.runs.get(c))) {
                l.add(s);
            }
        }
        return l;
    }

    int fills(int c, int t) {
        return say(first(clause(c), kinds(t, -1)), () -> fillsOf(c, t).size());
    }

    private void fraction(long a, long b) {
        long g = java.math.BigInteger.valueOf(a).gcd(java.math.BigInteger.valueOf(b)).longValue();
        top = a / g;
        bottom = b / g;
    }

    boolean chance(int c, int t) {
        return say(first(clause(c), kinds(t, -1)), () -> {
            fraction(fillsOf(c, t).size(), runsOf(t).size());
            return 1;
        }) == 1;
    }

    private static int[] by(List<String> fills, int column) {
        int[] n = new int[4];
        for (String s : fills) {
            n[s.charAt(column) - '0']++;
        }
        return n;
    }

    int look(int c, int t) {
        int f = first(clause(c), kinds(t, -1));
        List<String> l = f == 0 ? fillsOf(c, t) : new ArrayList<>();
        f = f != 0 ? f : not(l.size() > 1, 8);
        return say(f, () -> {
            int best = -1;
            int least = 0;
            for (int i = 0; i < now.wide; i++) {
                int most = Arrays.stream(by(l, i)).max().getAsInt();
                if (trays[t][i] == -1 && (best < 0 || most < least)) {
                    best = i;
                    least = most;
                }
            }
            return best;
        });
    }

    int sure(int c, int t, int column) {
        int f = first(clause(c), column(column), kinds(t, -1));
        Set<Integer> had = new HashSet<>();
        if (f == 0) {
            for (String s : fillsOf(c, t)) {
                had.add(s.charAt(column) - '0');
            }
            f = not(had.size() == 1, 8);
        }
        return say(f, () -> had.iterator().next());
    }

    int live(int seed) {
        return say(first(in(seed, 0, 9999), not(now.centuries != null, 8)), () -> {
            Run r = new Run(now, seed);
            lastLived = r.told;
            return r.steps;
        });
    }

    int lived(int what) {
        return say(first(in(what, 0, 4), not(lastLived != null, 8)), () -> lastLived[what]);
    }

    boolean mean(int seed, int many) {
        int f = first(in(seed, 0, 9999), in(many, 1, 20), not((long) seed + many - 1 <= 9999, 5));
        return say(first(f, not(now.centuries != null, 8)), () -> {
            int sum = 0;
            for (int i = 0; i < many; i++) {
                Treaty t = now.copy();
                new Run(t, seed + i);
                sum += t.undone();
            }
            fraction(sum, many);
            return 1;
        }) == 1;
    }

    int mark() {
        return say(not(marks.size() < 3, 7), () -> {
            marks.push(now.copy());
            return marks.size();
        });
    }

    int back() {
        return say(not(!marks.isEmpty(), 8), () -> {
            now = marks.pop();
            return marks.size();
        });
    }
}
