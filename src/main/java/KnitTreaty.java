import java.util.Arrays;

/** Treaties knitted by queens: what rows of stitches say, how they wear, and what bargains they make. */
public final class KnitTreaty {
    public static final int NONE = -1;

    private static final int OK = 0;
    private static final int NO_TRAY = 1;
    private static final int NO_SUCH = 2;
    private static final int MISSING = 3;
    private static final int NO_PLACE = 4;
    private static final int BAD_NUMBER = 5;
    private static final int BELOW_ZERO = 6;
    private static final int TOO_MANY = 7;
    private static final int NOTHING = 8;
    private static final int CANNOT = 9;
    private static final int FAULTY = 10;
    private static final int UNLIKE = 11;

    private static final int MOST_TRAYS = 4;
    private static final int MOST_NUMBERS = 60;
    private static final int MOST_TAPE = 900;
    private static final int MOST_SCRIPT = 300;
    private static final int MOST_QUEENS = 4;
    private static final int MOST_CLAUSES = 6;
    private static final int MOST_KINDS = 5;
    private static final int MOST_ROWS = 12;
    private static final int MOST_WIDE = 8;
    private static final int MOST_MARKS = 3;
    private static final int MOST_YEAR = 9999;
    private static final int MOST_SEED = 9999;
    private static final int MOST_WOOL = 999;
    private static final int MOST_WORTH = 99;
    private static final int MOST_TOUGH = 50;
    private static final int LONGEST = 99;

    private static final int KINDS = 4;
    private static final int KNIT = 0;
    private static final int CABLE = 2;
    private static final int HOLE = 3;
    private static final int UNKNOWN = -1;
    private static final int[] WOOL_OF = {1, 1, 2, 0};

    private final Tray[] trays = new Tray[MOST_TRAYS];
    private final int[] tape = new int[MOST_TAPE];
    private final State[] kept = new State[MOST_MARKS];
    private final TreatyText treatyText = new TreatyText();
    private final CenturyText centuryText = new CenturyText();
    private final Seen seen = new Seen();
    private final Joiner joiner = new Joiner();
    private final Life life = new Life();
    private final Life trialLife = new Life();
    private State now = new State();
    private State trial = new State();
    private int taped = 0;
    private int marks = 0;
    private int latest = OK;
    private int faultKind = NONE;
    private int faultPlace = NONE;
    private boolean livedOnce = false;
    private long fractionTop = 0;
    private long fractionBottom = 1;

    public KnitTreaty() {
        for (int i = 0; i < MOST_TRAYS; i++) {
            trays[i] = new Tray();
        }
        for (int i = 0; i < MOST_MARKS; i++) {
            kept[i] = new State();
        }
    }

    public int status() {
        return latest;
    }

    public long top() {
        return fractionTop;
    }

    public long bottom() {
        return fractionBottom;
    }

    // ---- TRAYS

    public boolean tray(int tray, int sort, int many) {
        int found = OK;
        if (noTray(tray) || sort < 0 || sort > 3) {
            found = NO_TRAY;
        } else if (many > MOST_NUMBERS) {
            found = BAD_NUMBER;
        } else if (many < 0) {
            found = BELOW_ZERO;
        }
        if (refused(found)) {
            return false;
        }
        trays[tray].lay(sort, many);
        return true;
    }

    public boolean write(int tray, int place, long v) {
        if (refused(placeStatus(tray, place))) {
            return false;
        }
        trays[tray].put(place, v);
        return true;
    }

    public long read(int tray, int place) {
        if (refused(placeStatus(tray, place))) {
            return NONE;
        }
        return trays[tray].numbers[place];
    }

    public boolean pour(int tray, int i, int to, int j, int many) {
        int found = OK;
        if (noTray(tray) || noTray(to)) {
            found = NO_TRAY;
        } else if (trays[tray].missing || trays[to].missing) {
            found = MISSING;
        } else if (trays[tray].sort != trays[to].sort) {
            found = UNLIKE;
        } else if (many < 0) {
            found = BELOW_ZERO;
        } else if (trays[tray].lacks(i, many) || trays[to].lacks(j, many)) {
            found = NO_PLACE;
        }
        if (refused(found)) {
            return false;
        }
        System.arraycopy(trays[tray].numbers, i, trays[to].numbers, j, many);
        return true;
    }

    private static boolean noTray(int tray) {
        return tray < 0 || tray >= MOST_TRAYS;
    }

    private int placeStatus(int tray, int place) {
        if (noTray(tray)) {
            return NO_TRAY;
        }
        if (trays[tray].missing) {
            return MISSING;
        }
        return trays[tray].lacks(place, 1) ? NO_PLACE : OK;
    }

    /** Keeps the STATUS of the call; true if it is not 0. */
    private boolean refused(int found) {
        latest = found;
        return found != OK;
    }

    // ---- texts

    public int feed(int a, int b, int c, int d, int e) {
        if (taped + 20 > MOST_TAPE) {
            return NONE;
        }
        feedInt(a);
        feedInt(b);
        feedInt(c);
        feedInt(d);
        feedInt(e);
        return taped;
    }

    private void feedInt(int v) {
        for (int shift = 24; shift >= 0; shift -= 8) {
            if (taped < MOST_TAPE) {
                tape[taped] = (v >>> shift) & 255;
                taped++;
            }
        }
    }

    public int treaty(int n) {
        if (n < 0 || n > taped) {
            latest = BAD_NUMBER;
            return NONE;
        }
        taped = 0;
        boolean taken = treatyText.parse(tape, n, trial);
        if (refused(told(taken, treatyText.reader))) {
            return NONE;
        }
        State old = now;
        now = trial;
        trial = old;
        return now.cloth.rows;
    }

    public int centuries(int n) {
        if (n < 0 || n > taped || n > MOST_SCRIPT) {
            latest = BAD_NUMBER;
            return NONE;
        }
        taped = 0;
        boolean taken = centuryText.parse(tape, n, now, trial.script);
        if (refused(told(taken, centuryText.reader))) {
            return NONE;
        }
        now.script.copyFrom(trial.script);
        return now.script.steps;
    }

    /** Keeps what fault() tells of a text; answers the STATUS. */
    private int told(boolean taken, Reader reader) {
        faultKind = taken ? 0 : reader.faultKind;
        faultPlace = taken ? NONE : reader.faultPlace;
        return taken ? OK : FAULTY;
    }

    public int fault(int what) {
        if (what == 0) {
            return faultKind;
        }
        return what == 1 ? faultPlace : NONE;
    }

    public int many(int what) {
        if (refused(what < 0 || what > 9 ? BAD_NUMBER : OK)) {
            return NONE;
        }
        Cloth cloth = now.cloth;
        switch (what) {
            case 0:
                return cloth.wide;
            case 1:
                return cloth.tough;
            case 2:
                return now.deal.queens;
            case 3:
                return now.deal.clauses;
            case 4:
                return cloth.rows;
            case 5:
                return cloth.date;
            case 6:
                return cloth.sum(cloth.undone);
            case 7:
                return cloth.sum(cloth.darned);
            case 8:
                return cloth.wornInAll();
            default:
                return cloth.saidSet(now.deal);
        }
    }

    public int stitch(int row, int column, int what) {
        int found = OK;
        if (noRow(row) || noColumn(column)) {
            found = NO_SUCH;
        } else if (what < 0 || what > 3) {
            found = BAD_NUMBER;
        }
        if (refused(found)) {
            return NONE;
        }
        Cloth cloth = now.cloth;
        int at = Cloth.at(row, column);
        switch (what) {
            case 0:
                return cloth.kinds[at];
            case 1:
                return cloth.worn[at];
            case 2:
                return cloth.undone[at];
            default:
                return cloth.darned[at];
        }
    }

    public int queenOf(int row) {
        if (refused(noRow(row) ? NO_SUCH : OK)) {
            return NONE;
        }
        return now.cloth.owner[row];
    }

    public int wool(int queen) {
        if (refused(noQueen(queen) ? NO_SUCH : OK)) {
            return NONE;
        }
        return now.deal.wools[queen];
    }

    public int length(int clause) {
        if (refused(noClause(clause) ? NO_SUCH : OK)) {
            return NONE;
        }
        return now.deal.lengths[clause];
    }

    public int kind(int clause, int k) {
        int found = OK;
        if (noClause(clause)) {
            found = NO_SUCH;
        } else if (k < 0 || k >= now.deal.lengths[clause]) {
            found = NOTHING;
        }
        if (refused(found)) {
            return NONE;
        }
        return now.deal.kinds[clause * MOST_KINDS + k];
    }

    public int clash(int clause, int other) {
        if (refused(coupleStatus(clause, other))) {
            return NONE;
        }
        return now.deal.quarrels[clause * MOST_CLAUSES + other];
    }

    private int coupleStatus(int clause, int other) {
        if (noClause(clause) || noClause(other)) {
            return NO_SUCH;
        }
        return clause == other ? CANNOT : OK;
    }

    public int worth(int queen, int clause, int what) {
        if (refused(worthStatus(queen, clause, what))) {
            return NONE;
        }
        return now.deal.worths[Deal.worthAt(queen, clause, what)];
    }

    private int worthStatus(int queen, int clause, int what) {
        if (noQueen(queen) || noClause(clause)) {
            return NO_SUCH;
        }
        return what < 0 || what > 1 ? BAD_NUMBER : OK;
    }

    public int copyRow(int row, int tray) {
        int found = OK;
        if (noTray(tray)) {
            found = NO_TRAY;
        } else if (noRow(row)) {
            found = NO_SUCH;
        } else {
            found = runStatus(tray);
        }
        if (refused(found)) {
            return NONE;
        }
        Cloth cloth = now.cloth;
        for (int column = 0; column < cloth.wide; column++) {
            int at = Cloth.at(row, column);
            trays[tray].put(column, cloth.undone[at] == 1 ? UNKNOWN : cloth.kinds[at]);
        }
        return cloth.wide;
    }

    private boolean noQueen(int queen) {
        return queen < 0 || queen >= now.deal.queens;
    }

    private boolean noClause(int clause) {
        return clause < 0 || clause >= now.deal.clauses;
    }

    private boolean noRow(int row) {
        return row < 0 || row >= now.cloth.rows;
    }

    private boolean noColumn(int column) {
        return column < 0 || column >= now.cloth.wide;
    }

    private boolean noSet(int clauses) {
        return clauses < 0 || clauses >= 1 << now.deal.clauses;
    }

    /** Whether a TRAY that there is has room for a run as long as WIDE. */
    private int runStatus(int tray) {
        if (trays[tray].missing) {
            return MISSING;
        }
        return trays[tray].lacks(0, now.cloth.wide) ? NO_PLACE : OK;
    }

    /** The same, and whether its first numbers are KINDS, or no less than a least one. */
    private int kindsStatus(int tray, int least) {
        int found = runStatus(tray);
        if (found != OK) {
            return found;
        }
        return trays[tray].within(now.cloth.wide, least, KINDS - 1) ? OK : BAD_NUMBER;
    }

    // ---- what is done

    public int year(int years) {
        int found = OK;
        if (years < 1 || years > LONGEST) {
            found = BAD_NUMBER;
        } else if (now.cloth.date + years > MOST_YEAR) {
            found = TOO_MANY;
        }
        if (refused(found)) {
            return NONE;
        }
        return now.cloth.passYears(years);
    }

    public int pull(int row, int side) {
        if (refused(pullStatus(row, side))) {
            return NONE;
        }
        return now.cloth.pullThread(row, side);
    }

    private int pullStatus(int row, int side) {
        if (noRow(row)) {
            return NO_SUCH;
        }
        return side < 0 || side > 1 ? BAD_NUMBER : OK;
    }

    public int moth(int row, int column) {
        int found = OK;
        if (noRow(row) || noColumn(column)) {
            found = NO_SUCH;
        } else if (!now.cloth.loose(Cloth.at(row, column))) {
            found = CANNOT;
        }
        if (refused(found)) {
            return NONE;
        }
        return now.cloth.eat(row, column);
    }

    public int darn(int row, int column) {
        if (refused(noRow(row) || noColumn(column) ? NO_SUCH : OK)) {
            return NONE;
        }
        return now.cloth.patch(row, column);
    }

    public int knit(int queen, int tray) {
        if (refused(knitStatus(queen, tray))) {
            return NONE;
        }
        Cloth cloth = now.cloth;
        now.deal.wools[queen] -= trays[tray].woolOf(cloth.wide);
        for (int column = 0; column < cloth.wide; column++) {
            cloth.lay(column, (int) trays[tray].numbers[column]);
        }
        cloth.closeRow(queen);
        return cloth.rows;
    }

    private int knitStatus(int queen, int tray) {
        if (noTray(tray)) {
            return NO_TRAY;
        }
        if (noQueen(queen)) {
            return NO_SUCH;
        }
        int found = kindsStatus(tray, KNIT);
        if (found != OK) {
            return found;
        }
        if (now.cloth.rows >= MOST_ROWS) {
            return TOO_MANY;
        }
        return trays[tray].woolOf(now.cloth.wide) > now.deal.wools[queen] ? CANNOT : OK;
    }

    public int unravel() {
        Cloth cloth = now.cloth;
        if (refused(cloth.rows == 0 ? NOTHING : OK)) {
            return NONE;
        }
        int row = cloth.rows - 1;
        now.deal.giveWool(cloth.owner[row], cloth.woolIn(row));
        cloth.rows = row;
        return row;
    }

    public int shear(int queen, int much) {
        int found = OK;
        if (noQueen(queen)) {
            found = NO_SUCH;
        } else if (much < 1 || much > MOST_WOOL) {
            found = BAD_NUMBER;
        }
        if (refused(found)) {
            return NONE;
        }
        now.deal.giveWool(queen, much);
        return now.deal.wools[queen];
    }

    public boolean rule(int tough) {
        if (refused(tough < 1 || tough > MOST_TOUGH ? BAD_NUMBER : OK)) {
            return false;
        }
        now.cloth.tough = tough;
        return true;
    }

    public boolean quarrel(int clause, int other, boolean is) {
        int found = coupleStatus(clause, other);
        if (found == OK && is == now.deal.atOdds(clause, other)) {
            found = CANNOT;
        }
        if (refused(found)) {
            return false;
        }
        now.deal.setOdds(clause, other, is ? 1 : 0);
        return true;
    }

    public boolean value(int queen, int clause, int what, int much) {
        int found = worthStatus(queen, clause, what);
        if (found == OK && (much < 0 || much > MOST_WORTH)) {
            found = BAD_NUMBER;
        }
        if (refused(found)) {
            return false;
        }
        now.deal.worths[Deal.worthAt(queen, clause, what)] = much;
        return true;
    }

    // ---- what is said

    public int saidIn(int clause, int row) {
        if (refused(noClause(clause) || noRow(row) ? NO_SUCH : OK)) {
            return NONE;
        }
        return now.cloth.timesIn(now.deal, clause, row);
    }

    public int said(int clause) {
        if (refused(noClause(clause) ? NO_SUCH : OK)) {
            return NONE;
        }
        int times = 0;
        for (int row = 0; row < now.cloth.rows; row++) {
            times += now.cloth.timesIn(now.deal, clause, row);
        }
        return times;
    }

    public int firstSaid(int clause) {
        if (refused(noClause(clause) ? NO_SUCH : OK)) {
            return NONE;
        }
        for (int row = 0; row < now.cloth.rows; row++) {
            for (int column = 0; column < now.cloth.wide; column++) {
                if (now.cloth.saysAt(now.deal, clause, row, column)) {
                    return 10 * row + column;
                }
            }
        }
        latest = NOTHING;
        return NONE;
    }

    public int binds(int clause) {
        if (refused(noClause(clause) ? NO_SUCH : OK)) {
            return NONE;
        }
        int queens = 0;
        for (int row = 0; row < now.cloth.rows; row++) {
            if (now.cloth.timesIn(now.deal, clause, row) > 0) {
                queens |= 1 << now.cloth.owner[row];
            }
        }
        return queens;
    }

    public int boundBy(int queen) {
        if (refused(noQueen(queen) ? NO_SUCH : OK)) {
            return NONE;
        }
        int clauses = 0;
        for (int row = 0; row < now.cloth.rows; row++) {
            if (now.cloth.owner[row] == queen) {
                clauses |= now.cloth.saidSetIn(now.deal, row);
            }
        }
        return clauses;
    }

    public int clashes() {
        latest = OK;
        int found = now.cloth.saidSet(now.deal);
        int couples = 0;
        for (int i = 0; i < now.deal.clauses; i++) {
            for (int j = i + 1; j < now.deal.clauses; j++) {
                if (inSet(found, i) && inSet(found, j) && now.deal.atOdds(i, j)) {
                    couples++;
                }
            }
        }
        return couples;
    }

    public int firstClash() {
        latest = OK;
        int found = now.cloth.saidSet(now.deal);
        for (int i = 0; i < now.deal.clauses; i++) {
            for (int j = i + 1; j < now.deal.clauses; j++) {
                if (inSet(found, i) && inSet(found, j) && now.deal.atOdds(i, j)) {
                    return 10 * i + j;
                }
            }
        }
        latest = NOTHING;
        return NONE;
    }

    private static boolean inSet(int set, int one) {
        return (set >> one & 1) == 1;
    }

    public int needs(int tray) {
        if (refused(noTray(tray) ? NO_TRAY : kindsStatus(tray, KNIT))) {
            return NONE;
        }
        return trays[tray].woolOf(now.cloth.wide);
    }

    // ---- what will be

    /** The present cloth once more, to try on it what may come. */
    private Cloth tried() {
        trial.cloth.copyFrom(now.cloth);
        return trial.cloth;
    }

    public int lost(int clause) {
        if (refused(noClause(clause) ? NO_SUCH : OK)) {
            return NONE;
        }
        Cloth cloth = tried();
        for (int years = 0; years <= LONGEST; years++) {
            if (!cloth.saysAnywhere(now.deal, clause)) {
                return years;
            }
            if (!cloth.anyLoose()) {
                break;
            }
            cloth.passYear();
        }
        latest = NOTHING;
        return NONE;
    }

    public int undoneIn(int years) {
        if (refused(years < 0 || years > LONGEST ? BAD_NUMBER : OK)) {
            return NONE;
        }
        Cloth cloth = tried();
        cloth.passYears(years);
        return cloth.sum(cloth.undone);
    }

    public int firstLost() {
        latest = OK;
        Cloth cloth = tried();
        int before = cloth.saidSet(now.deal);
        for (int years = 1; years <= LONGEST && cloth.anyLoose(); years++) {
            cloth.passYear();
            int gone = before & ~cloth.saidSet(now.deal);
            for (int clause = 0; clause < now.deal.clauses; clause++) {
                if (inSet(gone, clause)) {
                    return clause;
                }
            }
        }
        latest = NOTHING;
        return NONE;
    }

    public int pulled(int row, int side) {
        if (refused(pullStatus(row, side))) {
            return NONE;
        }
        return tried().pullThread(row, side);
    }

    public int worstPull() {
        if (refused(now.cloth.rows == 0 ? NOTHING : OK)) {
            return NONE;
        }
        int worst = 0;
        int most = -1;
        for (int row = 0; row < now.cloth.rows; row++) {
            for (int side = 0; side < 2; side++) {
                int fresh = tried().pullThread(row, side);
                if (fresh > most) {
                    most = fresh;
                    worst = 10 * row + side;
                }
            }
        }
        return worst;
    }

    public int pulledOut(int row, int side) {
        if (refused(pullStatus(row, side))) {
            return NONE;
        }
        Cloth cloth = tried();
        int before = cloth.saidSet(now.deal);
        cloth.pullThread(row, side);
        return before & ~cloth.saidSet(now.deal);
    }

    public int mend(int clause, int row, int side) {
        int set = mendingSet(clause, row, side);
        return latest == OK ? Integer.bitCount(set) : NONE;
    }

    public int mendSet(int clause, int row, int side) {
        return mendingSet(clause, row, side);
    }

    private int mendingSet(int clause, int row, int side) {
        if (refused(noClause(clause) ? NO_SUCH : pullStatus(row, side))) {
            return NONE;
        }
        int best = NONE;
        int fewest = MOST_WIDE + 1;
        for (int set = 0; set < 1 << now.cloth.wide; set++) {
            int size = Integer.bitCount(set);
            if (size < fewest && staysBy(set, clause, row, side)) {
                fewest = size;
                best = set;
            }
        }
        latest = best == NONE ? NOTHING : OK;
        return best;
    }

    private boolean staysBy(int set, int clause, int row, int side) {
        Cloth cloth = tried();
        for (int column = 0; column < cloth.wide; column++) {
            if (inSet(set, column)) {
                cloth.patch(row, column);
            }
        }
        cloth.pullThread(row, side);
        return cloth.timesIn(now.deal, clause, row) > 0;
    }

    // ---- bargains

    public int shortest(int clauses) {
        if (refused(noSet(clauses) ? BAD_NUMBER : OK)) {
            return NONE;
        }
        joiner.join(now.deal, clauses);
        return joiner.total;
    }

    public int shortestAt(int clauses, int k) {
        if (refused(noSet(clauses) ? BAD_NUMBER : OK)) {
            return NONE;
        }
        joiner.join(now.deal, clauses);
        if (refused(k < 0 || k >= joiner.total ? NOTHING : OK)) {
            return NONE;
        }
        return (int) (joiner.whole >> 2 * (joiner.total - 1 - k)) & 3;
    }

    public int wins(int queen, int clauses) {
        int found = OK;
        if (noQueen(queen)) {
            found = NO_SUCH;
        } else if (noSet(clauses)) {
            found = BAD_NUMBER;
        }
        if (refused(found)) {
            return NONE;
        }
        return now.deal.winOf(queen, clauses);
    }

    public int bargain() {
        latest = OK;
        return now.deal.bestSet();
    }

    public int bargainWorth() {
        latest = OK;
        return now.deal.winOfAll(now.deal.bestSet());
    }

    public int stable(int clauses) {
        if (refused(noSet(clauses) ? BAD_NUMBER : OK)) {
            return NONE;
        }
        return now.deal.holdsFast(clauses) ? 1 : 0;
    }

    public int stables() {
        latest = OK;
        int sets = 0;
        for (int set = 0; set < 1 << now.deal.clauses; set++) {
            if (now.deal.holdsFast(set)) {
                sets++;
            }
        }
        return sets;
    }

    // ---- half-seen rows

    public int fills(int clause, int tray) {
        if (refused(seenStatus(clause, tray))) {
            return NONE;
        }
        lookAt(clause, tray);
        return seen.count();
    }

    public boolean chance(int clause, int tray) {
        if (refused(seenStatus(clause, tray))) {
            return false;
        }
        lookAt(clause, tray);
        tellFraction(seen.count(), 1L << 2 * seen.unknown());
        return true;
    }

    public int look(int clause, int tray) {
        if (refused(seenStatus(clause, tray))) {
            return NONE;
        }
        lookAt(clause, tray);
        if (refused(seen.count() < 2 ? NOTHING : OK)) {
            return NONE;
        }
        return seen.bestColumn();
    }

    public int sure(int clause, int tray, int column) {
        int found = OK;
        if (noTray(tray)) {
            found = NO_TRAY;
        } else if (noColumn(column)) {
            found = NO_SUCH;
        } else {
            found = seenStatus(clause, tray);
        }
        if (refused(found)) {
            return NONE;
        }
        lookAt(clause, tray);
        int one = seen.onlyKind(column);
        latest = one == NONE ? NOTHING : OK;
        return one;
    }

    private int seenStatus(int clause, int tray) {
        if (noTray(tray)) {
            return NO_TRAY;
        }
        return noClause(clause) ? NO_SUCH : kindsStatus(tray, UNKNOWN);
    }

    private void lookAt(int clause, int tray) {
        seen.learn(now.deal, clause);
        seen.wide = now.cloth.wide;
        for (int column = 0; column < seen.wide; column++) {
            seen.run[column] = (int) trays[tray].numbers[column];
        }
    }

    private void tellFraction(long part, long whole) {
        long divisor = whole;
        long rest = part;
        // Euclid's steps on longs are fewer than a hundred.
        for (int i = 0; i < 200 && rest != 0; i++) {
            long next = divisor % rest;
            divisor = rest;
            rest = next;
        }
        if (divisor != 0) {
            fractionTop = part / divisor;
            fractionBottom = whole / divisor;
        }
    }

    // ---- CENTURIES

    public int live(int seed) {
        int found = OK;
        if (seed < 0 || seed > MOST_SEED) {
            found = BAD_NUMBER;
        } else if (!now.script.there) {
            found = NOTHING;
        }
        if (refused(found)) {
            return NONE;
        }
        life.run(now.script, now.deal, now.cloth, seed);
        livedOnce = true;
        return life.steps;
    }

    public int lived(int what) {
        int found = OK;
        if (what < 0 || what > 4) {
            found = BAD_NUMBER;
        } else if (!livedOnce) {
            found = NOTHING;
        }
        if (refused(found)) {
            return NONE;
        }
        switch (what) {
            case 0:
                return life.missed;
            case 1:
                return life.years;
            case 2:
                return life.fresh;
            case 3:
                return life.darns;
            default:
                return life.cut;
        }
    }

    public boolean mean(int seed, int many) {
        int found = OK;
        if (seed < 0 || many < 1 || many > 20 || seed > MOST_SEED + 1 - many) {
            found = BAD_NUMBER;
        } else if (!now.script.there) {
            found = NOTHING;
        }
        if (refused(found)) {
            return false;
        }
        int sum = 0;
        for (int i = 0; i < many; i++) {
            Cloth cloth = tried();
            trialLife.run(now.script, now.deal, cloth, seed + i);
            sum += cloth.sum(cloth.undone);
        }
        tellFraction(sum, many);
        return true;
    }

    // ---- MARKS

    public int mark() {
        if (refused(marks >= MOST_MARKS ? TOO_MANY : OK)) {
            return NONE;
        }
        kept[marks].copyFrom(now);
        marks++;
        return marks;
    }

    public int back() {
        if (refused(marks == 0 ? NOTHING : OK)) {
            return NONE;
        }
        marks--;
        now.copyFrom(kept[marks]);
        return marks;
    }

    /** A TRAY: a row of numbers of one sort. */
    private static final class Tray {
        final long[] numbers = new long[MOST_NUMBERS];
        boolean missing = true;
        int sort = 0;
        int many = 0;

        void lay(int newSort, int newMany) {
            missing = false;
            sort = newSort;
            many = newMany;
            Arrays.fill(numbers, 0L);
        }

        void put(int place, long v) {
            switch (sort) {
                case 0:
                    numbers[place] = (byte) v;
                    break;
                case 1:
                    numbers[place] = (short) v;
                    break;
                case 2:
                    numbers[place] = (int) v;
                    break;
                default:
                    numbers[place] = v;
                    break;
            }
        }

        /** Whether so many numbers (0 or more) from a place on are not all there. */
        boolean lacks(int place, int count) {
            return place < 0 || place > many || count > many - place;
        }

        boolean within(int count, long least, long most) {
            for (int i = 0; i < count; i++) {
                if (numbers[i] < least || numbers[i] > most) {
                    return false;
                }
            }
            return true;
        }

        /** The WOOL for the first numbers, which must be KINDS. */
        int woolOf(int count) {
            int wool = 0;
            for (int i = 0; i < count; i++) {
                wool += WOOL_OF[(int) numbers[i] & 3];
            }
            return wool;
        }
    }

    /** All that a MARK keeps. */
    private static final class State {
        final Deal deal = new Deal();
        final Cloth cloth = new Cloth();
        final Script script = new Script();

        void clear() {
            deal.clear();
            cloth.clear();
            script.clear();
        }

        void copyFrom(State other) {
            deal.copyFrom(other.deal);
            cloth.copyFrom(other.cloth);
            script.copyFrom(other.script);
        }
    }

    /** QUEENS, CLAUSES, and what they are to one another. */
    private static final class Deal {
        final int[] wools = new int[MOST_QUEENS];
        final long[] queenNames = new long[MOST_QUEENS];
        final long[] clauseNames = new long[MOST_CLAUSES];
        final int[] lengths = new int[MOST_CLAUSES];
        final int[] kinds = new int[MOST_CLAUSES * MOST_KINDS];
        final int[] quarrels = new int[MOST_CLAUSES * MOST_CLAUSES];
        final int[] worths = new int[2 * MOST_QUEENS * MOST_CLAUSES];
        int queens = 0;
        int clauses = 0;

        void clear() {
            queens = 0;
            clauses = 0;
            Arrays.fill(quarrels, 0);
            Arrays.fill(worths, 0);
        }

        void copyFrom(Deal other) {
            queens = other.queens;
            clauses = other.clauses;
            System.arraycopy(other.wools, 0, wools, 0, MOST_QUEENS);
            System.arraycopy(other.queenNames, 0, queenNames, 0, MOST_QUEENS);
            System.arraycopy(other.clauseNames, 0, clauseNames, 0, MOST_CLAUSES);
            System.arraycopy(other.lengths, 0, lengths, 0, MOST_CLAUSES);
            System.arraycopy(other.kinds, 0, kinds, 0, MOST_CLAUSES * MOST_KINDS);
            System.arraycopy(other.quarrels, 0, quarrels, 0, MOST_CLAUSES * MOST_CLAUSES);
            System.arraycopy(other.worths, 0, worths, 0, 2 * MOST_QUEENS * MOST_CLAUSES);
        }

        int queenNamed(long name) {
            return indexIn(queenNames, queens, name);
        }

        int clauseNamed(long name) {
            return indexIn(clauseNames, clauses, name);
        }

        private static int indexIn(long[] names, int count, long name) {
            for (int i = 0; i < count; i++) {
                if (names[i] == name) {
                    return i;
                }
            }
            return NONE;
        }

        static int worthAt(int queen, int clause, int what) {
            return (what * MOST_QUEENS + queen) * MOST_CLAUSES + clause;
        }

        boolean atOdds(int clause, int other) {
            return quarrels[clause * MOST_CLAUSES + other] == 1;
        }

        void setOdds(int clause, int other, int is) {
            quarrels[clause * MOST_CLAUSES + other] = is;
            quarrels[other * MOST_CLAUSES + clause] = is;
        }

        void giveWool(int queen, int much) {
            wools[queen] = Math.min(MOST_WOOL, wools[queen] + much);
        }

        /** The KINDS of a CLAUSE as digits by 4, the first the highest. */
        long runOf(int clause) {
            long run = 0;
            for (int k = 0; k < lengths[clause]; k++) {
                run = run << 2 | kinds[clause * MOST_KINDS + k];
            }
            return run;
        }

        int winOfOne(int queen, int clause) {
            return worths[worthAt(queen, clause, 0)] - worths[worthAt(queen, clause, 1)];
        }

        int winOf(int queen, int set) {
            int sum = 0;
            for (int clause = 0; clause < clauses; clause++) {
                if (inSet(set, clause)) {
                    sum += winOfOne(queen, clause);
                }
            }
            return sum;
        }

        int winOfAll(int set) {
            int sum = 0;
            for (int queen = 0; queen < queens; queen++) {
                sum += winOf(queen, set);
            }
            return sum;
        }

        /** No two CLASH and no QUEEN loses. */
        boolean signable(int set) {
            for (int i = 0; i < clauses; i++) {
                for (int j = i + 1; j < clauses; j++) {
                    if (inSet(set, i) && inSet(set, j) && atOdds(i, j)) {
                        return false;
                    }
                }
            }
            for (int queen = 0; queen < queens; queen++) {
                if (winOf(queen, set) < 0) {
                    return false;
                }
            }
            return true;
        }

        int bestSet() {
            int best = 0;
            int most = 0;
            for (int set = 1; set < 1 << clauses; set++) {
                int sum = winOfAll(set);
                if (sum > most && signable(set)) {
                    most = sum;
                    best = set;
                }
            }
            return best;
        }

        /** STABLE: a QUEEN would win more without a CLAUSE just if it costs her more than it gives. */
        boolean holdsFast(int set) {
            if (!signable(set)) {
                return false;
            }
            for (int clause = 0; clause < clauses; clause++) {
                for (int queen = 0; queen < queens; queen++) {
                    if (inSet(set, clause) && winOfOne(queen, clause) < 0) {
                        return false;
                    }
                }
            }
            return true;
        }
    }

    /** The piece: ROWS of STITCHES, and how they wear and come undone. */
    private static final class Cloth {
        static final int CELLS = MOST_ROWS * MOST_WIDE;

        final int[] owner = new int[MOST_ROWS];
        final int[] kinds = new int[CELLS];
        final int[] worn = new int[CELLS];
        final int[] undone = new int[CELLS];
        final int[] darned = new int[CELLS];
        int wide = 6;
        int tough = 20;
        int rows = 0;
        int date = 0;

        void clear() {
            wide = 6;
            tough = 20;
            rows = 0;
            date = 0;
        }

        void copyFrom(Cloth other) {
            wide = other.wide;
            tough = other.tough;
            rows = other.rows;
            date = other.date;
            System.arraycopy(other.owner, 0, owner, 0, MOST_ROWS);
            System.arraycopy(other.kinds, 0, kinds, 0, CELLS);
            System.arraycopy(other.worn, 0, worn, 0, CELLS);
            System.arraycopy(other.undone, 0, undone, 0, CELLS);
            System.arraycopy(other.darned, 0, darned, 0, CELLS);
        }

        static int at(int row, int column) {
            return row * MOST_WIDE + column;
        }

        /** A new STITCH of the ROW that is not closed yet (there must be room for it). */
        void lay(int column, int kind) {
            int at = at(rows, column);
            kinds[at] = kind;
            worn[at] = 0;
            undone[at] = 0;
            darned[at] = 0;
        }

        void closeRow(int queen) {
            owner[rows] = queen;
            rows++;
        }

        /** WOOL of a ROW for all that is not UNDONE. */
        int woolIn(int row) {
            int wool = 0;
            for (int column = 0; column < wide; column++) {
                int at = at(row, column);
                if (undone[at] == 0) {
                    wool += WOOL_OF[kinds[at] & 3];
                }
            }
            return wool;
        }

        int sum(int[] told) {
            int sum = 0;
            for (int row = 0; row < rows; row++) {
                for (int column = 0; column < wide; column++) {
                    sum += told[at(row, column)];
                }
            }
            return sum;
        }

        int wornInAll() {
            int sum = 0;
            for (int row = 0; row < rows; row++) {
                for (int column = 0; column < wide; column++) {
                    int at = at(row, column);
                    if (undone[at] == 0) {
                        sum += worn[at];
                    }
                }
            }
            return sum;
        }

        boolean loose(int at) {
            return undone[at] == 0 && darned[at] == 0;
        }

        boolean wholeRow(int row) {
            for (int column = 0; column < wide; column++) {
                if (undone[at(row, column)] == 1) {
                    return false;
                }
            }
            return true;
        }

        int passYears(int years) {
            int fresh = 0;
            for (int i = 0; i < years && anyLoose(); i++) {
                fresh += passYear();
            }
            date += years;
            return fresh;
        }

        /** Without a loose STITCH YEARS change nothing. */
        boolean anyLoose() {
            for (int row = 0; row < rows; row++) {
                for (int column = 0; column < wide; column++) {
                    if (loose(at(row, column))) {
                        return true;
                    }
                }
            }
            return false;
        }

        /** What a YEAR does to the STITCHES; how many came undone. */
        int passYear() {
            int fresh = 0;
            for (int row = 0; row < rows; row++) {
                wearRow(row);
                fresh += openRow(row);
            }
            return withLadders(fresh);
        }

        private void wearRow(int row) {
            for (int column = 0; column < wide; column++) {
                int at = at(row, column);
                if (loose(at)) {
                    int more = 1 + gapAt(row, column - 1) + gapAt(row, column + 1);
                    worn[at] = Math.min(LONGEST, worn[at] + more);
                }
            }
        }

        private int gapAt(int row, int column) {
            if (column < 0 || column >= wide) {
                return 0;
            }
            int at = row * MOST_WIDE + column;
            return kinds[at] == HOLE || undone[at] == 1 ? 1 : 0;
        }

        private int openRow(int row) {
            int fresh = 0;
            for (int column = 0; column < wide; column++) {
                int at = at(row, column);
                if (loose(at) && worn[at] >= tough) {
                    undone[at] = 1;
                    fresh++;
                }
            }
            return fresh;
        }

        /** LADDERS run just when something came undone; answers all that came undone. */
        private int withLadders(int fresh) {
            if (fresh == 0) {
                return 0;
            }
            int all = fresh;
            for (int row = 1; row < rows; row++) {
                for (int column = 0; column < wide; column++) {
                    int at = at(row, column);
                    if (kinds[at] == KNIT && loose(at) && undone[at - MOST_WIDE] == 1) {
                        undone[at] = 1;
                        all++;
                    }
                }
            }
            return all;
        }

        int pullThread(int row, int side) {
            int fresh = 0;
            for (int i = 0; i < wide; i++) {
                int at = at(row, side == 0 ? i : wide - 1 - i);
                if (undone[at] == 0) {
                    if (darned[at] == 1 || kinds[at] == CABLE) {
                        break;
                    }
                    undone[at] = 1;
                    fresh++;
                }
            }
            return withLadders(fresh);
        }

        /** A MOTH: how many came undone. */
        int eat(int row, int column) {
            int at = at(row, column);
            if (!loose(at)) {
                return 0;
            }
            undone[at] = 1;
            return withLadders(1);
        }

        /** DARNS a STITCH: by how much it was WORN. */
        int patch(int row, int column) {
            int at = at(row, column);
            int before = worn[at];
            worn[at] = 0;
            undone[at] = 0;
            darned[at] = 1;
            return before;
        }

        boolean saysAt(Deal deal, int clause, int row, int column) {
            int length = deal.lengths[clause];
            if (column + length > wide) {
                return false;
            }
            for (int k = 0; k < length; k++) {
                int at = at(row, column + k);
                if (undone[at] == 1 || kinds[at] != deal.kinds[clause * MOST_KINDS + k]) {
                    return false;
                }
            }
            return true;
        }

        int timesIn(Deal deal, int clause, int row) {
            int times = 0;
            for (int column = 0; column < wide; column++) {
                if (saysAt(deal, clause, row, column)) {
                    times++;
                }
            }
            return times;
        }

        boolean saysAnywhere(Deal deal, int clause) {
            for (int row = 0; row < rows; row++) {
                if (timesIn(deal, clause, row) > 0) {
                    return true;
                }
            }
            return false;
        }

        int saidSetIn(Deal deal, int row) {
            int set = 0;
            for (int clause = 0; clause < deal.clauses; clause++) {
                if (timesIn(deal, clause, row) > 0) {
                    set |= 1 << clause;
                }
            }
            return set;
        }

        int saidSet(Deal deal) {
            int set = 0;
            for (int row = 0; row < rows; row++) {
                set |= saidSetIn(deal, row);
            }
            return set;
        }
    }

    /** The CENTURIES as entries: STEPS, and the ends of when and loop. */
    private static final class Script {
        static final int MOST_STEPS = 30;
        static final int MOST_ENTRIES = 2 * MOST_STEPS;

        final int[] ops = new int[MOST_ENTRIES];
        final int[] firsts = new int[MOST_ENTRIES];
        final int[] seconds = new int[MOST_ENTRIES];
        // Of a when or loop the place of its end, of an end that of its when or loop.
        final int[] mates = new int[MOST_ENTRIES];
        boolean there = false;
        int steps = 0;
        int entries = 0;

        void clear() {
            there = false;
            steps = 0;
            entries = 0;
        }

        void copyFrom(Script other) {
            there = other.there;
            steps = other.steps;
            entries = other.entries;
            System.arraycopy(other.ops, 0, ops, 0, MOST_ENTRIES);
            System.arraycopy(other.firsts, 0, firsts, 0, MOST_ENTRIES);
            System.arraycopy(other.seconds, 0, seconds, 0, MOST_ENTRIES);
            System.arraycopy(other.mates, 0, mates, 0, MOST_ENTRIES);
        }

        /** An entry more (there must be room for it). */
        void add(int op, int first, int second) {
            ops[entries] = op;
            firsts[entries] = first;
            seconds[entries] = second;
            mates[entries] = entries;
            entries++;
        }

        void couple(int one, int other) {
            mates[one] = other;
            mates[other] = one;
        }
    }

    /** TOKENS of a text, one at a time, and the first FAULT. */
    private static final class Reader {
        static final int WIDE = 0;
        static final int TOUGH = 1;
        static final int QUEEN = 2;
        static final int WOOL = 3;
        static final int CLAUSE = 4;
        static final int IS = 5;
        static final int CLASH = 6;
        static final int GIVES = 7;
        static final int COSTS = 8;
        static final int ROW = 9;
        static final int FIRST_KIND = 10;
        static final int YEAR = 14;
        static final int PULL = 15;
        static final int MOTH = 16;
        static final int DARN = 17;
        static final int ANY = 18;
        static final int WHEN = 19;
        static final int SAID = 20;
        static final int WHOLE = 21;
        static final int UNDONE = 22;
        static final int LOOP = 23;
        static final int END = 24;
        static final int STOP = 25;
        static final int NAME = 26;
        static final int LONG_WORD = 27;
        static final int NO_WORD = -1;

        static final int WORDS = 26;
        // In the order of the numbers above, a blank behind each.
        static final String WORD_LIST = "wide tough queen wool clause is clash gives costs row knit purl cable hole year pull moth darn any when said whole undone loop end stop ";

        static final int TEXT_END = 0;
        static final int BAD = 1;
        static final int WORD = 2;
        static final int NUMBER = 3;
        static final int SIGN = 4;

        // Eight letters go into 40 bits, and no two WORDS into the same.
        final long[] known = new long[WORDS];
        int[] text = new int[0];
        int size = 0;
        int after = 0;
        int place = 0;
        int sort = TEXT_END;
        int key = NO_WORD;
        long word = 0;
        int number = 0;
        int sign = 0;
        int faultKind = 0;
        int faultPlace = NONE;

        Reader() {
            int count = 0;
            long packed = 0;
            for (int i = 0; i < WORD_LIST.length(); i++) {
                char c = WORD_LIST.charAt(i);
                if (c != ' ') {
                    packed = packed << 5 | (c - 'a' + 1);
                } else if (count < WORDS) {
                    known[count] = packed;
                    count++;
                    packed = 0;
                }
            }
        }

        void open(int[] newText, int newSize) {
            text = newText;
            size = Math.min(newSize, newText.length);
            after = 0;
            faultKind = 0;
            faultPlace = NONE;
            next();
        }

        void next() {
            int at = after;
            while (at < size && (text[at] == ' ' || text[at] == 10)) {
                at++;
            }
            place = at;
            key = NO_WORD;
            if (at >= size) {
                sort = TEXT_END;
                after = size;
            } else if (text[at] >= 'a' && text[at] <= 'z') {
                readWord();
                key = after - at > 8 ? LONG_WORD : keyOf(word);
            } else if (text[at] >= '0' && text[at] <= '9') {
                readNumber();
            } else {
                sign = text[at];
                sort = sign == ';' || sign == '<' || sign == '=' || sign == '>' ? SIGN : BAD;
                after = at + 1;
            }
        }

        private void readWord() {
            int at = place;
            word = 0;
            while (at < size && text[at] >= 'a' && text[at] <= 'z') {
                word = word << 5 | (text[at] - 'a' + 1);
                at++;
            }
            sort = WORD;
            after = at;
        }

        private int keyOf(long packed) {
            for (int i = 0; i < WORDS; i++) {
                if (known[i] == packed) {
                    return i;
                }
            }
            return NAME;
        }

        private void readNumber() {
            int at = place;
            number = 0;
            while (at < size && text[at] >= '0' && text[at] <= '9') {
                number = number * 10 + (text[at] - '0');
                at++;
            }
            sort = at - place > 4 ? BAD : NUMBER;
            after = at;
        }

        /** A FAULT at the present TOKEN; always false. */
        boolean fail(int kind) {
            faultKind = sort == BAD ? 1 : kind;
            faultPlace = place;
            return false;
        }

        boolean takeSign(int wanted) {
            if (sort != SIGN || sign != wanted) {
                return fail(2);
            }
            next();
            return true;
        }

        boolean takeWord(int wanted) {
            if (key != wanted) {
                return fail(2);
            }
            next();
            return true;
        }

        /** Whether a NUMBER stands here that can be. */
        boolean atNumber(int least, int most) {
            if (sort != NUMBER) {
                return fail(2);
            }
            return number >= least && number <= most ? true : fail(4);
        }

        boolean atKind() {
            return key >= FIRST_KIND && key < FIRST_KIND + KINDS;
        }
    }

    /** Reads a TREATY. */
    private static final class TreatyText {
        final Reader reader = new Reader();
        private boolean wideTold = false;
        private boolean toughTold = false;

        boolean parse(int[] text, int n, State to) {
            to.clear();
            wideTold = false;
            toughTold = false;
            reader.open(text, n);
            for (int i = 0; i <= n && reader.sort != Reader.TEXT_END; i++) {
                if (!readPart(to)) {
                    return false;
                }
            }
            return true;
        }

        private boolean readPart(State to) {
            int key = reader.key;
            switch (key) {
                case Reader.WIDE:
                case Reader.TOUGH:
                    return readMeasure(to, key) && reader.takeSign(';');
                case Reader.QUEEN:
                    return readQueen(to.deal) && reader.takeSign(';');
                case Reader.CLAUSE:
                    return readClause(to) && reader.takeSign(';');
                case Reader.CLASH:
                    return readClash(to.deal) && reader.takeSign(';');
                case Reader.GIVES:
                case Reader.COSTS:
                    return readWorth(to.deal, key == Reader.GIVES ? 0 : 1) && reader.takeSign(';');
                case Reader.ROW:
                    return readRow(to) && reader.takeSign(';');
                default:
                    return reader.fail(2);
            }
        }

        private boolean readMeasure(State to, int key) {
            if (to.cloth.rows > 0 || to.deal.clauses > 0) {
                return reader.fail(2);
            }
            boolean isWide = key == Reader.WIDE;
            if (isWide ? wideTold : toughTold) {
                return reader.fail(5);
            }
            reader.next();
            if (!reader.atNumber(1, isWide ? MOST_WIDE : MOST_TOUGH)) {
                return false;
            }
            if (isWide) {
                to.cloth.wide = reader.number;
                wideTold = true;
            } else {
                to.cloth.tough = reader.number;
                toughTold = true;
            }
            reader.next();
            return true;
        }

        /** Whether a NAME stands here that nothing has. */
        private boolean newName(Deal deal) {
            if (reader.key != Reader.NAME) {
                return reader.fail(2);
            }
            boolean taken = deal.queenNamed(reader.word) != NONE || deal.clauseNamed(reader.word) != NONE;
            return taken ? reader.fail(3) : true;
        }

        private boolean readQueen(Deal deal) {
            int queen = deal.queens;
            if (queen >= MOST_QUEENS) {
                return reader.fail(6);
            }
            reader.next();
            if (!newName(deal)) {
                return false;
            }
            deal.queenNames[queen] = reader.word;
            deal.wools[queen] = 100;
            deal.queens++;
            reader.next();
            if (reader.key != Reader.WOOL) {
                return true;
            }
            reader.next();
            if (!reader.atNumber(0, MOST_WOOL)) {
                return false;
            }
            deal.wools[queen] = reader.number;
            reader.next();
            return true;
        }

        private boolean readClause(State to) {
            Deal deal = to.deal;
            int clause = deal.clauses;
            if (clause >= MOST_CLAUSES) {
                return reader.fail(6);
            }
            reader.next();
            if (!newName(deal)) {
                return false;
            }
            deal.clauseNames[clause] = reader.word;
            deal.clauses++;
            reader.next();
            if (!reader.takeWord(Reader.IS)) {
                return false;
            }
            int most = Math.min(MOST_KINDS, to.cloth.wide);
            int count = 0;
            for (int i = 0; i <= most && reader.atKind(); i++) {
                if (count >= most) {
                    return reader.fail(6);
                }
                deal.kinds[clause * MOST_KINDS + count] = reader.key - Reader.FIRST_KIND;
                count++;
                reader.next();
            }
            deal.lengths[clause] = count;
            return count == 0 ? reader.fail(2) : true;
        }

        /** The CLAUSE whose NAME stands here; NONE with a FAULT. */
        private int readClauseName(Deal deal) {
            if (reader.key != Reader.NAME) {
                reader.fail(2);
                return NONE;
            }
            int clause = deal.clauseNamed(reader.word);
            if (clause == NONE) {
                reader.fail(3);
            }
            return clause;
        }

        /** The QUEEN whose NAME stands here; NONE with a FAULT. */
        private int readQueenName(Deal deal) {
            if (reader.key != Reader.NAME) {
                reader.fail(2);
                return NONE;
            }
            int queen = deal.queenNamed(reader.word);
            if (queen == NONE) {
                reader.fail(3);
            }
            return queen;
        }

        private boolean readClash(Deal deal) {
            reader.next();
            int one = readClauseName(deal);
            if (one == NONE) {
                return false;
            }
            reader.next();
            int other = readClauseName(deal);
            if (other == NONE) {
                return false;
            }
            if (other == one) {
                return reader.fail(5);
            }
            deal.setOdds(one, other, 1);
            reader.next();
            return true;
        }

        private boolean readWorth(Deal deal, int what) {
            reader.next();
            int queen = readQueenName(deal);
            if (queen == NONE) {
                return false;
            }
            reader.next();
            int clause = readClauseName(deal);
            if (clause == NONE) {
                return false;
            }
            reader.next();
            if (!reader.atNumber(0, MOST_WORTH)) {
                return false;
            }
            deal.worths[Deal.worthAt(queen, clause, what)] = reader.number;
            reader.next();
            return true;
        }

        private boolean readRow(State to) {
            Cloth cloth = to.cloth;
            if (cloth.rows >= MOST_ROWS) {
                return reader.fail(6);
            }
            reader.next();
            int queen = readQueenName(to.deal);
            if (queen == NONE) {
                return false;
            }
            reader.next();
            int column = 0;
            for (int i = 0; i <= cloth.wide && reader.atKind(); i++) {
                column = readRun(cloth, column);
                if (column == NONE) {
                    return false;
                }
            }
            if (column < cloth.wide) {
                return reader.fail(2);
            }
            cloth.closeRow(queen);
            return true;
        }

        /** A KIND and perhaps a NUMBER from a column on: the column behind them; NONE with a FAULT. */
        private int readRun(Cloth cloth, int column) {
            if (column >= cloth.wide) {
                reader.fail(6);
                return NONE;
            }
            int kind = reader.key - Reader.FIRST_KIND;
            int times = 1;
            reader.next();
            if (reader.sort == Reader.NUMBER) {
                if (!reader.atNumber(1, 8)) {
                    return NONE;
                }
                times = reader.number;
                if (column + times > cloth.wide) {
                    reader.fail(6);
                    return NONE;
                }
                reader.next();
            }
            for (int i = 0; i < times; i++) {
                cloth.lay(column + i, kind);
            }
            return column + times;
        }
    }

    /** Reads CENTURIES. */
    private static final class CenturyText {
        private static final int DEEPEST = 3;

        final Reader reader = new Reader();
        private final int[] open = new int[DEEPEST];
        private int depth = 0;

        boolean parse(int[] text, int n, State in, Script to) {
            to.clear();
            depth = 0;
            reader.open(text, n);
            for (int i = 0; i <= n && reader.sort != Reader.TEXT_END; i++) {
                boolean taken = reader.key == Reader.END ? readEnd(to) : readStep(in, to);
                if (!taken || !reader.takeSign(';')) {
                    return false;
                }
            }
            if (depth > 0) {
                return reader.fail(2);
            }
            to.there = true;
            return true;
        }

        private boolean readEnd(Script to) {
            if (depth == 0) {
                return reader.fail(2);
            }
            depth--;
            to.add(Reader.END, 0, 0);
            to.couple(open[depth], to.entries - 1);
            reader.next();
            return true;
        }

        private static boolean beginsStep(int key) {
            return key >= Reader.YEAR && key <= Reader.WHEN || key == Reader.LOOP || key == Reader.STOP;
        }

        private boolean readStep(State in, Script to) {
            int key = reader.key;
            if (!beginsStep(key)) {
                return reader.fail(2);
            }
            if (to.steps >= Script.MOST_STEPS) {
                return reader.fail(6);
            }
            boolean opens = key == Reader.WHEN || key == Reader.LOOP;
            if (opens && depth >= DEEPEST) {
                return reader.fail(7);
            }
            to.steps++;
            if (opens) {
                open[depth] = to.entries;
                depth++;
            }
            reader.next();
            switch (key) {
                case Reader.YEAR:
                    return readOne(to, key, 1, 20);
                case Reader.LOOP:
                    return readOne(to, key, 1, 99);
                case Reader.PULL:
                    return readTwo(to, key, in.cloth.rows - 1, 1);
                case Reader.MOTH:
                case Reader.DARN:
                    return readTwo(to, key, in.cloth.rows - 1, in.cloth.wide - 1);
                case Reader.WHEN:
                    return readTest(in, to);
                default:
                    to.add(key, 0, 0);
                    return true;
            }
        }

        private boolean readOne(Script to, int op, int least, int most) {
            if (!reader.atNumber(least, most)) {
                return false;
            }
            to.add(op, reader.number, 0);
            reader.next();
            return true;
        }

        private boolean readTwo(Script to, int op, int mostFirst, int mostSecond) {
            if (!reader.atNumber(0, mostFirst)) {
                return false;
            }
            int first = reader.number;
            reader.next();
            if (!reader.atNumber(0, mostSecond)) {
                return false;
            }
            to.add(op, first, reader.number);
            reader.next();
            return true;
        }

        /** A when is kept under the WORD of its TEST. */
        private boolean readTest(State in, Script to) {
            int key = reader.key;
            switch (key) {
                case Reader.SAID:
                    reader.next();
                    return readSaid(in.deal, to);
                case Reader.WHOLE:
                    reader.next();
                    return readOne(to, key, 0, in.cloth.rows - 1);
                case Reader.UNDONE:
                    reader.next();
                    return readUndone(to);
                default:
                    return reader.fail(2);
            }
        }

        private boolean readSaid(Deal deal, Script to) {
            if (reader.key != Reader.NAME) {
                return reader.fail(2);
            }
            int clause = deal.clauseNamed(reader.word);
            if (clause == NONE) {
                return reader.fail(3);
            }
            to.add(Reader.SAID, clause, 0);
            reader.next();
            return true;
        }

        private boolean readUndone(Script to) {
            if (reader.sort != Reader.SIGN || reader.sign == ';') {
                return reader.fail(2);
            }
            int compares = reader.sign;
            reader.next();
            if (!reader.atNumber(0, 99)) {
                return false;
            }
            to.add(Reader.UNDONE, compares, reader.number);
            reader.next();
            return true;
        }
    }

    /** CENTURIES as they go by. */
    private static final class Life {
        private static final int MOST_DONE = 300;
        // Each of 300 STEPS brings at most 99 ends of a loop without a STEP in it.
        private static final int MOST_TURNS = 100000;

        private final int[] left = new int[Script.MOST_ENTRIES];
        private int seed = 0;
        int steps = 0;
        int missed = 0;
        int years = 0;
        int fresh = 0;
        int darns = 0;
        int cut = 0;

        void run(Script script, Deal deal, Cloth cloth, int from) {
            seed = from;
            steps = 0;
            missed = 0;
            years = 0;
            fresh = 0;
            darns = 0;
            cut = 0;
            int at = 0;
            for (int turn = 0; turn < MOST_TURNS && at < script.entries; turn++) {
                if (script.ops[at] == Reader.END) {
                    at = behindEnd(script, at);
                } else if (steps >= MOST_DONE) {
                    cut = 1;
                    return;
                } else {
                    steps++;
                    act(cloth, script.ops[at], script.firsts[at], script.seconds[at]);
                    at = behindStep(script, deal, cloth, at);
                }
            }
        }

        private int behindEnd(Script script, int at) {
            int mate = script.mates[at];
            if (script.ops[mate] == Reader.LOOP) {
                left[mate]--;
                if (left[mate] > 0) {
                    return mate + 1;
                }
            }
            return at + 1;
        }

        /** The place of what comes next behind a STEP that has been done. */
        private int behindStep(Script script, Deal deal, Cloth cloth, int at) {
            int op = script.ops[at];
            int first = script.firsts[at];
            int second = script.seconds[at];
            switch (op) {
                case Reader.STOP:
                    return script.entries;
                case Reader.LOOP:
                    left[at] = first;
                    return at + 1;
                case Reader.SAID:
                    return cloth.saysAnywhere(deal, first) ? at + 1 : script.mates[at] + 1;
                case Reader.WHOLE:
                    return first < cloth.rows && cloth.wholeRow(first) ? at + 1 : script.mates[at] + 1;
                case Reader.UNDONE:
                    return compares(cloth.sum(cloth.undone), first, second) ? at + 1 : script.mates[at] + 1;
                default:
                    return at + 1;
            }
        }

        private static boolean compares(int have, int sign, int number) {
            if (sign == '<') {
                return have < number;
            }
            return sign == '>' ? have > number : have == number;
        }

        private void act(Cloth cloth, int op, int first, int second) {
            switch (op) {
                case Reader.YEAR:
                    if (cloth.date + first > MOST_YEAR) {
                        missed++;
                    } else {
                        years += first;
                        fresh += cloth.passYears(first);
                    }
                    break;
                case Reader.PULL:
                    came(first < cloth.rows ? cloth.pullThread(first, second) : 0);
                    break;
                case Reader.MOTH:
                    came(first < cloth.rows ? cloth.eat(first, second) : 0);
                    break;
                case Reader.DARN:
                    patchOne(cloth, first, second);
                    break;
                case Reader.ANY:
                    anyMoth(cloth);
                    break;
                default:
                    break;
            }
        }

        /** What came undone by a pull or a moth: MISSED if it is nothing. */
        private void came(int undone) {
            fresh += undone;
            if (undone == 0) {
                missed++;
            }
        }

        private void patchOne(Cloth cloth, int row, int column) {
            if (row >= cloth.rows) {
                missed++;
                return;
            }
            cloth.patch(row, column);
            darns++;
        }

        private void anyMoth(Cloth cloth) {
            if (cloth.rows == 0) {
                missed++;
                return;
            }
            int row = draw(cloth.rows);
            int column = draw(cloth.wide);
            came(cloth.eat(row, column));
        }

        private int draw(int n) {
            seed = (seed * 2971 + 10729) % 65536;
            return n > 0 ? seed / 8 % n : 0;
        }
    }

    /** A half-seen ROW and the CLAUSE that may stand in it. */
    private static final class Seen {
        private static final int MOST_WAYS = 1 << 2 * MOST_WIDE;

        final int[] run = new int[MOST_WIDE];
        int wide = 0;
        private final int[] step = new int[MOST_KINDS * KINDS];
        private int length = 0;
        private int[] ways = new int[MOST_KINDS + 1];
        private int[] later = new int[MOST_KINDS + 1];

        /** How many first KINDS of the CLAUSE end a run, by how many did and by the KIND that comes. */
        void learn(Deal deal, int clause) {
            length = deal.lengths[clause];
            long whole = deal.runOf(clause);
            for (int had = 0; had < length; had++) {
                for (int kind = 0; kind < KINDS; kind++) {
                    long tail = firstOf(whole, had) << 2 | kind;
                    int has = had + 1;
                    while (has > 0 && (tail & lowest(has)) != firstOf(whole, has)) {
                        has--;
                    }
                    step[had * KINDS + kind] = has;
                }
            }
        }

        private long firstOf(long whole, int count) {
            return whole >> 2 * (length - count);
        }

        private static long lowest(int count) {
            return (1L << 2 * count) - 1;
        }

        int unknown() {
            int count = 0;
            for (int column = 0; column < wide; column++) {
                if (run[column] == UNKNOWN) {
                    count++;
                }
            }
            return count;
        }

        /** FILLS. */
        int count() {
            Arrays.fill(ways, 0);
            ways[0] = 1;
            for (int column = 0; column < wide; column++) {
                passColumn(run[column]);
            }
            return ways[length];
        }

        private void passColumn(int shown) {
            Arrays.fill(later, 0);
            for (int kind = 0; kind < KINDS; kind++) {
                if (shown == UNKNOWN || shown == kind) {
                    for (int had = 0; had < length; had++) {
                        later[step[had * KINDS + kind]] += ways[had];
                    }
                    later[length] += ways[length];
                }
            }
            int[] old = ways;
            ways = later;
            later = old;
        }

        private int countWith(int column, int kind) {
            int shown = run[column];
            run[column] = kind;
            int count = count();
            run[column] = shown;
            return count;
        }

        /** LOOK, if there are two FILLS or more. */
        int bestColumn() {
            int best = NONE;
            int least = MOST_WAYS + 1;
            for (int column = 0; column < wide; column++) {
                if (run[column] == UNKNOWN) {
                    int most = 0;
                    for (int kind = 0; kind < KINDS; kind++) {
                        most = Math.max(most, countWith(column, kind));
                    }
                    if (most < least) {
                        least = most;
                        best = column;
                    }
                }
            }
            return best;
        }

        /** The KIND of a column in all FILLS; NONE if there is not just one. */
        int onlyKind(int column) {
            int all = count();
            if (all == 0) {
                return NONE;
            }
            if (run[column] != UNKNOWN) {
                return run[column];
            }
            for (int kind = 0; kind < KINDS; kind++) {
                if (countWith(column, kind) == all) {
                    return kind;
                }
            }
            return NONE;
        }
    }

    /** The shortest run in which all of some CLAUSES stand; runs are numbers by 4. */
    private static final class Joiner {
        private static final int SETS = 1 << MOST_CLAUSES;

        private final int[] sizes = new int[MOST_CLAUSES];
        private final long[] runs = new long[MOST_CLAUSES];
        // By what has been joined and what came last: the least length (0: none yet), and of it the first run.
        private final int[] lengths = new int[SETS * MOST_CLAUSES];
        private final long[] joined = new long[SETS * MOST_CLAUSES];
        private int count = 0;
        int total = 0;
        long whole = 0;

        void join(Deal deal, int set) {
            gather(deal, set);
            Arrays.fill(lengths, 0);
            for (int i = 0; i < count; i++) {
                offer(1 << i, i, sizes[i], runs[i]);
            }
            for (int had = 1; had < 1 << count; had++) {
                for (int last = 0; last < count; last++) {
                    if (lengths[had * MOST_CLAUSES + last] > 0) {
                        extend(had, last);
                    }
                }
            }
            choose();
        }

        /** Takes what does not stand in another one anyway (of like ones the first). */
        private void gather(Deal deal, int set) {
            count = 0;
            for (int clause = 0; clause < deal.clauses; clause++) {
                if (inSet(set, clause) && !standsInOther(deal, set, clause)) {
                    sizes[count] = deal.lengths[clause];
                    runs[count] = deal.runOf(clause);
                    count++;
                }
            }
        }

        private static boolean standsInOther(Deal deal, int set, int clause) {
            int size = deal.lengths[clause];
            long run = deal.runOf(clause);
            for (int other = 0; other < deal.clauses; other++) {
                int spare = deal.lengths[other] - size;
                boolean asked = inSet(set, other) && (spare > 0 || spare == 0 && other < clause);
                long rest = deal.runOf(other);
                for (int shift = 0; asked && shift <= spare; shift++) {
                    if ((rest >> 2 * shift & lowest(size)) == run) {
                        return true;
                    }
                }
            }
            return false;
        }

        private static long lowest(int size) {
            return (1L << 2 * size) - 1;
        }

        private int overlap(int one, int next) {
            int most = Math.min(sizes[one], sizes[next]) - 1;
            for (int size = most; size > 0; size--) {
                if ((runs[one] & lowest(size)) == runs[next] >> 2 * (sizes[next] - size)) {
                    return size;
                }
            }
            return 0;
        }

        private void extend(int had, int last) {
            int at = had * MOST_CLAUSES + last;
            for (int next = 0; next < count; next++) {
                if (!inSet(had, next)) {
                    int more = sizes[next] - overlap(last, next);
                    long run = joined[at] << 2 * more | runs[next] & lowest(more);
                    offer(had | 1 << next, next, lengths[at] + more, run);
                }
            }
        }

        private void offer(int had, int last, int size, long run) {
            int at = had * MOST_CLAUSES + last;
            if (lengths[at] == 0 || size < lengths[at] || size == lengths[at] && run < joined[at]) {
                lengths[at] = size;
                joined[at] = run;
            }
        }

        private void choose() {
            total = 0;
            whole = 0;
            for (int last = 0; last < count; last++) {
                int at = ((1 << count) - 1) * MOST_CLAUSES + last;
                if (total == 0 || lengths[at] < total || lengths[at] == total && joined[at] < whole) {
                    total = lengths[at];
                    whole = joined[at];
                }
            }
        }
    }
}
