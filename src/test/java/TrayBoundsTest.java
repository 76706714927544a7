/** The boundary cases of a new object, the TRAYS and the FRACTION, sentence by sentence: promises 1 to 8. */
public final class TrayBoundsTest {
    public static void main(String[] args) {
        aNewObject();
        statusOf();
        fraction();
        lengths();
        places();
        cuts();
        pours();
        overlaps();
        Probe.finish("trays");
    }

    private static void aNewObject() {
        KnitTreaty x = new KnitTreaty();
        Probe.says("1: STATUS 0, the FRACTION 0 by 1");
        Probe.is("status", x.status(), 0);
        Probe.is("top", x.top(), 0);
        Probe.is("bottom", x.bottom(), 1);
        Probe.says("12: NONE ahead of any");
        for (int what = -1; what < 3; what++) {
            Probe.is("fault " + what, x.fault(what), -1);
        }
        Probe.says("1: TRAYS are MISSING");
        for (int t = 0; t < 4; t++) {
            Probe.no(x, "read of " + t, x.read(t, 0), 3);
            Probe.no(x, "write to " + t, x.write(t, 0, 1), 3);
            Probe.no(x, "pour of none", x.pour(t, 0, t, 0, 0), 3);
        }
        Probe.says("1: a TREATY of no QUEENS (WIDE 6, TOUGH 20)");
        int[] due = {6, 20, 0, 0, 0, 0, 0, 0, 0, 0};
        for (int what = 0; what < 10; what++) {
            Probe.ok(x, "many " + what, x.many(what), due[what]);
        }
        Probe.no(x, "wool", x.wool(0), 2);
        Probe.no(x, "length", x.length(0), 2);
        Probe.no(x, "stitch", x.stitch(0, 0, 0), 2);
        Probe.ok(x, "bargain", x.bargain(), 0);
        Probe.ok(x, "bargainWorth", x.bargainWorth(), 0);
        Probe.ok(x, "stable", x.stable(0), 1);
        Probe.ok(x, "stables", x.stables(), 1);
        Probe.ok(x, "shortest of none", x.shortest(0), 0);
        Probe.ok(x, "clashes", x.clashes(), 0);
        Probe.ok(x, "undoneIn", x.undoneIn(99), 0);
        Probe.says("1: no CENTURIES, MARKS, an empty tape");
        Probe.no(x, "live", x.live(0), 8);
        Probe.no(x, "mean", x.mean(0, 1), 8);
        Probe.no(x, "lived", x.lived(0), 8);
        Probe.no(x, "back", x.back(), 8);
        Probe.no(x, "treaty(1)", x.treaty(1), 5);
        Probe.no(x, "centuries(1)", x.centuries(1), 5);
        Probe.is("5 tells no fault", x.fault(0), -1);
        Probe.ok(x, "mark", x.mark(), 1);
        Probe.is("feed", x.feed(0, 0, 0, 0, 0), 20);
        Probe.says("22: a YEAR without ROWS");
        Probe.ok(x, "year", x.year(99), 0);
        Probe.ok(x, "the year", x.many(5), 99);
    }

    private static void statusOf() {
        Probe.says("2: the STATUS of the latest call that has one");
        KnitTreaty x = new KnitTreaty();
        x.tray(0, 0, -1);
        Probe.is("status", x.status(), 6);
        Probe.is("status again", x.status(), 6);
        x.tray(0, 0, 0);
        Probe.is("status", x.status(), 0);
        x.tray(0, 0, 61);
        x.feed(0, 0, 0, 0, 0);
        x.fault(0);
        x.top();
        x.bottom();
        Probe.is("status", x.status(), 5);
    }

    private static void fraction() {
        KnitTreaty x = Probe.of("wide 2;clause a is knit;clause b is knit purl;clause c is hole hole;");
        Probe.row(x, 0, "**");
        Probe.says("4: without a common divisor, the bottom above 0");
        Probe.ok(x, "chance", x.chance(0, 0));
        Probe.is("top of 7 by 16", x.top(), 7);
        Probe.is("bottom of 7 by 16", x.bottom(), 16);
        Probe.row(x, 0, "K*");
        x.chance(1, 0);
        Probe.is("top of 1 by 4", x.top(), 1);
        Probe.is("bottom of 1 by 4", x.bottom(), 4);
        x.chance(0, 0);
        Probe.is("top of 4 by 4", x.top(), 1);
        Probe.is("bottom of 4 by 4", x.bottom(), 1);
        Probe.says("3: the FRACTION told latest");
        x.chance(0, 1);
        x.mean(0, 0);
        x.many(99);
        Probe.is("a refused call leaves the top", x.top(), 1);
        Probe.is("a refused call leaves the bottom", x.bottom(), 1);
        x.chance(1, 0);
        x.chance(9, 0);
        Probe.is("a refused call leaves the top", x.top(), 1);
        Probe.is("a refused call leaves the bottom", x.bottom(), 4);
        Probe.says("4: 0 is 0 by 1");
        x.chance(2, 0);
        Probe.is("top of 0 by 4", x.top(), 0);
        Probe.is("bottom of 0 by 4", x.bottom(), 1);
    }

    private static void lengths() {
        KnitTreaty x = new KnitTreaty();
        Probe.says("5: at most 60");
        Probe.ok(x, "60 numbers", x.tray(0, 0, 60));
        Probe.ok(x, "place 59", x.read(0, 59), 0);
        Probe.no(x, "place 60", x.read(0, 60), 4);
        Probe.no(x, "61 numbers", x.tray(0, 0, 61), 5);
        Probe.ok(x, "still 60", x.read(0, 59), 0);
        Probe.says("5: below 0 (6)");
        Probe.no(x, "-1 numbers", x.tray(0, 0, -1), 6);
        Probe.ok(x, "no numbers", x.tray(0, 0, 0));
        Probe.no(x, "read of none", x.read(0, 0), 4);
        Probe.no(x, "write to none", x.write(0, 0, 0), 4);
        Probe.says("5: no such TRAY, sort (1)");
        for (int t = 0; t < 4; t++) {
            Probe.ok(x, "tray " + t, x.tray(t, t, 1));
        }
        Probe.no(x, "tray -1", x.tray(-1, 0, 1), 1);
        Probe.no(x, "tray 4", x.tray(4, 0, 1), 1);
        Probe.no(x, "sort -1", x.tray(0, -1, 1), 1);
        Probe.no(x, "sort 4", x.tray(0, 4, 1), 1);
        Probe.says("5: all 0");
        x.tray(0, 3, 60);
        for (int p = 0; p < 60; p += 59) {
            x.write(0, p, 5);
        }
        x.tray(0, 3, 1);
        Probe.ok(x, "0 again", x.read(0, 0), 0);
        Probe.no(x, "what is cut off", x.read(0, 59), 4);
        x.tray(0, 3, 60);
        Probe.ok(x, "0 again", x.read(0, 59), 0);
    }

    private static void places() {
        KnitTreaty x = new KnitTreaty();
        x.tray(3, 3, 2);
        Probe.says("6: a place that the TRAY has not (4)");
        Probe.ok(x, "the first", x.write(3, 0, 8));
        Probe.ok(x, "the last", x.write(3, 1, 9));
        Probe.no(x, "one beyond", x.write(3, 2, 7), 4);
        Probe.no(x, "one below", x.write(3, -1, 7), 4);
        Probe.says("7: a place that the TRAY has not (4)");
        Probe.ok(x, "the first", x.read(3, 0), 8);
        Probe.ok(x, "the last", x.read(3, 1), 9);
        Probe.no(x, "one beyond", x.read(3, 2), 4);
        Probe.no(x, "one below", x.read(3, -1), 4);
        Probe.says("7: STATUS tells NONE from -1");
        x.write(3, 0, -1);
        Probe.ok(x, "-1", x.read(3, 0), -1);
        Probe.no(x, "NONE", x.read(2, 0), 3);
    }

    private static void cuts() {
        Probe.says("numbers of 8 bits (sort 0), 16 (1), 32 (2) or 64 (3), with sign; what is written is cut to these");
        KnitTreaty x = new KnitTreaty();
        for (int sort = 0; sort < 4; sort++) {
            x.tray(0, sort, 5);
            int bits = 8 << sort;
            long most = (1L << bits - 1) - 1;
            long least = -most - 1;
            long[] put = {most, most + 1, least, least - 1, -1};
            long[] due = {most, least, least, most, -1};
            for (int i = 0; i < 5; i++) {
                Probe.ok(x, "write to sort " + sort, x.write(0, i, put[i]));
                Probe.ok(x, "read of " + put[i] + " from sort " + sort, x.read(0, i), due[i]);
            }
            x.write(0, 0, sort == 3 ? 0 : 1L << bits);
            Probe.ok(x, "all of it cut off", x.read(0, 0), 0);
        }
    }

    private static void pours() {
        KnitTreaty x = new KnitTreaty();
        x.tray(0, 2, 3);
        x.tray(1, 2, 2);
        x.tray(2, 1, 3);
        for (int i = 0; i < 3; i++) {
            x.write(0, i, i + 1);
        }
        Probe.says("8: 1, 3 (either), 11, 6, 4, asked in this order");
        Probe.no(x, "1 ahead of 3", x.pour(3, -1, 4, -1, -1), 1);
        Probe.no(x, "1 ahead of 3", x.pour(-1, -1, 3, -1, -1), 1);
        Probe.no(x, "3 ahead of 11", x.pour(3, -1, 2, -1, -1), 3);
        Probe.no(x, "3 ahead of 11", x.pour(2, -1, 3, -1, -1), 3);
        Probe.no(x, "11 ahead of 6", x.pour(0, -1, 2, -1, -1), 11);
        Probe.no(x, "6 ahead of 4", x.pour(0, -1, 1, -1, -1), 6);
        Probe.no(x, "4", x.pour(0, -1, 1, 0, 0), 4);
        Probe.says("8: with 0 numbers, too, if a place is above how many there are");
        Probe.ok(x, "none at both ends", x.pour(0, 3, 1, 2, 0));
        Probe.no(x, "none above the first", x.pour(0, 4, 1, 2, 0), 4);
        Probe.no(x, "none above the second", x.pour(0, 3, 1, 3, 0), 4);
        x.tray(3, 2, 0);
        Probe.ok(x, "none of none", x.pour(3, 0, 3, 0, 0));
        Probe.no(x, "none above none", x.pour(3, 1, 3, 0, 0), 4);
        Probe.no(x, "one of none", x.pour(3, 0, 3, 0, 1), 4);
        Probe.says("8: so many numbers from place i on come to place j on");
        Probe.no(x, "one too many for the second", x.pour(0, 0, 1, 0, 3), 4);
        Probe.no(x, "one too many of the first", x.pour(0, 2, 1, 0, 2), 4);
        Probe.no(x, "one place too far", x.pour(0, 0, 1, 1, 2), 4);
        Probe.ok(x, "nothing has come yet", x.read(1, 0) * 10 + x.read(1, 1), 0);
        Probe.ok(x, "the last two", x.pour(0, 1, 1, 0, 2));
        Probe.ok(x, "they came", x.read(1, 0) * 10 + x.read(1, 1), 23);
        Probe.ok(x, "to the last place", x.pour(0, 0, 1, 1, 1));
        Probe.ok(x, "it came", x.read(1, 0) * 10 + x.read(1, 1), 21);
        Probe.ok(x, "they stay where they were", x.read(0, 0) * 100 + x.read(0, 1) * 10 + x.read(0, 2), 123);
        Probe.ok(x, "as many as there are", x.pour(0, 0, 0, 0, 3));
        Probe.no(x, "the third is another's", x.read(1, 2), 4);
    }

    private static void overlaps() {
        Probe.says("8: of another one, or the same, as they were");
        KnitTreaty x = new KnitTreaty();
        x.tray(0, 0, 60);
        for (int i = 0; i < 60; i++) {
            x.write(0, i, i);
        }
        Probe.ok(x, "one up", x.pour(0, 0, 0, 1, 59));
        Probe.ok(x, "the first stays", x.read(0, 0), 0);
        for (int i = 1; i < 60; i += 29) {
            Probe.ok(x, "place " + i, x.read(0, i), i - 1);
        }
        Probe.ok(x, "two down", x.pour(0, 2, 0, 0, 58));
        Probe.ok(x, "place 0", x.read(0, 0), 1);
        Probe.ok(x, "place 57", x.read(0, 57), 58);
        Probe.ok(x, "the last stay", x.read(0, 58) * 100 + x.read(0, 59), 5758);
    }
}
