import java.math.BigInteger;
import java.time.LocalDate;

/** Each promise by hand: ordinary calls, the edges that the document names, wrong arguments. */
public final class PromiseTest {
    private static final int NONE = DayBoy.NONE;
    private static final int HIDDEN = DayBoy.HIDDEN;
    private static final int LEAST = Integer.MIN_VALUE;
    private static final int MOST = Integer.MAX_VALUE;

    public static void main(String[] args) {
        newObject();
        feed();
        end();
        fault();
        text();
        day();
        changes();
        date();
        turned();
        many();
        kind();
        way();
        wayOfSeveral();
        noWay();
        answers();
        slips();
        falseSteps();
        ask();
        asked();
        fits();
        so();
        further();
        lived();
        after();
        learnt();
        weigh();
        odds();
        plan();
        parted();
        next();
        part();
        least();
        like();
        thirteenths();
        mates();
        born();
        age();
        event();
        held();
        spell();
        keep();
        back();
        row();
        run();
        holds();
        right();
        lacks();
        spare();
        unlike();
        rises();
        count();
        Due.end();
    }

    private static int gregorian(int y, int m, int d) {
        return (int) LocalDate.of(y, m, d).toEpochDay() + 719162 + 7;
    }

    private static void newObject() {
        Due.part("promise 1");
        DayBoy x = new DayBoy();
        int[] due = {0, 0, 0, 0, 0, 0, NONE, 0};
        for (int what = 0; what < due.length; what++) {
            Due.is("count(" + what + ")", x.count(what), due[what]);
        }
        Due.is("text(0)", x.text(0), NONE);
        Due.hasNoDay(x, 0, 1, 1, 1);
        Due.is("fits(0)", x.fits(0), 0);
        Due.is("spare(0, 0)", x.spare(0, 0), 0);
        Due.is("run(0, 0, 0, 0, -1)", x.run(0, 0, 0, 0, NONE), NONE);
        Due.is("back()", x.back(), 0);
    }

    private static void feed() {
        Due.part("promise 2");
        DayBoy x = new DayBoy();
        Due.is("feed of zeros", x.feed(0, 0, 0, 0, 0), 0);
        Due.is("feed of five words", x.feed(0x20202020, 0x20202020, 0x20202020, 0x20202020, 0x20202035), 20);
        Due.is("fault(0): the 5 came last", x.fault(0), 20);
        Due.holds("end(0)", x.end(0));
        Due.is("feed with zeros between", x.feed(0x35000000, 0x00003A00, 0, 0x0000342B, 0), 4);
        Due.is("fault(0)", x.fault(0), NONE);
        Due.holds("end(0)", x.end(0));
        Due.is("feed of bytes above 127", x.feed(-1, 0, 0, 0, 0x80000000), 5);
        Due.holds("end(0)", x.end(0));
        for (int i = 1; i <= 7; i++) {
            Due.is("feed " + i, x.feed(-1, -1, -1, -1, -1), 20 * i);
        }
        Due.is("feed of 19 more", x.feed(-1, -1, -1, -1, 0x00FFFFFF), 159);
        Due.is("feed of two more", x.feed(0xFFFF, 0, 0, 0, 0), NONE);
        Due.is("count(5)", x.count(5), 159);
        Due.is("feed of one more", x.feed(0, 0, 0xFF, 0, 0), 160);
        Due.is("feed of nothing more", x.feed(0, 0, 0, 0, 0), 160);
        for (int word = 0; word < 5; word++) {
            int[] w = new int[5];
            w[word] = 1;
            Due.is("feed of one too many", x.feed(w[0], w[1], w[2], w[3], w[4]), NONE);
        }
        Due.is("count(5)", x.count(5), 160);
    }

    private static void end() {
        Due.part("promise 3");
        DayBoy x = new DayBoy();
        Due.feed(x, "5:4+9");
        Due.fails("end(6)", x.end(6));
        Due.fails("end(-1)", x.end(-1));
        Due.fails("end(least)", x.end(LEAST));
        Due.fails("end(most)", x.end(MOST));
        Due.is("count(5)", x.count(5), 5);
        Due.holds("end(5)", x.end(5));
        Due.is("fault(0)", x.fault(0), 5);
        Due.holds("end(4)", x.end(4));
        Due.is("fault(0)", x.fault(0), NONE);
        Due.is("feed after end", x.feed(0x40, 0, 0, 0, 0), 5);
        Due.is("fault(0)", x.fault(0), 5);
        Due.holds("end(0)", x.end(0));
        Due.is("count(5)", x.count(5), 0);
        Due.fails("end(1)", x.end(1));
    }

    private static void fault() {
        Due.part("promise 4");
        DayBoy x = new DayBoy();
        for (int sort : new int[] {-1, 3, LEAST, MOST}) {
            Due.is("fault(" + sort + ")", x.fault(sort), -2);
        }
        Due.feed(x, "s5");
        Due.is("fault(0)", x.fault(0), 0);
        Due.is("fault(1)", x.fault(1), NONE);
        Due.is("fault(2)", x.fault(2), 0);
        Due.is("fault(3)", x.fault(3), -2);
        Due.is("count(5)", x.count(5), 2);
        Due.is("count(1)", x.count(1), 0);
    }

    private static void text() {
        Due.part("promise 5");
        DayBoy x = new DayBoy();
        for (int i = 0; i < 6; i++) {
            Due.is("text(0)", Due.take(x, 0, i + ":4+"), i);
            Due.is("the tape is empty then", x.count(5), 0);
        }
        Due.is("text(0), a seventh", Due.take(x, 0, "0:4+"), NONE);
        Due.is("count(0)", x.count(0), 6);
        Due.is("the tape stays", x.count(5), 4);
        Due.is("fault(0)", x.fault(0), NONE);
        for (int i = 0; i < 8; i++) {
            Due.is("text(1)", Due.take(x, 1, "k1-" + (i + 1)), i);
        }
        Due.is("text(1), a ninth", Due.take(x, 1, "k1-1"), NONE);
        Due.is("count(1)", x.count(1), 8);
        Due.is("the tape stays", x.count(5), 4);
        Due.is("text(2)", Due.take(x, 2, "1.1.1;?;1.1.2"), 3);
        Due.is("text(2), refused", Due.take(x, 2, "1.1.1;"), NONE);
        Due.is("the tape stays", x.count(5), 6);
        Due.is("the row stays", x.count(7), 3);
        Due.is("row(0, 5, 2)", x.row(0, 5, 2), 6);
        Due.is("text(2), another", Due.take(x, 2, "1.1.3"), 1);
        Due.is("row(0, 5, 0)", x.row(0, 5, 0), 0);
        Due.is("row(0, 5, 1)", x.row(0, 5, 1), NONE);
        Due.feed(x, "5:4+");
        for (int sort : new int[] {-1, 3, LEAST, MOST}) {
            Due.is("text(" + sort + ")", x.text(sort), NONE);
        }
        Due.is("the tape stays", x.count(5), 4);
        DayBoy y = new DayBoy();
        Due.is("a head's text as a calendar", Due.take(y, 0, "k1-1"), NONE);
        Due.is("the same as a head", y.text(1), 0);
        Due.is("count(0)", y.count(0), 0);
    }

    private static void day() {
        Due.part("promise 6");
        DayBoy x = Due.with(Due.GREGORIAN, "0:4+", "9:1-", "3:1+2-");
        for (LocalDate date = LocalDate.of(1, 1, 1); date.getYear() <= 9999; date = date.plusDays(97)) {
            int day = gregorian(date.getYear(), date.getMonthValue(), date.getDayOfMonth());
            Due.is("day of " + date, x.day(0, date.getYear(), date.getMonthValue(), date.getDayOfMonth()), day);
        }
        Due.is("day(0, 1, 1, 1)", x.day(0, 1, 1, 1), 7);
        Due.is("day(0, 9999, 12, 31)", x.day(0, 9999, 12, 31), gregorian(9999, 12, 31));
        Due.is("day(1, 1, 1, 1)", x.day(1, 1, 1, 1), 0);
        Due.is("day(1, 5, 1, 1)", x.day(1, 5, 1, 1), 1461);
        Due.is("day(1, 9997, 1, 1)", x.day(1, 9997, 1, 1), 2499 * 1461);
        Due.is("day(2, 9999, 12, 31)", x.day(2, 9999, 12, 31), 9 + 9999 * 365 - 1);
        Due.is("day(3, 1, 12, 31): odd years leap", x.day(3, 1, 12, 31), 3 + 365);
        Due.is("day(3, 3, 1, 1)", x.day(3, 3, 1, 1), 3 + 366 + 365);
        Due.hasNoDay(x, 3, 2, 2, 29);
        Due.hasNoDay(x, 2, 4, 2, 29);
        Due.hasNoDay(x, 0, 1900, 2, 29);
        Due.hasNoDay(x, 0, 2000, 2, 30);
        Due.hasNoDay(x, 0, 2000, 4, 31);
        int[][] wrong = {{-1, 1, 1, 1}, {4, 1, 1, 1}, {LEAST, 1, 1, 1}, {MOST, 1, 1, 1}, {0, 0, 1, 1},
            {0, 10000, 1, 1}, {0, -5, 1, 1}, {0, LEAST, 1, 1}, {0, MOST, 1, 1}, {0, 1, 0, 1}, {0, 1, 13, 1},
            {0, 1, LEAST, 1}, {0, 1, MOST, 1}, {0, 1, 1, 0}, {0, 1, 1, 32}, {0, 1, 1, LEAST}, {0, 1, 1, MOST},
            {0, 1, 1, 33}, {0, 1, 33, 1}, {0, 1, 17, 1}};
        for (int[] date : wrong) {
            Due.hasNoDay(x, date[0], date[1], date[2], date[3]);
        }
    }

    /** What is left out at changes, and how days go on. */
    private static void changes() {
        Due.part("promise 6, changes");
        DayBoy x = Due.with(Due.BRITISH, "7:4+@1900.2.29-0:4+100-400+", "7:4+@1900.2.29-1:1-",
            "7:1-@1900.2.28-0:4+", "7:4+@1899.12.31-10:4+");
        Due.is("no date behind the first change", Due.take(x, 0, "7:4+@9999.12.20-30:4+@9999.12.20-0:4+"), NONE);
        int last = x.day(0, 1752, 9, 2);
        Due.is("day(0, 1752, 9, 14)", x.day(0, 1752, 9, 14), last + 1);
        Due.hasNoDay(x, 0, 1752, 9, 3);
        Due.hasNoDay(x, 0, 1752, 9, 13);
        Due.is("Gregorian days", x.day(0, 2000, 1, 1), gregorian(2000, 1, 1));
        Due.is("behind 29 February", x.day(1, 1900, 3, 1), x.day(1, 1900, 2, 29) + 1);
        Due.hasNoDay(x, 2, 1900, 3, 1);
        Due.is("one left out behind 29 February", x.day(2, 1900, 3, 2), x.day(2, 1900, 2, 29) + 1);
        Due.is("29 February behind the 28th", x.day(3, 1900 + 4, 2, 29), x.day(3, 1904, 2, 28) + 1);
        Due.is("and in the year itself", x.day(3, 1900, 2, 29), x.day(3, 1900, 2, 28) + 1);
        Due.hasNoDay(x, 3, 1896, 2, 29);
        Due.is("over the year's end", x.day(4, 1900, 1, 11), x.day(4, 1899, 12, 31) + 1);
        Due.hasNoDay(x, 4, 1900, 1, 10);
        Due.hasNoDay(x, 4, 1900, 1, 1);
        threeChanges();
    }

    private static void threeChanges() {
        DayBoy x = Due.with("0:1-@10.12.30-3:1+@11.1.4-0:1-@11.1.6-30:4+", "0:4+@9999.12.20-30:4+");
        Due.hasNoDay(x, 0, 10, 12, 31);
        Due.hasNoDay(x, 0, 11, 1, 2);
        int day = x.day(0, 10, 12, 30);
        Due.is("day(0, 10, 12, 30)", day, 10 * 365 - 2);
        Due.is("3 January", x.day(0, 11, 1, 3), day + 1);
        Due.is("4 January", x.day(0, 11, 1, 4), day + 2);
        Due.is("5 January", x.day(0, 11, 1, 5), day + 3);
        Due.is("6 January", x.day(0, 11, 1, 6), day + 4);
        Due.hasNoDay(x, 0, 11, 1, 7);
        Due.hasNoDay(x, 0, 11, 2, 5);
        Due.is("6 February", x.day(0, 11, 2, 6), day + 5);
        Due.is("29 February of 12", x.day(0, 12, 2, 29), day + 5 + 365 - 37 + 60);
        Due.is("the last date", x.day(1, 9999, 12, 20), 2499 * 1461 + 3 * 365 - 12);
        Due.hasNoDay(x, 1, 9999, 12, 21);
        Due.is("date of the last DAY", x.date(1, x.day(1, 9999, 12, 20), 2), 20);
        Due.is("none behind it", x.date(1, x.day(1, 9999, 12, 20) + 1, 2), NONE);
    }

    private static void date() {
        Due.part("promise 7");
        DayBoy x = Due.with(Due.GREGORIAN, Due.BRITISH);
        for (LocalDate date = LocalDate.of(1, 1, 1); date.getYear() <= 9999; date = date.plusDays(89)) {
            int day = gregorian(date.getYear(), date.getMonthValue(), date.getDayOfMonth());
            Due.is("year of " + date, x.date(0, day, 0), date.getYear());
            Due.is("month of " + date, x.date(0, day, 1), date.getMonthValue());
            Due.is("date of " + date, x.date(0, day, 2), date.getDayOfMonth());
            Due.is("day of the week of " + date, x.date(0, day, 3), date.getDayOfWeek().getValue() - 1);
        }
        int first = x.day(1, 1, 1, 1);
        int last = x.day(1, 9999, 12, 31);
        for (int day = first; day <= last; day += 61) {
            Due.is("DAY " + day, x.day(1, x.date(1, day, 0), x.date(1, day, 1), x.date(1, day, 2)), day);
        }
        Due.is("the first DAY", x.date(1, first, 0), 1);
        Due.is("none ahead of it", x.date(1, first - 1, 0), NONE);
        Due.is("none ahead of it", x.date(1, first - 1, 3), NONE);
        Due.is("the last DAY", x.date(1, last, 1), 12);
        Due.is("none behind it", x.date(1, last + 1, 1), NONE);
        Due.is("none behind it", x.date(1, last + 1, 3), NONE);
        int[][] wrong = {{-1, 100, 0}, {2, 100, 0}, {MOST, 100, 0}, {0, 100, -1}, {0, 100, 4}, {0, 100, LEAST},
            {0, -1, 0}, {0, LEAST, 3}, {0, MOST, 3}};
        for (int[] w : wrong) {
            Due.is("date(" + w[0] + ", " + w[1] + ", " + w[2] + ")", x.date(w[0], w[1], w[2]), NONE);
        }
    }

    private static void turned() {
        Due.part("promise 8");
        DayBoy x = Due.with(Due.JULIAN, Due.GREGORIAN, Due.BRITISH);
        Due.is("the year", x.turned(0, 1917, 10, 25, 1, 0), 1917);
        Due.is("the month", x.turned(0, 1917, 10, 25, 1, 1), 11);
        Due.is("the date", x.turned(0, 1917, 10, 25, 1, 2), 7);
        Due.is("back", x.turned(1, 1917, 11, 7, 0, 2), 25);
        Due.is("by itself", x.turned(1, 1917, 11, 7, 1, 2), 7);
        Due.is("the year ahead", x.turned(1, 2000, 1, 1, 0, 0), 1999);
        Due.is("over a change", x.turned(1, 1752, 9, 14, 2, 2), 14);
        Due.is("ahead of it", x.turned(1, 1752, 9, 13, 2, 2), 2);
        Due.is("none there", x.turned(0, 1, 1, 1, 1, 0), NONE);
        Due.is("none there", x.turned(0, 9999, 12, 31, 1, 0), NONE);
        int[][] wrong = {{0, 1917, 2, 29, 1, 0}, {2, 1752, 9, 3, 1, 0}, {3, 1917, 1, 1, 1, 0}, {-1, 1917, 1, 1, 1, 0},
            {0, 1917, 1, 1, 3, 0}, {0, 1917, 1, 1, -1, 0}, {0, 1917, 1, 1, 1, 3}, {0, 1917, 1, 1, 1, -1},
            {0, 0, 1, 1, 1, 0}, {0, 1917, MOST, 1, 1, 0}};
        for (int[] w : wrong) {
            Due.is("turned of " + w[0] + ", " + w[1] + " ..", x.turned(w[0], w[1], w[2], w[3], w[4], w[5]), NONE);
        }
    }

    private static void many() {
        Due.part("promise 9");
        DayBoy x = Due.with(Due.GREGORIAN, Due.BRITISH, "0:1-@11.1.6-30:4+", "0:4+@9999.12.20-30:4+",
            "0:4+@1700.1.31-28:4+100-");
        int[] lengths = {365, 31, 28, 31, 30, 31, 30, 31, 31, 30, 31, 30, 31};
        for (int m = 0; m <= 12; m++) {
            Due.is("many(0, 1999, " + m + ")", x.many(0, 1999, m), lengths[m]);
            Due.is("many(0, 2000, " + m + ")", x.many(0, 2000, m), lengths[m] + (m == 0 || m == 2 ? 1 : 0));
        }
        Due.is("1752", x.many(1, 1752, 0), 355);
        Due.is("September 1752", x.many(1, 1752, 9), 19);
        Due.is("August 1752", x.many(1, 1752, 8), 31);
        Due.is("January 11", x.many(2, 11, 1), 6);
        Due.is("February 11", x.many(2, 11, 2), 23);
        Due.is("the year 11", x.many(2, 11, 0), 365 - 30);
        Due.is("the last December", x.many(3, 9999, 12), 20);
        Due.is("the last year", x.many(3, 9999, 0), 354);
        Due.is("a month that is left out", x.many(4, 1700, 2), 0);
        Due.is("the month behind it", x.many(4, 1700, 3), 31);
        Due.is("the first year", x.many(0, 1, 0), 365);
        int[][] wrong = {{-1, 1, 0}, {5, 1, 0}, {0, 0, 0}, {0, 10000, 0}, {0, LEAST, 1}, {0, MOST, 1}, {0, 1, -1},
            {0, 1, 13}, {0, 1, MOST}};
        for (int[] w : wrong) {
            Due.is("many(" + w[0] + ", " + w[1] + ", " + w[2] + ")", x.many(w[0], w[1], w[2]), NONE);
        }
    }

    private static void kind() {
        Due.part("promise 10");
        DayBoy x = Due.with(Due.GREGORIAN, Due.BRITISH, "7:4+@1899.12.31-10:4+", "7:4+@1899.12.30-1:4+",
            "7:4+@1900.2.28-1:4+", "0:4+@9999.12.31-0:4+");
        for (int y = 1; y <= 9999; y++) {
            LocalDate first = LocalDate.of(y, 1, 1);
            int due = 2 * (first.getDayOfWeek().getValue() - 1) + (first.isLeapYear() ? 1 : 0);
            Due.is("kind(0, " + y + ")", x.kind(0, y), due);
        }
        Due.is("kind(1, 1752)", x.kind(1, 1752), NONE);
        Due.is("kind(1, 1753): Monday", x.kind(1, 1753), 0);
        Due.is("kind(1, 1751)", x.kind(1, 1751), 2 * x.date(1, x.day(1, 1751, 1, 1), 3));
        Due.is("without 1.1.", x.kind(2, 1900), NONE);
        Due.is("the year behind", x.kind(2, 1901) % 2, 0);
        Due.is("without 31.12.", x.kind(3, 1899), NONE);
        Due.is("one date left out of 366", x.kind(4, 1900), 2 * (x.day(4, 1900, 1, 1) % 7));
        Due.is("an odd kind behind", x.kind(4, 1904) % 2, 1);
        Due.is("the last year", x.kind(5, 9999), 2 * (x.day(5, 9999, 1, 1) % 7));
        int[][] wrong = {{-1, 1}, {6, 1}, {0, 0}, {0, 10000}, {0, LEAST}, {0, MOST}};
        for (int[] w : wrong) {
            Due.is("kind(" + w[0] + ", " + w[1] + ")", x.kind(w[0], w[1]), NONE);
        }
    }

    private static void rowIs(DayBoy x, int head, int what, int[] date, int... due) {
        String call = "way(" + head + ", 0, " + date[0] + ", " + date[1] + ", " + date[2] + ", " + what + ", ";
        Due.is(call + "-1)", x.way(head, 0, date[0], date[1], date[2], what, NONE), due.length - 1);
        for (int i = 0; i < due.length; i++) {
            Due.is(call + i + ")", x.way(head, 0, date[0], date[1], date[2], what, i), due[i]);
        }
        Due.is(call + due.length + ")", x.way(head, 0, date[0], date[1], date[2], what, due.length), NONE);
    }

    private static void way() {
        Due.part("promise 11");
        DayBoy x = Due.with(Due.GREGORIAN);
        int h = Due.head(x, "k2000-2003,y28:1,y1:9,m7=4:1,m4=1:2,m2=3:5,m3=11:0,o1,o2");
        rowIs(x, h, 0, new int[] {2002, 1, 5}, 2002);
        rowIs(x, h, 0, new int[] {2030, 1, 5}, 2030, 2002);
        rowIs(x, h, 0, new int[] {2004, 1, 5}, 2004, 2003);
        rowIs(x, h, 0, new int[] {1945, 1, 5}, 1945, 1973, 2001);
        rowIs(x, h, 1, new int[] {2000, 7, 5}, 7, 4, 1);
        rowIs(x, h, 1, new int[] {2000, 11, 5}, 11, 3, 2);
        rowIs(x, h, 1, new int[] {2000, 1, 5}, 1);
        Due.is("way of another what", x.way(h, 0, 2000, 1, 5, 2, NONE), NONE);
        Due.is("way of another what", x.way(h, 0, 2000, 1, 5, -1, 0), NONE);
        Due.is("way with i -2", x.way(h, 0, 2000, 1, 5, 0, -2), NONE);
        Due.is("way with i most", x.way(h, 0, 2000, 1, 5, 0, MOST), NONE);
        Due.is("way with i least", x.way(h, 0, 2000, 1, 5, 1, LEAST), NONE);
        Due.is("no such head", x.way(1, 0, 2000, 1, 5, 0, NONE), NONE);
        Due.is("no such head", x.way(-1, 0, 2000, 1, 5, 0, NONE), NONE);
        Due.is("no such calendar", x.way(h, 1, 2000, 1, 5, 0, NONE), NONE);
        Due.is("no such calendar", x.way(h, -1, 2000, 1, 5, 0, NONE), NONE);
        Due.is("no such date", x.way(h, 0, 2001, 2, 29, 0, NONE), NONE);
        Due.is("no such date", x.way(h, 0, 2000, 1, 0, 0, NONE), NONE);
        Due.is("no such date", x.way(h, 0, 0, 1, 1, 0, 0), NONE);
        Due.is("no row of months", x.way(h, 0, 2000, 5, 1, 0, NONE), NONE);
        Due.is("no row of months", x.way(h, 0, 2000, 5, 1, 1, 0), NONE);
    }

    /** Which of several rows it is. */
    private static void wayOfSeveral() {
        Due.part("promise 11, several");
        DayBoy x = Due.with(Due.GREGORIAN);
        int h = Due.head(x, "k2000-2000,y1:1,y2:2,m2=3:1,m3=1:1,m2=1:2");
        rowIs(x, h, 0, new int[] {2004, 1, 5}, 2004, 2002, 2000);
        rowIs(x, h, 0, new int[] {2003, 1, 5}, 2003, 2001, 2000);
        rowIs(x, h, 0, new int[] {1997, 1, 5}, 1997, 1998, 2000);
        rowIs(x, h, 1, new int[] {2000, 2, 5}, 2, 1);
        h = Due.head(x, "k1990-1990,k2010-2010,y10:3,m2=1:1,m4=2:1,m4=3:1,m1=3:1");
        rowIs(x, h, 0, new int[] {2000, 1, 5}, 2000, 1990);
        rowIs(x, h, 1, new int[] {2000, 4, 5}, 4, 2, 1);
        h = Due.head(x, "k2000-2000,y3:1,y5:1,y8:2,o5,o6,m7=6:1,m7=5:1,m8=7:0,m5=12:0");
        rowIs(x, h, 0, new int[] {2008, 7, 5}, 2008, 2000);
        rowIs(x, h, 1, new int[] {2008, 8, 5}, 8, 7, 5);
        rowIs(x, h, 1, new int[] {2008, 12, 5}, 12, 5);
        rowIs(x, h, 1, new int[] {2008, 6, 5}, 6);
        h = Due.head(x, "k2000-2000,y3:1,y5:1,o7");
        rowIs(x, h, 0, new int[] {2008, 7, 1}, 2008, 2003, 2000);
        rowIs(x, h, 0, new int[] {1992, 7, 1}, 1992, 1995, 2000);
        rowIs(x, h, 0, new int[] {2002, 7, 1}, 2002, 1997, 2000);
        h = Due.head(x, "k9999-9999,k1-1,y2:1,y5:1");
        rowIs(x, h, 0, new int[] {9996, 1, 31}, 9996, 9994, 9999);
        rowIs(x, h, 0, new int[] {4, 1, 31}, 4, 6, 1);
        h = Due.head(x, "k2000-2000,y1:0,y3:5,m3=1:0,m3=2:0,m2=1:1");
        rowIs(x, h, 0, new int[] {2004, 1, 31}, 2004, 2003, 2002, 2001, 2000);
        rowIs(x, h, 1, new int[] {2004, 2, 29}, 2, 3, 1);
        h = Due.head(x, "k1-1,k9999-9999,y1:99");
        Due.is("a row of 4999 steps", x.way(h, 0, 5000, 1, 1, 0, NONE), 4999);
        Due.is("its first", x.way(h, 0, 5000, 1, 1, 0, 1), 4999);
        Due.is("its last", x.way(h, 0, 5000, 1, 1, 0, 4999), 1);
        Due.is("its costs", x.answers(h, 0, 5000, 1, 1, 1), 4999 * 99);
    }

    private static void noWay() {
        Due.part("promise 11, no WAY");
        DayBoy x = Due.with("7:4+@1700.12.31-10:4+100-400+", Due.GREGORIAN);
        int h = Due.head(x, "k1701-1701,y1:1,k1720-1720");
        Due.is("without the first of January", x.way(h, 0, 1701, 1, 20, 0, NONE), NONE);
        Due.is("another known year is not looked for", x.way(h, 0, 1702, 1, 20, 0, NONE), NONE);
        Due.is("by another calendar", x.way(h, 1, 1702, 1, 20, 0, NONE), 1);
        Due.is("to the year that is nearer", x.way(h, 0, 1715, 1, 20, 0, 5), 1720);
        h = Due.head(x, "k1701-1701,o2,m3=2:1");
        Due.is("by February", x.way(h, 0, 1701, 3, 20, 1, 1), 2);
        h = Due.head(x, "y1:1");
        Due.is("without a known year", x.way(h, 0, 1701, 1, 20, 0, NONE), NONE);
        h = Due.head(x, "k1701-1701,o5");
        Due.is("January is not known then", x.way(h, 1, 1701, 1, 20, 0, NONE), NONE);
        Due.is("May is", x.way(h, 1, 1701, 5, 20, 1, NONE), 0);
        h = Due.head(x, "k1701-1701,y4:1");
        Due.is("no row of years", x.way(h, 1, 1704, 1, 20, 0, NONE), NONE);
        Due.is("a row of years", x.way(h, 1, 1709, 1, 20, 0, NONE), 2);
        for (int what = 0; what <= 3; what++) {
            Due.is("answers without a WAY", x.answers(h, 1, 1704, 1, 20, what), HIDDEN);
        }
    }

    private static void answers() {
        Due.part("promise 12");
        DayBoy x = Due.with(Due.GREGORIAN, "7:4+@2000.2.28-1:4+");
        int h = Due.head(x, "k1999-2000,y28:30,m7=4:3,m4=1:10,s2,r1,b5,l9");
        Due.is("ANSWER", x.answers(h, 0, 2000, 7, 31, 0), 0);
        Due.is("TENTHS", x.answers(h, 0, 2000, 7, 31, 1), 5 + 3 + 10 + 4 * 2 + 2 + 9);
        Due.is("SLIP", x.answers(h, 0, 2000, 7, 31, 2), 0);
        Due.is("FALSE", x.answers(h, 0, 2000, 7, 31, 3), NONE);
        Due.is("TENTHS of a first", x.answers(h, 0, 2000, 1, 1, 1), 5 + 9);
        Due.is("TENTHS of the 7th", x.answers(h, 0, 1999, 1, 7, 1), 5 + 6);
        Due.is("TENTHS of the 8th", x.answers(h, 0, 1999, 1, 8, 1), 5 + 2);
        Due.is("TENTHS by a step", x.answers(h, 0, 2028, 1, 8, 1), 5 + 2 + 9 + 30);
        Due.is("29 February is left out", x.answers(h, 1, 2000, 1, 8, 1), 5 + 2);
        h = Due.head(x, "k2000-2000");
        Due.is("TENTHS that are not told", x.answers(h, 0, 2000, 1, 31, 1), 0);
        Due.is("ANSWER", x.answers(h, 0, 2000, 1, 31, 0), 0);
        int[][] wrong = {{-1, 0, 2000, 1, 1, 0}, {2, 0, 2000, 1, 1, 0}, {h, 2, 2000, 1, 1, 0}, {h, -1, 2000, 1, 1, 0},
            {h, 0, 2000, 1, 32, 0}, {h, 0, 2000, 1, 1, -1}, {h, 0, 2000, 1, 1, 4}, {h, 0, 2000, 2, 1, 0},
            {h, 0, 2001, 1, 1, 1}, {h, 0, MOST, 1, 1, 1}, {h, 0, 2000, LEAST, 1, 1}};
        for (int[] w : wrong) {
            Due.is("answers of " + w[0] + ", " + w[1] + ", " + w[2] + " ..",
                    x.answers(w[0], w[1], w[2], w[3], w[4], w[5]), HIDDEN);
        }
    }

    /** 2000 began on a Saturday; the years behind it on each of the other days. */
    private static void slips() {
        Due.part("promise 12, SLIP");
        DayBoy x = Due.with(Due.GREGORIAN);
        int h = Due.head(x, "k2000-2000,y1:1");
        int[][] due = {{2000, 0}, {2001, -2}, {2002, -3}, {2003, 3}, {2004, 2}, {1999, 1}, {2006, -1}, {2005, 0}};
        for (int[] d : due) {
            Due.is("SLIP of " + d[0], x.answers(h, 0, d[0], 1, 5, 2), d[1]);
            Due.is("ANSWER of " + d[0], x.answers(h, 0, d[0], 1, 5, 0), 2);
        }
        Due.is("the step is false all the same", x.answers(h, 0, 2005, 1, 5, 3), 0);
    }

    private static void falseSteps() {
        Due.part("promise 12, FALSE");
        DayBoy x = Due.with(Due.GREGORIAN, Due.BRITISH, "7:4+@1700.1.31-28:4+100-");
        int h = Due.head(x, "k2000-2000,y28:1,y1:50,m2=1:1,m7=1:1,m8=2:1");
        Due.is("all true", x.answers(h, 0, 2028, 7, 1, 3), NONE);
        Due.is("the month's", x.answers(h, 0, 2028, 2, 1, 3), 1);
        Due.is("the month's, no step of years", x.answers(h, 0, 2000, 2, 1, 3), 0);
        Due.is("the second month's: August and February are alike", x.answers(h, 0, 2000, 8, 1, 3), 1);
        Due.is("the second year's: 2029 and 2001 are alike", x.answers(h, 0, 2029, 7, 1, 3), 1);
        Due.is("of 1944 and 1972 all are true", x.answers(h, 0, 1944, 1, 1, 3), NONE);
        h = Due.head(x, "k1899-1899,y28:1,m10=1:1");
        Due.is("over 1900 the first one is false", x.answers(h, 0, 1927, 1, 1, 3), 0);
        Due.is("the second one is", x.answers(h, 0, 1955, 1, 1, 3), 1);
        Due.is("the month's is true", x.answers(h, 0, 1899, 10, 1, 3), NONE);
        Due.is("but not the year's", x.answers(h, 0, 1927, 10, 1, 3), 0);
        h = Due.head(x, "k1752-1752,y1:1");
        Due.is("none is like a year without a kind", x.answers(h, 1, 1753, 1, 1, 3), 0);
        h = Due.head(x, "k1700-1700,m3=2:1,m2=1:0");
        Due.is("a first that is no date", x.answers(h, 2, 1700, 3, 1, 3), 0);
        Due.is("March is there", x.answers(h, 2, 1700, 3, 1, 1), 1);
        h = Due.head(x, "k2001-2001,m8=3:0,m3=2:0,o2");
        Due.is("the first true, then false", x.answers(h, 0, 2001, 8, 1, 3), 0);
        Due.is("true", x.answers(h, 0, 2001, 3, 1, 3), NONE);
    }

    private static void ask() {
        Due.part("promise 13");
        DayBoy x = Due.with(Due.GREGORIAN, Due.BRITISH);
        Due.is("the first", x.ask(5, 0, 2000, 1, 1, 5, 10), 0);
        int[][] wrong = {{4, 0, 2000, 1, 1, 5, 10}, {1000, 0, 2000, 1, 1, 5, 10}, {-1, 0, 2000, 1, 1, 5, 10},
            {5, -1, 2000, 1, 1, 5, 10}, {5, 2, 2000, 1, 1, 5, 10}, {5, 1, 1752, 9, 3, 5, 10},
            {5, 0, 2000, 2, 30, 5, 10}, {5, 0, 0, 1, 1, 5, 10}, {5, 0, 2000, 1, 1, -1, 10},
            {5, 0, 2000, 1, 1, 7, 10}, {5, 0, 2000, 1, 1, 5, -1}, {5, 0, 2000, 1, 1, 5, 10000},
            {5, 0, LEAST, MOST, 1, 5, 1}, {MOST, 0, 2000, 1, 1, 5, 10}};
        for (int[] w : wrong) {
            Due.is("ask of " + w[0] + ", " + w[1] + " ..", x.ask(w[0], w[1], w[2], w[3], w[4], w[5], w[6]), NONE);
            Due.is("count(2)", x.count(2), 1);
        }
        Due.is("the same month", x.ask(5, 0, 2000, 1, 1, 0, 0), 1);
        Due.is("the last month", x.ask(999, 1, 1752, 9, 2, 6, 9999), 2);
        Due.is("the month ahead", x.ask(998, 1, 1752, 9, 2, 6, 9999), NONE);
        for (int i = 3; i < 60; i++) {
            Due.is("ask " + i, x.ask(999, 0, 2000, 1, 1, 0, 0), i);
        }
        Due.is("one too many", x.ask(999, 0, 2000, 1, 1, 0, 0), NONE);
        Due.is("count(2)", x.count(2), 60);
        Due.is("the first month", new DayBoy().ask(0, 0, 1, 1, 1, 0, 0), NONE);
    }

    private static void asked() {
        Due.part("promise 14");
        DayBoy x = Due.with(Due.GREGORIAN, Due.JULIAN);
        x.ask(7, 1, 1917, 10, 25, 6, 42);
        int[] due = {7, 1, gregorian(1917, 11, 7), 6, 42, -3};
        for (int what = 0; what < due.length; what++) {
            Due.is("asked(0, " + what + ")", x.asked(0, what), due[what]);
        }
        // 1 January 2000 was a Saturday, 5
        int[] offs = {2, 3, -3, -2, -1, 0, 1};
        for (int answer = 0; answer <= 6; answer++) {
            int ask = x.ask(7, 0, 2000, 1, 1, answer, 0);
            Due.is("OFF of " + answer, x.asked(ask, 5), offs[answer]);
        }
        int[][] wrong = {{-1, 0}, {8, 0}, {0, -1}, {0, 6}, {MOST, 0}, {LEAST, 0}, {0, MOST}};
        for (int[] w : wrong) {
            Due.is("asked(" + w[0] + ", " + w[1] + ")", x.asked(w[0], w[1]), HIDDEN);
        }
    }

    /** Three heads: one that is right, one slower by three, one without months. */
    private static DayBoy threeHeads() {
        DayBoy x = Due.with(Due.GREGORIAN);
        Due.head(x, "k2000-2009,m10=1:4,b6");
        Due.head(x, "k2000-2009,m10=1:4,b9");
        Due.head(x, "k2000-2009,b6");
        return x;
    }

    private static void fits() {
        Due.part("promise 15");
        DayBoy x = threeHeads();
        Due.is("without asks", x.fits(0), 7);
        // October 2001 began on a Monday, as January
        x.ask(0, 0, 2001, 1, 1, 0, 6);
        Due.is("fits(0)", x.fits(0), 5);
        Due.is("fits(2)", x.fits(2), 5);
        Due.is("fits(3)", x.fits(3), 7);
        x.ask(0, 0, 2001, 10, 1, 0, 12);
        Due.is("fits(0)", x.fits(0), 0);
        Due.is("fits(1)", x.fits(1), 0);
        Due.is("fits(2)", x.fits(2), 1);
        Due.is("fits(3)", x.fits(3), 3);
        Due.is("fits(999)", x.fits(999), 3);
        x.ask(0, 0, 2001, 1, 1, 1, 6);
        Due.is("fits(999) behind a wrong answer", x.fits(999), 0);
        Due.is("fits(-1)", x.fits(-1), NONE);
        Due.is("fits(1000)", x.fits(1000), NONE);
        Due.is("fits(least)", x.fits(LEAST), NONE);
        Due.is("fits without heads", new DayBoy().fits(5), 0);
    }

    private static void so() {
        Due.part("promise 16");
        DayBoy x = threeHeads();
        Due.is("without asks", x.so(0, 0), 0);
        x.ask(0, 0, 2001, 1, 1, 0, 6);
        x.ask(0, 0, 2001, 10, 1, 0, 10);
        x.ask(0, 0, 2001, 10, 1, 1, 10);
        x.ask(0, 0, 2001, 1, 1, 0, 1005);
        x.ask(0, 0, 2010, 1, 1, 4, 6);
        Due.is("so(0, 0)", x.so(0, 0), 2);
        Due.is("so(1, 2)", x.so(1, 2), 0);
        Due.is("so(1, 3)", x.so(1, 3), 2);
        Due.is("so(2, 0)", x.so(2, 0), 1);
        Due.is("so(0, 998)", x.so(0, 998), 2);
        Due.is("so(0, 999)", x.so(0, 999), 3);
        int[][] wrong = {{-1, 0}, {3, 0}, {0, -1}, {0, 1000}, {MOST, 0}, {0, LEAST}};
        for (int[] w : wrong) {
            Due.is("so(" + w[0] + ", " + w[1] + ")", x.so(w[0], w[1]), NONE);
        }
    }

    private static void further() {
        Due.part("promise 17");
        DayBoy x = Due.with(Due.GREGORIAN, Due.BRITISH);
        Due.is("without asks", x.further(2000), 0);
        x.ask(0, 0, 2000, 1, 1, 0, 10);
        x.ask(0, 0, 1990, 1, 1, 0, 20);
        Due.is("longer the farther", x.further(2000), 1);
        Due.is("less the farther", x.further(1990), -1);
        Due.is("as far", x.further(1995), 0);
        x.ask(0, 1, 1980, 1, 1, 0, 20);
        Due.is("as long", x.further(2000), 2);
        x.ask(0, 0, 2030, 1, 1, 0, 5);
        Due.is("further(2000)", x.further(2000), 2 - 3);
        Due.is("further(9999)", x.further(9999), 3 + 2);
        Due.is("further(1)", x.further(1), -2 - 3);
        for (int now : new int[] {0, -1, 10000, LEAST, MOST}) {
            Due.is("further(" + now + ")", x.further(now), HIDDEN);
        }
    }

    private static void lived() {
        Due.part("promise 18");
        DayBoy x = Due.with(Due.GREGORIAN, Due.JULIAN);
        x.ask(0, 0, 1917, 11, 6, 0, 7);
        Due.is("no BIRTH", x.lived(0), NONE);
        Due.is("no BIRTH", x.lived(1), NONE);
        x.born(1, 1917, 10, 25);
        Due.is("none since", x.lived(0), NONE);
        Due.is("before", x.lived(1), 7);
        x.ask(0, 0, 1917, 11, 7, 0, 10);
        Due.is("the day itself", x.lived(0), 10);
        x.ask(0, 0, 2000, 11, 7, 0, 13);
        x.ask(0, 0, 1, 11, 7, 0, 8);
        Due.is("cut", x.lived(0), 11);
        Due.is("cut", x.lived(1), 7);
        x.born(0, 1, 1, 8);
        Due.is("born anew", x.lived(0), 9);
        Due.is("none before", x.lived(1), NONE);
        for (int what : new int[] {-1, 2, LEAST, MOST}) {
            Due.is("lived(" + what + ")", x.lived(what), NONE);
        }
    }

    private static void after() {
        Due.part("promise 19");
        DayBoy x = Due.with(Due.GREGORIAN, Due.BRITISH);
        Due.is("without asks", x.after(0), NONE);
        x.ask(0, 0, 1999, 1, 1, 0, 9000);
        Due.is("the first alone", x.after(0), NONE);
        Due.is("the first alone", x.after(1), NONE);
        // 1999, 2010 and 1993 began on a Friday and were no leap years
        x.ask(0, 0, 2010, 5, 1, 0, 10);
        Due.is("a like one", x.after(0), 10);
        Due.is("no other", x.after(1), NONE);
        x.ask(0, 1, 1993, 5, 1, 0, 13);
        Due.is("the mean, cut", x.after(0), 11);
        x.ask(0, 0, 2000, 5, 1, 0, 5);
        Due.is("after(1)", x.after(1), 5);
        x.ask(0, 1, 1752, 5, 1, 0, 6);
        x.ask(0, 1, 1752, 5, 1, 0, 8);
        Due.is("years without a kind are not like", x.after(0), 11);
        Due.is("after(1)", x.after(1), 6);
        x.ask(0, 1, 1752, 5, 1, 0, 7);
        Due.is("after(1), cut", x.after(1), 6);
        for (int what : new int[] {-1, 2, LEAST, MOST}) {
            Due.is("after(" + what + ")", x.after(what), NONE);
        }
    }

    private static void learnt() {
        Due.part("promise 20");
        DayBoy x = Due.with(Due.GREGORIAN);
        Due.head(x, "k2000-2000,b9");
        Due.head(x, "k2000-2000,b3");
        Due.is("without asks", x.learnt(0, 1, 0, 0), 0);
        Due.is("without asks", x.learnt(0, 1, 0, 1), 1000);
        x.ask(10, 0, 2000, 1, 1, 5, 9);
        Due.is("behind the slow one", x.learnt(0, 1, 0, 0), 11);
        Due.is("up to the last", x.learnt(0, 1, 0, 1), 1000);
        Due.is("the other way", x.learnt(1, 0, 0, 0), 0);
        Due.is("the other way", x.learnt(1, 0, 0, 1), 10);
        x.ask(15, 0, 2000, 1, 1, 5, 6);
        Due.is("neither fits", x.learnt(0, 1, 2, 0), NONE);
        Due.is("neither fits", x.learnt(0, 1, 2, 1), NONE);
        Due.is("both fit the second", x.learnt(0, 1, 3, 0), 11);
        Due.is("both fit the second", x.learnt(0, 1, 3, 1), 1000);
        x.ask(20, 0, 2000, 1, 1, 5, 3);
        Due.is("the first", x.learnt(0, 1, 3, 0), 11);
        Due.is("the last", x.learnt(0, 1, 3, 1), 20);
        Due.is("the other way", x.learnt(1, 0, 3, 0), NONE);
        Due.is("with more slack", x.learnt(1, 0, 6, 1), 1000);
        Due.is("one head alone", x.learnt(0, 0, 6, 0), 0);
        x.ask(20, 0, 2000, 1, 1, 5, 9);
        Due.is("both in one month", x.learnt(0, 1, 3, 0), NONE);
        int[][] wrong = {{-1, 1, 0, 0}, {2, 1, 6, 0}, {0, 2, 6, 0}, {0, -1, 6, 0}, {0, 1, -1, 0}, {0, 1, 1000, 0},
            {0, 0, 6, 2}, {0, 0, 6, -1}, {MOST, LEAST, 6, 0}};
        for (int[] w : wrong) {
            Due.is("learnt of " + w[0] + ", " + w[1] + " ..", x.learnt(w[0], w[1], w[2], w[3]), NONE);
        }
        DayBoy late = Due.with(Due.GREGORIAN);
        Due.head(late, "k2000-2000,b9");
        Due.head(late, "k2000-2000,b3");
        late.ask(999, 0, 2000, 1, 1, 5, 9);
        Due.is("behind the last month", late.learnt(0, 1, 0, 0), 1000);
    }

    private static void weigh() {
        Due.part("promise 21");
        DayBoy x = threeHeads();
        Due.holds("weigh(1, 9)", x.weigh(1, 9));
        Due.holds("weigh(0, 1)", x.weigh(0, 1));
        Due.is("odds(1, 0)", x.odds(1, 0), 9);
        int[][] wrong = {{-1, 5}, {3, 5}, {0, 0}, {0, 10}, {0, -1}, {MOST, 5}, {0, MOST}, {0, LEAST}};
        for (int[] w : wrong) {
            Due.fails("weigh(" + w[0] + ", " + w[1] + ")", x.weigh(w[0], w[1]));
        }
        Due.is("odds(0, 0)", x.odds(0, 0), 1);
        Due.fails("weigh without heads", new DayBoy().weigh(0, 1));
    }

    private static void odds() {
        Due.part("promise 22");
        DayBoy x = threeHeads();
        Due.is("at first", x.odds(NONE, 0), 3);
        x.weigh(0, 4);
        x.weigh(1, 7);
        Due.is("of all", x.odds(NONE, 0), 12);
        x.ask(0, 0, 2001, 10, 1, 0, 12);
        Due.is("odds(-1, 0)", x.odds(NONE, 0), 0);
        Due.is("odds(-1, 1)", x.odds(NONE, 1), 7);
        Due.is("odds(-1, 2)", x.odds(NONE, 2), 11);
        Due.is("odds(0, 1)", x.odds(0, 1), 0);
        Due.is("odds(0, 2)", x.odds(0, 2), 4);
        Due.is("odds(1, 1)", x.odds(1, 1), 7);
        Due.is("odds(2, 999)", x.odds(2, 999), 0);
        int[][] wrong = {{-2, 0}, {3, 0}, {0, -1}, {0, 1000}, {-1, -1}, {-1, 1000}, {LEAST, 0}, {MOST, 0}};
        for (int[] w : wrong) {
            Due.is("odds(" + w[0] + ", " + w[1] + ")", x.odds(w[0], w[1]), NONE);
        }
        Due.is("without heads", new DayBoy().odds(NONE, 0), 0);
    }

    private static void plan() {
        Due.part("promise 23");
        DayBoy x = Due.with(Due.BRITISH);
        int[][] wrong = {{-1, 1752, 9, 2}, {1, 1752, 9, 2}, {0, 1752, 9, 3}, {0, 0, 1, 1}, {0, 10000, 1, 1},
            {0, 1, 0, 1}, {0, 1, 1, 0}, {0, MOST, LEAST, 1}};
        for (int[] w : wrong) {
            Due.is("plan of " + w[0] + ", " + w[1] + " ..", x.plan(w[0], w[1], w[2], w[3]), NONE);
        }
        for (int i = 0; i < 8; i++) {
            Due.is("plan " + i, x.plan(0, 1752, 9, i % 2 + 1), i);
        }
        Due.is("a ninth", x.plan(0, 1752, 9, 1), NONE);
        Due.is("count(3)", x.count(3), 8);
    }

    private static void parted() {
        Due.part("promise 24");
        DayBoy x = threeHeads();
        Due.head(x, "k2000-2000,y1:0,m10=1:4,b6");
        x.plan(0, 2001, 10, 1);
        x.plan(0, 2000, 1, 1);
        x.plan(0, 2020, 1, 1);
        // the fourth tells Saturday for 2001, as fast as the first
        Due.is("TENTHS", x.parted(0, 3), 1);
        Due.is("one alone has a WAY", x.parted(0, 5), 1);
        Due.is("ANSWER", x.parted(0, 9), 1);
        Due.is("all", x.parted(0, 15), 6);
        Due.is("none", x.parted(0, 0), 0);
        Due.is("one", x.parted(0, 2), 0);
        Due.is("alike", x.parted(1, 13), 0);
        Due.is("three alike", x.parted(1, 15), 3);
        Due.is("none has a WAY", x.parted(2, 7), 0);
        Due.is("one alone of four has", x.parted(2, 15), 3);
        int[][] wrong = {{-1, 3}, {3, 3}, {0, 16}, {0, 31}, {0, -1}, {0, LEAST}, {0, MOST}, {MOST, 3}};
        for (int[] w : wrong) {
            Due.is("parted(" + w[0] + ", " + w[1] + ")", x.parted(w[0], w[1]), NONE);
        }
    }

    private static void next() {
        Due.part("promise 25");
        DayBoy x = threeHeads();
        Due.is("no PLANS", x.next(7), NONE);
        x.plan(0, 2020, 1, 1);
        x.plan(0, 2001, 1, 1);
        x.plan(0, 2001, 10, 1);
        x.plan(0, 2002, 10, 1);
        Due.is("next(7): two of several", x.next(7), 2);
        Due.is("next(3)", x.next(3), 1);
        Due.is("next(5)", x.next(5), 2);
        Due.is("next(1)", x.next(1), 0);
        Due.is("next(0)", x.next(0), 0);
        for (int heads : new int[] {8, -1, LEAST, MOST}) {
            Due.is("next(" + heads + ")", x.next(heads), NONE);
        }
    }

    private static void part() {
        Due.part("promise 26");
        DayBoy x = threeHeads();
        Due.head(x, "k2000-2000,y1:0,m10=1:4,b6");
        Due.is("from the first", x.part(0, 1, 0, 2000, 1), gregorian(2000, 1, 1));
        Due.is("October", x.part(0, 2, 0, 2005, 1), gregorian(2005, 10, 1));
        Due.is("the other way", x.part(2, 0, 0, 2005, 1), gregorian(2005, 10, 1));
        Due.is("the second year", x.part(0, 3, 0, 2000, 2), gregorian(2001, 1, 1));
        Due.is("not in one year", x.part(0, 3, 0, 2000, 1), NONE);
        Due.is("the last of twenty", x.part(0, 2, 0, 1981, 20), gregorian(2000, 10, 1));
        Due.is("not in twenty", x.part(0, 2, 0, 1980, 20), NONE);
        Due.is("years that are beyond", x.part(0, 1, 0, 9999, 20), NONE);
        Due.is("a head and itself", x.part(0, 0, 0, 2000, 20), NONE);
        Due.is("at the end", x.part(0, 3, 0, 9990, 20), gregorian(9990, 1, 1));
        int[][] wrong = {{-1, 1, 0, 2000, 1}, {0, 4, 0, 2000, 1}, {0, 1, 1, 2000, 1}, {0, 1, -1, 2000, 1},
            {0, 1, 0, 0, 20}, {0, 1, 0, 10000, 1}, {0, 1, 0, 2000, 0}, {0, 1, 0, 2000, 21}, {0, 1, 0, 2000, -1},
            {0, 1, 0, MOST, MOST}, {0, 1, 0, LEAST, 20}};
        for (int[] w : wrong) {
            Due.is("part of " + w[0] + ", " + w[1] + " ..", x.part(w[0], w[1], w[2], w[3], w[4]), NONE);
        }
        DayBoy y = Due.with("7:4+@1999.12.31-4:4+");
        Due.head(y, "k2000-2000,b1,o2,m1=2:1");
        Due.head(y, "k2000-2000,b2,o2,m1=2:1");
        Due.is("the first that is a date", y.part(0, 1, 0, 2000, 1), y.day(0, 2000, 1, 5));
        DayBoy z = Due.with("7:4+@1750.11.30-30:4+");
        Due.head(z, "k1700-1760,m12=1:1");
        Due.head(z, "k1700-1760,m12=1:2");
        Due.is("the last date of a year alone", z.part(0, 1, 0, 1750, 1), z.day(0, 1750, 12, 31));
    }

    private static void leastIs(DayBoy x, int head, int year, int years, int cost, int due) {
        String call = "least(" + head + ", " + year + ", " + years + ", " + cost + ", ";
        Due.is(call + "0)", x.least(head, year, years, cost, 0), Integer.bitCount(due));
        Due.is(call + "1)", x.least(head, year, years, cost, 1), due);
    }

    private static void least() {
        Due.part("promise 27");
        DayBoy x = new DayBoy();
        int h = Due.head(x, "k1-1,y1:2");
        leastIs(x, h, 2000, 1, 0, 1);
        leastIs(x, h, 2000, 5, 1, 31);
        leastIs(x, h, 2000, 5, 2, 1 + 8);
        leastIs(x, h, 2000, 5, 3, 1 + 8);
        leastIs(x, h, 2000, 5, 4, 4);
        leastIs(x, h, 2000, 5, 8, 1);
        leastIs(x, h, 2000, 14, 2, 1 + 8 + 64 + 512 + 4096);
        leastIs(x, h, 9986, 14, 999, 1);
        leastIs(x, h, 1, 14, 0, (1 << 14) - 1);
        h = Due.head(x, "y5:1,y7:1");
        leastIs(x, h, 2000, 3, 2, 3);
        leastIs(x, h, 9997, 3, 2, 3);
        leastIs(x, h, 1, 3, 2, 3);
        leastIs(x, h, 2000, 3, 1, 7);
        leastIs(x, h, 2000, 3, 4, 3);
        leastIs(x, h, 2000, 3, 5, 1);
        leastIs(x, h, 2000, 14, 1, 4 + 32 + 256 + 2048);
        h = Due.head(x, "y1:0");
        leastIs(x, h, 2000, 14, 0, 1);
        h = Due.head(x, "k2000-2010");
        leastIs(x, h, 2000, 4, 999, 15);
        leastIs(x, 0, 2000, 2, 2, 1);
        leastIs(x, h, 2000, 2, 2, 3);
        h = Due.head(x, "y4:99,y6:99");
        leastIs(x, h, 2000, 6, 198, 3);
        leastIs(x, h, 2000, 6, 197, 1 + 2 + 4 + 8);
        int[][] wrong = {{-1, 2000, 5, 2, 0}, {5, 2000, 5, 2, 0}, {0, 0, 5, 2, 0}, {0, 10000, 1, 2, 0},
            {0, 2000, 0, 2, 0}, {0, 2000, 15, 2, 0}, {0, 9987, 14, 2, 0}, {0, 9999, 2, 2, 0}, {0, 2000, 5, -1, 0},
            {0, 2000, 5, 1000, 0}, {0, 2000, 5, 2, -1}, {0, 2000, 5, 2, 2}, {0, MOST, MOST, 2, 0},
            {0, LEAST, 5, 2, 0}, {0, 2000, LEAST, 2, 0}};
        for (int[] w : wrong) {
            Due.is("least of " + w[0] + ", " + w[1] + " ..", x.least(w[0], w[1], w[2], w[3], w[4]), NONE);
        }
        leastIs(x, 0, 9999, 1, 2, 1);
    }

    private static void like() {
        Due.part("promise 28");
        DayBoy x = Due.with(Due.GREGORIAN, Due.BRITISH);
        int[] due = {2012, 2040, 2068, 2096, 2108};
        for (int i = 0; i < due.length; i++) {
            Due.is("like(0, 1984, " + i + ")", x.like(0, 1984, i), due[i]);
        }
        Due.is("of a common year", x.like(0, 1999, 0), 2010);
        Due.is("the last one", x.like(0, 9988, 0), NONE);
        Due.is("of 9993", x.like(0, 9993, 0), 9999);
        Due.is("of 9999", x.like(0, 9999, 0), NONE);
        Due.is("no KIND", x.like(1, 1752, 0), NONE);
        Due.is("far on", x.like(0, 1, 2000), NONE);
        int[][] wrong = {{-1, 1999, 0}, {2, 1999, 0}, {0, 0, 0}, {0, 10000, 0}, {0, 1999, -1}, {0, 1999, LEAST},
            {0, 1999, MOST}, {0, MOST, 0}, {0, LEAST, 0}};
        for (int[] w : wrong) {
            Due.is("like(" + w[0] + ", " + w[1] + ", " + w[2] + ")", x.like(w[0], w[1], w[2]), NONE);
        }
    }

    private static void thirteenths() {
        Due.part("promise 29");
        DayBoy x = Due.with(Due.GREGORIAN, Due.BRITISH);
        int[] due = new int[7];
        for (LocalDate date = LocalDate.of(1601, 1, 13); date.getYear() <= 2000; date = date.plusMonths(1)) {
            due[date.getDayOfWeek().getValue() - 1]++;
        }
        for (int week = 0; week <= 6; week++) {
            Due.is("thirteenths(0, 1601, 2000, " + week + ")", x.thirteenths(0, 1601, 2000, week), due[week]);
        }
        Due.is("Fridays of 400 years", x.thirteenths(0, 1601, 2000, 4), 688);
        Due.is("1998", x.thirteenths(0, 1998, 1998, 4), 3);
        int sum = 0;
        for (int week = 0; week <= 6; week++) {
            sum += x.thirteenths(1, 1752, 1752, week);
        }
        Due.is("all of 1752: that of September is left out", sum, 11);
        int[][] wrong = {{-1, 1, 1, 0}, {2, 1, 1, 0}, {0, 0, 1, 0}, {0, 1, 10000, 0}, {0, 2, 1, 0}, {0, 1, 1, -1},
            {0, 1, 1, 7}, {0, LEAST, MOST, 0}, {0, 1, MOST, 0}};
        for (int[] w : wrong) {
            Due.is("thirteenths of " + w[0] + ", " + w[1] + " ..", x.thirteenths(w[0], w[1], w[2], w[3]), NONE);
        }
    }

    private static void mates() {
        Due.part("promise 30");
        DayBoy x = Due.with(Due.GREGORIAN, "7:4+@1700.1.31-28:4+100-", "7:4+@1701.9.30-1:4+");
        int[] groups = {513, 1030, 1030, 72, 16, 32, 72, 128, 2304, 513, 1030, 2304};
        for (int m = 1; m <= 12; m++) {
            Due.is("mates(0, 1999, " + m + ")", x.mates(0, 1999, m), groups[m - 1]);
        }
        Due.is("January of a leap year", x.mates(0, 2000, 1), 1 + 8 + 64);
        Due.is("its first is no date", x.mates(1, 1700, 2), NONE);
        Due.is("October's first is left out", x.mates(2, 1701, 10), NONE);
        Due.is("without October", x.mates(2, 1701, 1) & 512, 0);
        Due.is("with itself", x.mates(2, 1701, 1) & 1, 1);
        int[][] wrong = {{-1, 1, 1}, {3, 1, 1}, {0, 0, 1}, {0, 10000, 1}, {0, 1, 0}, {0, 1, 13}, {0, MOST, 1},
            {0, 1, LEAST}};
        for (int[] w : wrong) {
            Due.is("mates(" + w[0] + ", " + w[1] + ", " + w[2] + ")", x.mates(w[0], w[1], w[2]), NONE);
        }
    }

    private static void born() {
        Due.part("promise 31");
        DayBoy x = Due.with(Due.BRITISH);
        Due.fails("a date that is left out", x.born(0, 1752, 9, 3));
        Due.is("count(6)", x.count(6), NONE);
        Due.holds("born", x.born(0, 1752, 9, 2));
        Due.is("count(6)", x.count(6), x.day(0, 1752, 9, 2));
        Due.fails("no such calendar", x.born(1, 1752, 9, 2));
        Due.fails("no such calendar", x.born(-1, 1752, 9, 2));
        Due.fails("no such date", x.born(0, 1751, 2, 29));
        Due.fails("no such date", x.born(0, MOST, 2, LEAST));
        Due.is("count(6)", x.count(6), x.day(0, 1752, 9, 2));
        Due.holds("anew", x.born(0, 2000, 1, 1));
        Due.is("count(6)", x.count(6), gregorian(2000, 1, 1));
    }

    private static void age() {
        Due.part("promise 32");
        DayBoy x = Due.with(Due.GREGORIAN, Due.GREGORIAN, "7:4+@1750.12.30-3:4+", "7:4+@9999.11.1-30:4+@9999.12.2-29:4+");
        Due.is("no BIRTH", x.age(0, 2000, 1, 1), NONE);
        x.born(0, 2000, 2, 29);
        Due.is("the day itself", x.age(0, 2000, 2, 29), 0);
        Due.is("the day before", x.age(0, 2000, 2, 28), NONE);
        Due.is("28 February", x.age(0, 2001, 2, 28), 0);
        Due.is("1 March", x.age(0, 2001, 3, 1), 1);
        Due.is("29 February", x.age(0, 2004, 2, 29), 4);
        Due.is("the last date", x.age(0, 9999, 12, 31), 7999);
        Due.is("another calendar", x.age(1, 2004, 2, 29), NONE);
        Due.is("no such date", x.age(0, 2001, 2, 29), NONE);
        Due.is("no such calendar", x.age(4, 2001, 2, 28), NONE);
        Due.is("no such calendar", x.age(-1, 2001, 2, 28), NONE);
        Due.is("no such date", x.age(0, MOST, LEAST, 28), NONE);
        x.born(2, 1740, 12, 31);
        Due.is("ahead of what is left out", x.age(2, 1750, 12, 30), 9);
        Due.is("the first date behind it, in the next year", x.age(2, 1751, 1, 3), 10);
        Due.is("the year's own", x.age(2, 1751, 12, 31), 11);
        x.born(2, 1740, 1, 2);
        Due.is("2 January is left out", x.age(2, 1751, 1, 3), 11);
        Due.is("not yet", x.age(2, 1750, 12, 30), 10);
        x.born(2, 1740, 1, 3);
        Due.is("3 January is there", x.age(2, 1751, 1, 3), 11);
        DayBoy y = Due.with("7:4+@1750.12.30-1:4+");
        y.born(0, 1740, 12, 31);
        Due.is("the day ahead of it", y.age(0, 1750, 12, 30), 9);
        Due.is("1 January instead of 31 December", y.age(0, 1751, 1, 1), 10);
        x.born(3, 9990, 11, 20);
        Due.is("a month that is left out", x.age(3, 9999, 11, 1), 8);
        Due.is("behind it", x.age(3, 9999, 12, 2), 9);
        x.born(3, 9990, 12, 20);
        Due.is("no date behind it", x.age(3, 9999, 12, 2), 8);
    }

    private static void event() {
        Due.part("promise 33");
        DayBoy x = Due.with(Due.BRITISH);
        int[][] wrong = {{-1, 1752, 9, 2, 0}, {1, 1752, 9, 2, 0}, {0, 1752, 9, 3, 0}, {0, 0, 9, 2, 0},
            {0, 1752, 9, 2, -1}, {0, 1752, 9, 2, 4}, {0, 1752, 9, 2, MOST}, {0, LEAST, 9, 2, 0}};
        for (int[] w : wrong) {
            Due.is("event of " + w[0] + ", " + w[1] + " ..", x.event(w[0], w[1], w[2], w[3], w[4]), NONE);
        }
        for (int i = 1; i <= 30; i++) {
            Due.is("event " + i, x.event(0, 1752, 9, 2, i % 4), i);
        }
        Due.is("one too many", x.event(0, 1752, 9, 2, 0), NONE);
        Due.is("count(4)", x.count(4), 30);
        Due.is("held", x.held(0, 1752, 9, 2), 15);
        Due.is("spell", x.spell(0), 1);
        DayBoy y = Due.with(Due.GREGORIAN);
        for (int d = 30; d >= 1; d--) {
            y.event(0, 2000, 1, d, 2);
        }
        Due.is("a spell of all", y.spell(2), 30);
    }

    private static void held() {
        Due.part("promise 34");
        DayBoy x = Due.with(Due.GREGORIAN, Due.JULIAN);
        Due.is("nothing", x.held(0, 1917, 11, 7), 0);
        x.event(0, 1917, 11, 7, 3);
        x.event(1, 1917, 10, 25, 0);
        x.event(1, 1917, 10, 25, 0);
        x.event(1, 1917, 10, 26, 1);
        Due.is("both", x.held(0, 1917, 11, 7), 9);
        Due.is("by the other calendar", x.held(1, 1917, 10, 25), 9);
        Due.is("the day behind", x.held(0, 1917, 11, 8), 2);
        Due.is("the day ahead", x.held(0, 1917, 11, 6), 0);
        int[][] wrong = {{-1, 1917, 11, 7}, {2, 1917, 11, 7}, {0, 1917, 11, 31}, {0, 0, 11, 7}, {0, MOST, 11, 7}};
        for (int[] w : wrong) {
            Due.is("held of " + w[0] + ", " + w[1] + " ..", x.held(w[0], w[1], w[2], w[3]), NONE);
        }
    }

    private static void spell() {
        Due.part("promise 35");
        DayBoy x = Due.with(Due.BRITISH, Due.GREGORIAN);
        Due.is("nothing", x.spell(0), 0);
        x.event(0, 1752, 9, 14, 0);
        x.event(0, 1752, 9, 14, 0);
        Due.is("a day counts once", x.spell(0), 1);
        x.event(0, 1752, 9, 1, 0);
        Due.is("two apart", x.spell(0), 1);
        x.event(0, 1752, 9, 2, 0);
        Due.is("over the change", x.spell(0), 3);
        x.event(1, 1752, 9, 16, 0);
        x.event(1, 1752, 9, 15, 1);
        Due.is("another sort does not join", x.spell(0), 3);
        x.event(1, 1752, 9, 15, 0);
        Due.is("joined by another calendar", x.spell(0), 5);
        Due.is("spell(1)", x.spell(1), 1);
        Due.is("spell(3)", x.spell(3), 0);
        x.event(1, 9999, 12, 31, 3);
        x.event(1, 9999, 12, 30, 3);
        Due.is("at the end", x.spell(3), 2);
        for (int sort : new int[] {-1, 4, LEAST, MOST}) {
            Due.is("spell(" + sort + ")", x.spell(sort), NONE);
        }
    }

    private static void keep() {
        Due.part("promise 36");
        DayBoy x = Due.with(Due.GREGORIAN);
        Due.is("nothing", x.keep(), 0);
        x.ask(0, 0, 2000, 1, 1, 0, 0);
        x.event(0, 2000, 1, 1, 0);
        x.event(0, 2000, 1, 1, 1);
        Due.is("together", x.keep(), 3);
        Due.is("count(2)", x.count(2), 1);
        x.ask(0, 0, 2000, 1, 1, 0, 0);
        Due.is("anew", x.keep(), 4);
        Due.is("back()", x.back(), 4);
    }

    private static void back() {
        Due.part("promise 37");
        DayBoy x = Due.with(Due.GREGORIAN);
        x.ask(7, 0, 2000, 1, 1, 0, 0);
        x.event(0, 2000, 1, 1, 0);
        x.born(0, 2000, 1, 1);
        x.plan(0, 2000, 1, 1);
        Due.is("to none", x.back(), 0);
        Due.is("count(2)", x.count(2), 0);
        Due.is("count(4)", x.count(4), 0);
        Due.is("PLANS stay", x.count(3), 1);
        Due.is("the BIRTH stays", x.count(6), gregorian(2000, 1, 1));
        Due.is("a month below what has gone", x.ask(3, 0, 2000, 1, 1, 5, 9), 0);
        x.event(0, 2000, 1, 1, 2);
        Due.is("keep()", x.keep(), 2);
        x.ask(9, 0, 2000, 1, 1, 5, 100);
        x.event(0, 2000, 1, 2, 2);
        x.event(0, 2000, 1, 1, 1);
        Due.is("back()", x.back(), 2);
        Due.is("asked(1, 0)", x.asked(1, 0), HIDDEN);
        Due.is("asked(0, 4)", x.asked(0, 4), 9);
        Due.is("lived(0)", x.lived(0), 9);
        Due.is("held", x.held(0, 2000, 1, 1), 4);
        Due.is("held by what has gone", x.held(0, 2000, 1, 2), 0);
        Due.is("spell(2)", x.spell(2), 1);
        Due.is("a month below the kept one", x.ask(2, 0, 2000, 1, 1, 5, 9), NONE);
        Due.is("the kept one's month", x.ask(3, 0, 2000, 1, 1, 5, 9), 1);
        Due.is("back() again", x.back(), 2);
    }

    private static void rowOf(DayBoy x, String text, int... due) {
        Due.is("text(2) of " + text, Due.take(x, 2, text), due.length);
        for (int i = 0; i < due.length; i++) {
            Due.is("row(0, 0, " + i + ") of " + text, x.row(0, 0, i), due[i]);
        }
        Due.is("row behind " + text, x.row(0, 0, due.length), NONE);
    }

    private static void row() {
        Due.part("promise 38");
        DayBoy x = Due.with(Due.GREGORIAN);
        Due.is("no HEAD", x.row(0, 0, 0), NONE);
        Due.head(x, "k2000-2000");
        Due.is("no ROW", x.row(0, 0, 0), NONE);
        rowOf(x, "2000.1.1;?;2000.1.3;2000.1.32;2000.2.1;2000.1.4", 5, 7, 0, 7, 7, 1);
        rowOf(x, "?;?;2000.1.1;?;?;?;2000.1.1;?", 7, 7, 5, 7, 7, 7, 8, 8);
        rowOf(x, "?;?;?;?;2000.1.1", 7, 7, 7, 8, 8);
        rowOf(x, "0.0.0;9999.9999.9999;2000.1.0;2000.1.1", 7, 7, 7, 8);
        rowOf(x, "2000.1.1;2000.1.33;2000.17.1;2000.1.2", 5, 7, 7, 6);
        rowOf(x, "2001.1.1;2000.1.2", 7, 6);
        int[][] wrong = {{-1, 0, 0}, {1, 0, 0}, {0, 1, 0}, {0, -1, 0}, {0, 0, -1}, {0, 0, 2}, {0, 0, MOST},
            {LEAST, 0, 0}};
        for (int[] w : wrong) {
            Due.is("row(" + w[0] + ", " + w[1] + ", " + w[2] + ")", x.row(w[0], w[1], w[2]), NONE);
        }
        StringBuilder most = new StringBuilder("?;?;");
        int[] due = new int[79];
        for (int i = 0; i < 79; i++) {
            most.append(i < 2 ? "" : i == 2 ? "?" : ";?");
            due[i] = i < 3 ? 7 : 8;
        }
        rowOf(x, most.toString(), due);
    }

    /** Draws by numbers without end, cut to 64 bits. */
    private static int[] draws(long seed, int jitter, int count) {
        BigInteger bound = BigInteger.ONE.shiftLeft(64);
        BigInteger x = BigInteger.valueOf(seed).mod(bound);
        int[] draws = new int[count];
        for (int i = 0; i < count; i++) {
            x = x.multiply(new BigInteger("6364136223846793005")).add(new BigInteger("1442695040888963407")).mod(bound);
            draws[i] = x.shiftRight(33).mod(BigInteger.valueOf(jitter + 1)).intValue();
        }
        return draws;
    }

    private static void run() {
        Due.part("promise 39");
        DayBoy x = Due.with(Due.GREGORIAN, Due.BRITISH);
        Due.head(x, "k1980-2020,b20");
        Due.is("no PLANS", x.run(0, 1, 0, 0, NONE), 0);
        Due.is("no PLANS", x.run(0, 1, 0, 0, 0), NONE);
        // 1999, 2010 and 1993 are of one kind; 1752 has none and no WAY
        int[] years = {1999, 2010, 2000, 1752, 1752, 1993, 1999, 2010};
        for (int i = 0; i < years.length; i++) {
            x.plan(i == 5 || years[i] == 1752 ? 1 : 0, years[i], 1, 20);
        }
        int[] drawn = {0, 1, 2, NONE, NONE, 3, 4, 5};
        boolean[] eased = {false, true, false, false, false, false, true, true};
        for (long seed : new long[] {0, 1, -1, 123456789012345L, Long.MIN_VALUE, Long.MAX_VALUE}) {
            for (int jitter : new int[] {0, 1, 7, 99}) {
                for (int ease : new int[] {0, 5, 99}) {
                    int[] draws = draws(seed, jitter, 6);
                    int sum = 0;
                    for (int i = 0; i < 8; i++) {
                        int due = drawn[i] == NONE ? NONE : 20 + draws[drawn[i]];
                        due = eased[i] ? Math.max(0, due - ease) : due;
                        sum += drawn[i] == NONE ? 0 : due;
                        String call = "run(0, " + seed + ", " + jitter + ", " + ease + ", " + i + ")";
                        Due.is(call, x.run(0, seed, jitter, ease, i), due);
                    }
                    Due.is("all together", x.run(0, seed, jitter, ease, NONE), sum);
                }
            }
        }
        int[][] wrong = {{-1, 0, 0, 0}, {1, 0, 0, 0}, {0, -1, 0, 0}, {0, 100, 0, 0}, {0, 0, -1, 0}, {0, 0, 100, 0},
            {0, 0, 0, -2}, {0, 0, 0, 8}, {0, MOST, 0, 0}, {0, LEAST, 0, NONE}, {0, 0, 0, LEAST}};
        for (int[] w : wrong) {
            Due.is("run of " + w[0] + ", " + w[1] + " ..", x.run(w[0], 5, w[1], w[2], w[3]), NONE);
        }
        runAcrossAGap();
    }

    /** The PLAN ahead eases even where it has no WAY itself. */
    private static void runAcrossAGap() {
        DayBoy x = Due.with(Due.GREGORIAN);
        Due.head(x, "k1999-1999,b20");
        x.plan(0, 2010, 1, 1);
        x.plan(0, 1999, 1, 1);
        Due.is("run(0, 3, 0, 4, 0)", x.run(0, 3, 0, 4, 0), NONE);
        Due.is("run(0, 3, 0, 4, 1)", x.run(0, 3, 0, 4, 1), 16);
        Due.is("run(0, 3, 99, 4, 1)", x.run(0, 3, 99, 4, 1), 16 + draws(3, 99, 1)[0]);
        Due.is("all", x.run(0, 3, 99, 99, NONE), Math.max(0, 20 + draws(3, 99, 1)[0] - 99));
    }

    private static void holds() {
        Due.part("promise 40");
        DayBoy x = Due.with(Due.GREGORIAN, Due.BRITISH, "7:4+@1701.9.30-1:4+");
        Due.head(x, "y28:1,y400:2,y1:1,m1=10:1,m7=4:1,m2=1:0");
        Due.is("28 years without a century", x.holds(0, 0, 0, 0, 1901, 2000), 72);
        Due.is("over 1900", x.holds(0, 0, 0, 0, 1872, 1900), 0);
        Due.is("just 28", x.holds(0, 0, 0, 0, 1901, 1929), 1);
        Due.is("just 27", x.holds(0, 0, 0, 0, 1901, 1928), 0);
        Due.is("400 years", x.holds(0, 0, 0, 1, 1, 9999), 9599);
        Due.is("one year", x.holds(0, 0, 0, 2, 1, 9999), 0);
        Due.is("one that is no kind", x.holds(0, 1, 0, 2, 1752, 1753), 0);
        Due.is("January and October", x.holds(0, 0, 1, 0, 1901, 2000), 75);
        Due.is("July and April", x.holds(0, 0, 1, 1, 1901, 2000), 100);
        Due.is("February and January", x.holds(0, 0, 1, 2, 1901, 2000), 0);
        Due.is("a first that is no date", x.holds(0, 2, 1, 0, 1701, 1701), 0);
        Due.is("from and to are one", x.holds(0, 0, 1, 1, 5, 5), 1);
        int[][] wrong = {{-1, 0, 0, 0, 1, 2}, {1, 0, 0, 0, 1, 2}, {0, -1, 0, 0, 1, 2}, {0, 3, 0, 0, 1, 2},
            {0, 0, -1, 0, 1, 2}, {0, 0, 2, 0, 1, 2}, {0, 0, 0, -1, 1, 2}, {0, 0, 0, 3, 1, 2}, {0, 0, 1, 3, 1, 2},
            {0, 0, 1, -1, 1, 2}, {0, 0, 0, 0, 2, 1}, {0, 0, 0, 0, 0, 1}, {0, 0, 0, 0, 1, 10000},
            {0, 0, 0, 0, LEAST, MOST}, {0, 0, 1, MOST, 1, 2}};
        for (int[] w : wrong) {
            Due.is("holds of " + w[0] + ", " + w[1] + " ..", x.holds(w[0], w[1], w[2], w[3], w[4], w[5]), NONE);
        }
    }

    private static void right() {
        Due.part("promise 41");
        DayBoy x = Due.with(Due.GREGORIAN, Due.BRITISH);
        Due.head(x, "k2000-2001,y1:1,m10=1:1,m7=4:0,m4=1:0,m2=1:0");
        Due.is("2001, RIGHT", x.right(0, 0, 2001, 0), 31 + 31);
        Due.is("2001, WRONG", x.right(0, 0, 2001, 1), 28 + 30 + 31);
        Due.is("2000, RIGHT", x.right(0, 0, 2000, 0), 31 + 30 + 31);
        Due.is("2000, WRONG", x.right(0, 0, 2000, 1), 29 + 31);
        Due.is("2007, RIGHT", x.right(0, 0, 2007, 0), 62);
        // the first of April 2002 was a Monday, as that of January 2001
        Due.is("2002, RIGHT", x.right(0, 0, 2002, 0), 30 + 31);
        Due.is("2002, WRONG", x.right(0, 0, 2002, 1), 31 + 28 + 31);
        Due.head(x, "k1752-1752,o9");
        Due.is("dates behind the change are wrong", x.right(1, 1, 1752, 1), 17);
        Due.is("those ahead of it are right", x.right(1, 1, 1752, 0), 2);
        Due.is("no WAY at all", x.right(1, 0, 2000, 0), 0);
        int[][] wrong = {{-1, 0, 1, 0}, {2, 0, 1, 0}, {0, -1, 1, 0}, {0, 2, 1, 0}, {0, 0, 0, 0}, {0, 0, 10000, 0},
            {0, 0, 1, -1}, {0, 0, 1, 2}, {0, 0, MOST, 0}, {0, 0, LEAST, 0}};
        for (int[] w : wrong) {
            Due.is("right of " + w[0] + ", " + w[1] + " ..", x.right(w[0], w[1], w[2], w[3]), NONE);
        }
    }

    private static void lacks() {
        Due.part("promise 42");
        DayBoy x = new DayBoy();
        Due.head(x, "k2000-2000,k2011-2011,y10:3,y20:5,m2=1:1,m3=4:1,m12=2:1");
        Due.is("GAPS", x.lacks(0, 2000, 2009, 0), 8);
        Due.is("DEAR, the lowest", x.lacks(0, 2000, 2009, 1), 2001);
        Due.is("its COSTS", x.lacks(0, 2000, 2009, 2), 3);
        Due.is("DEAR", x.lacks(0, 1969, 2050, 1), 2050);
        Due.is("its COSTS", x.lacks(0, 1969, 2050, 2), 13);
        Due.is("DEAR, of 1971 and 2040", x.lacks(0, 1969, 2041, 1), 1971);
        Due.is("its COSTS", x.lacks(0, 1969, 2041, 2), 10);
        Due.is("one known year", x.lacks(0, 2000, 2000, 1), 2000);
        Due.is("its COSTS", x.lacks(0, 2000, 2000, 2), 0);
        Due.is("no GAPS", x.lacks(0, 2000, 2001, 0), 0);
        Due.is("all are GAPS", x.lacks(0, 2002, 2008, 1), NONE);
        Due.is("all are GAPS", x.lacks(0, 2002, 2008, 2), NONE);
        int lacked = 4095 - 1 - 2 - 2048;
        Due.is("LACKS", x.lacks(0, 2000, 2001, 3), lacked);
        Due.is("years are not asked", x.lacks(0, 2002, 2008, 3), lacked);
        Due.is("years are not asked", x.lacks(0, 5, 1, 3), lacked);
        Due.is("years are not asked", x.lacks(0, LEAST, MOST, 3), lacked);
        Due.head(x, "s1,o5,o6");
        Due.is("LACKS without January", x.lacks(1, 1, 1, 3), 4095 - 16 - 32);
        Due.is("no known year", x.lacks(1, 1, 9999, 1), NONE);
        int[][] wrong = {{-1, 1, 2, 0}, {2, 1, 2, 0}, {0, 2, 1, 0}, {0, 0, 2, 0}, {0, 1, 10000, 0}, {0, 1, 2, -1},
            {0, 1, 2, 4}, {0, LEAST, MOST, 1}, {2, 1, 2, 3}};
        for (int[] w : wrong) {
            Due.is("lacks of " + w[0] + ", " + w[1] + " ..", x.lacks(w[0], w[1], w[2], w[3]), NONE);
        }
    }

    private static void spare() {
        Due.part("promise 43");
        DayBoy x = threeHeads();
        Due.is("without asks", x.spare(0, 0), 7);
        x.ask(0, 0, 2001, 1, 1, 0, 6);
        x.ask(0, 0, 2001, 10, 1, 0, 10);
        x.ask(0, 0, 2001, 10, 1, 1, 10);
        Due.is("spare(0, 0)", x.spare(0, 0), 0);
        Due.is("spare(0, 1)", x.spare(0, 1), 1);
        Due.is("spare(0, 2)", x.spare(0, 2), 5);
        Due.is("spare(0, 3)", x.spare(0, 3), 7);
        Due.is("spare(3, 1)", x.spare(3, 1), 3);
        Due.is("spare(3, 60)", x.spare(3, 60), 7);
        int[][] wrong = {{-1, 0}, {1000, 0}, {0, -1}, {0, 61}, {MOST, 0}, {0, LEAST}};
        for (int[] w : wrong) {
            Due.is("spare(" + w[0] + ", " + w[1] + ")", x.spare(w[0], w[1]), NONE);
        }
        Due.is("spare(999, 0)", x.spare(999, 0), 0);
    }

    private static void unlike() {
        Due.part("promise 44");
        DayBoy x = Due.with(Due.BRITISH, Due.JULIAN, Due.GREGORIAN, "9:4+", "0:1-");
        int change = x.day(0, 1752, 9, 14);
        Due.is("from the change on", x.unlike(0, 1, change - 100), change);
        Due.is("the last one of 5,000", x.unlike(0, 1, change - 4999), change);
        Due.is("beyond 5,000", x.unlike(0, 1, change - 5000), NONE);
        Due.is("up to the change", x.unlike(0, 2, change - 1), change - 1);
        Due.is("alike behind it", x.unlike(0, 2, change), NONE);
        Due.is("by itself", x.unlike(1, 1, 0), NONE);
        Due.is("one begins sooner", x.unlike(1, 3, 0), 5);
        Due.is("none by both at first", x.unlike(0, 1, 0), NONE);
        int end = x.day(1, 9999, 12, 31);
        Due.is("one ends sooner", x.unlike(4, 1, end), end);
        Due.is("behind both", x.unlike(1, 4, end + 1), NONE);
        Due.is("the last DAY", x.unlike(1, 4, 4000000), NONE);
        int[][] wrong = {{-1, 1, 0}, {5, 1, 0}, {0, 5, 0}, {0, -1, 0}, {1, 3, -1}, {0, 2, 4000001}, {0, 2, MOST},
            {0, 2, LEAST}};
        for (int[] w : wrong) {
            Due.is("unlike(" + w[0] + ", " + w[1] + ", " + w[2] + ")", x.unlike(w[0], w[1], w[2]), NONE);
        }
    }

    private static void rises() {
        Due.part("promise 45");
        DayBoy x = new DayBoy();
        Due.head(x, "k2000-2000,y1:2");
        Due.head(x, "k2000-2000,k2010-2010,y1:2");
        Due.head(x, "k2000-2000,y2:5");
        Due.is("less from 2006 on", x.rises(0, 1, 2000, 2010), 5);
        Due.is("the other way", x.rises(1, 0, 2000, 2010), -5);
        Due.is("alike", x.rises(0, 1, 1990, 2005), 0);
        Due.is("by itself", x.rises(0, 0, 1, 9999), 0);
        Due.is("rows by both alone", x.rises(0, 2, 2000, 2010), -5);
        Due.is("one year", x.rises(2, 0, 2002, 2002), 1);
        int[][] wrong = {{-1, 0, 1, 2}, {3, 0, 1, 2}, {0, 3, 1, 2}, {0, -1, 1, 2}, {0, 1, 2, 1}, {0, 1, 0, 2},
            {0, 1, 1, 10000}, {0, 1, LEAST, MOST}};
        for (int[] w : wrong) {
            Due.is("rises of " + w[0] + ", " + w[1] + " ..", x.rises(w[0], w[1], w[2], w[3]), HIDDEN);
        }
    }

    private static void count() {
        Due.part("promise 46");
        DayBoy x = Due.with(Due.GREGORIAN, Due.JULIAN);
        Due.head(x, "k1-1");
        Due.take(x, 2, "?;?;?;?");
        for (int i = 0; i < 3; i++) {
            x.ask(0, 0, 2000, 1, 1, 0, 0);
        }
        for (int i = 0; i < 5; i++) {
            x.plan(0, 2000, 1, 1);
        }
        for (int i = 0; i < 6; i++) {
            x.event(0, 2000, 1, 1, 0);
        }
        x.born(1, 1, 1, 1);
        Due.feed(x, "xyz");
        int[] due = {2, 1, 3, 5, 6, 3, 5, 4};
        for (int what = 0; what < due.length; what++) {
            Due.is("count(" + what + ")", x.count(what), due[what]);
        }
        for (int what : new int[] {-1, 8, LEAST, MOST}) {
            Due.is("count(" + what + ")", x.count(what), HIDDEN);
        }
        Due.is("NONE", DayBoy.NONE, -1);
        Due.is("HIDDEN", DayBoy.HIDDEN, -1000);
    }
}
