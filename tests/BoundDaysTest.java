/** The sentences that bound dates, years, births and events, each on both sides. */
public final class BoundDaysTest {
    private static final int NONE = DayBoy.NONE;
    private static final int COMMON = 365;

    public static void main(String[] args) {
        week();
        lastOneTells();
        dates();
        leftOut();
        noLeapDayBehind();
        kinds();
        turned();
        likeYears();
        thirteenths();
        mates();
        birth();
        birthdays();
        birthdaysLeftOut();
        eventsMost();
        held();
        spells();
        keptAndBack();
        unlike();
        calls();
        Due.end();
    }

    private static void week() {
        Due.part("DAY 0 is a Monday; days of the WEEK are 0 (Monday) .. 6");
        DayBoy x = Due.with("0:1-");
        for (int day = 0; day <= 14; day++) {
            Due.is("date(0, " + day + ", 3)", x.date(0, day, 3), day % 7);
        }
        Due.is("ahead of DAY 0", x.date(0, -1, 3), NONE);
        Due.is("the last DAY", x.date(0, 9999 * COMMON - 1, 3), (9999 * COMMON - 1) % 7);
        Due.is("behind it", x.date(0, 9999 * COMMON, 3), NONE);
    }

    private static void lastOneTells() {
        Due.part("a year has a 29 February as the last one tells whose number divides it; none: no");
        DayBoy x = Due.with("0:4+100-400+", "0:400+100-4+", "0:4-", "0:7+", "0:1+2-4+8-16+32-64+128-");
        int[][] due = {{0, 1896, 29}, {0, 1897, 28}, {0, 1900, 28}, {0, 2000, 29}, {1, 1900, 29}, {1, 2000, 29},
            {1, 1902, 28}, {2, 4, 28}, {2, 5, 28}, {3, 6, 28}, {3, 7, 29}, {3, 8, 28}, {4, 1, 29}, {4, 2, 28},
            {4, 4, 29}, {4, 64, 29}, {4, 128, 28}, {4, 256, 28}, {4, 9999, 29}};
        for (int[] d : due) {
            Due.is("many(" + d[0] + ", " + d[1] + ", 2)", x.many(d[0], d[1], 2), d[2]);
            if (d[2] == 28) {
                Due.hasNoDay(x, d[0], d[1], 2, 29);
            } else {
                Due.is("29 February", x.day(d[0], d[1], 2, 29) + 1, x.day(d[0], d[1], 3, 1));
            }
            Due.hasNoDay(x, d[0], d[1], 2, 30);
        }
    }

    private static void dates() {
        Due.part("DATES go from 1.1.1 to 31.12.9999; a date that is left out, or later, is none");
        DayBoy x = Due.with("0:1-", "9:1+", "0:1-@9999.12.30-0:1-", "0:1-@9999.12.30-1:1-", "0:1-@9999.12.31-30:1+");
        Due.is("1.1.1", x.day(0, 1, 1, 1), 0);
        Due.is("1.1.1", x.day(1, 1, 1, 1), 9);
        Due.is("no date ahead", x.date(1, 8, 0), NONE);
        Due.hasNoDay(x, 0, 0, 12, 31);
        Due.hasNoDay(x, 0, -1, 1, 1);
        int last = 9 + 366 * 9999 - 1;
        Due.is("31.12.9999", x.day(1, 9999, 12, 31), last);
        Due.is("its year", x.date(1, last, 0), 9999);
        Due.is("its month", x.date(1, last, 1), 12);
        Due.is("its date", x.date(1, last, 2), 31);
        for (int what = 0; what <= 3; what++) {
            Due.is("no date behind", x.date(1, last + 1, what), NONE);
        }
        Due.hasNoDay(x, 1, 10000, 1, 1);
        int common = 9999 * COMMON - 1;
        Due.is("31.12.9999 behind a change", x.day(2, 9999, 12, 31), common);
        Due.is("the last DAY behind a change", x.date(2, common, 2), 31);
        Due.is("none behind it", x.date(2, common + 1, 2), NONE);
        Due.hasNoDay(x, 3, 9999, 12, 31);
        Due.is("30.12.9999 is the last", x.date(3, common - 1, 2), 30);
        Due.is("none behind it", x.date(3, common, 2), NONE);
        Due.is("none behind it", x.many(3, 9999, 12), 30);
        Due.is("all left out is later", x.date(4, common, 2), 31);
        Due.is("all left out is later", x.date(4, common + 1, 2), NONE);
        Due.is("all left out is later", x.many(4, 9999, 0), 365);
    }

    /** The first date behind 1.m.d with n left out. */
    private static void firstBehind(String leaps, int m, int d, int n, int... first) {
        DayBoy x = Due.with("0:" + leaps + "@1." + m + "." + d + "-" + n + ":" + leaps);
        int day = x.day(0, 1, m, d) + 1;
        for (int what = 0; what <= 2; what++) {
            Due.is("behind " + m + "." + d + "-" + n + " by " + leaps, x.date(0, day, what), first[what]);
        }
        Due.is("its DAY", x.day(0, first[0], first[1], first[2]), day);
    }

    private static void leftOut() {
        Due.part("Y.M.D is the last date; N (0 .. 30) dates by those behind it are left out then");
        firstBehind("1-", 1, 30, 0, 1, 1, 31);
        firstBehind("1-", 1, 31, 0, 1, 2, 1);
        firstBehind("1-", 1, 31, 27, 1, 2, 28);
        firstBehind("1-", 1, 31, 28, 1, 3, 1);
        firstBehind("1+", 1, 31, 28, 1, 2, 29);
        firstBehind("1+", 1, 31, 29, 1, 3, 1);
        firstBehind("1-", 1, 31, 30, 1, 3, 3);
        firstBehind("1-", 2, 28, 30, 1, 3, 31);
        firstBehind("1-", 4, 30, 30, 1, 5, 31);
        firstBehind("1-", 11, 30, 30, 1, 12, 31);
        firstBehind("1-", 12, 1, 29, 1, 12, 31);
        firstBehind("1-", 12, 1, 30, 2, 1, 1);
        firstBehind("1-", 12, 31, 0, 2, 1, 1);
        firstBehind("1-", 12, 31, 30, 2, 1, 31);
        firstBehind("1+", 12, 31, 30, 2, 1, 31);
        DayBoy x = Due.with("0:1-@1.1.31-28:1-", "0:1-@1.12.31-30:1-");
        Due.is("a month left out", x.many(0, 1, 2), 0);
        Due.is("its year", x.many(0, 1, 0), COMMON - 28);
        Due.is("the year ahead is whole", x.many(1, 1, 0), COMMON);
        Due.is("one date of January", x.many(1, 2, 1), 1);
        Due.is("the year behind lacks 30", x.many(1, 2, 0), COMMON - 30);
        for (int d = 1; d <= 30; d++) {
            Due.hasNoDay(x, 1, 2, 1, d);
        }
        Due.is("31 January is there", x.day(1, 2, 1, 31), COMMON);
    }

    private static void noLeapDayBehind() {
        Due.part("Where LEAPS behind have no 29 February, that date is as 28 February for counting");
        DayBoy x = Due.with("0:1+@1.2.29-0:1-", "0:1+@1.2.29-1:1-", "0:1+@1.2.29-0:1+", "0:1+@1.2.29-30:1-",
            "0:1-@1.2.28-0:1+", "0:1-@1.2.28-1:1+");
        int[][] due = {{3, 1}, {3, 2}, {3, 1}, {3, 31}, {2, 29}, {3, 1}};
        for (int calendar = 0; calendar < due.length; calendar++) {
            int last = calendar < 4 ? 59 : 58;
            Due.is("the last date's DAY", x.day(calendar, 1, 2, calendar < 4 ? 29 : 28), last);
            Due.is("the first month behind in " + calendar, x.date(calendar, last + 1, 1), due[calendar][0]);
            Due.is("the first date behind in " + calendar, x.date(calendar, last + 1, 2), due[calendar][1]);
        }
        Due.is("29 February was there", x.many(0, 1, 2), 29);
        Due.is("and is no more", x.many(0, 2, 2), 28);
        Due.is("a 29 February that is left out", x.many(5, 1, 2), 28);
    }

    private static void kinds() {
        Due.part("KIND: if its 1.1. and 31.12. are there and 364 or 365 days apart; else NONE");
        DayBoy x = Due.with("0:1-", "0:1+", "6:1-", "6:1+", "7:1-", "7:1+");
        int[] due = {0, 1, 12, 13, 0, 1};
        for (int calendar = 0; calendar < due.length; calendar++) {
            Due.is("kind(" + calendar + ", 1)", x.kind(calendar, 1), due[calendar]);
        }
        Due.is("the last year", x.kind(0, 9999), 2 * (9998 * COMMON % 7));
        Due.is("year 0", x.kind(0, 0), NONE);
        Due.is("year 10,000", x.kind(0, 10000), NONE);
        x = Due.with("0:1-@1.6.1-1:1-", "0:1+@1.6.1-1:1+", "0:1+@1.6.1-2:1+", "0:1-@1.2.28-0:1+", "0:1+@1.2.29-0:1-",
            "0:1-@1.6.1-0:1-");
        int[] whole = {NONE, 0, NONE, 1, 1, 0};
        for (int calendar = 0; calendar < whole.length; calendar++) {
            Due.is("with a change, kind(" + calendar + ", 1)", x.kind(calendar, 1), whole[calendar]);
        }
        x = Due.with("0:1-@1.12.31-0:1-", "0:1-@1.12.31-1:1-", "0:1+@1.12.30-1:1-", "0:1+@1.12.30-0:1-");
        int[][] ends = {{0, 2, 4}, {0, NONE, 2}, {NONE, 2, 4}, {1, 4, 6}};
        for (int calendar = 0; calendar < ends.length; calendar++) {
            for (int y = 1; y <= 3; y++) {
                Due.is("kind(" + calendar + ", " + y + ")", x.kind(calendar, y), ends[calendar][y - 1]);
            }
        }
    }

    private static void turned() {
        Due.part("turned: NONE: none there");
        DayBoy x = Due.with("0:1-", "2:1-", "0:1-@1.1.3-0:1-");
        Due.is("1.1.1 is not there yet", x.turned(0, 1, 1, 2, 1, 2), NONE);
        Due.is("1.1.1 is there", x.turned(0, 1, 1, 3, 1, 2), 1);
        Due.is("31.12.9999", x.turned(1, 9999, 12, 29, 0, 2), 31);
        Due.is("is there no more", x.turned(1, 9999, 12, 30, 0, 2), NONE);
        Due.is("over a change", x.turned(0, 1, 1, 4, 2, 2), 4);
    }

    private static void likeYears() {
        Due.part("LIKE years: those behind a year with its KIND; NONE: none, no KIND");
        DayBoy x = Due.with("0:1-", "0:1-@2.1.5-1:1-");
        Due.is("not itself", x.like(0, 1, 0), 8);
        Due.is("the second one", x.like(0, 1, 1), 15);
        Due.is("the last one", x.like(0, 1, 1427), 9997);
        Due.is("none behind it", x.like(0, 1, 1428), NONE);
        Due.is("the last year", x.like(0, 9992, 0), 9999);
        Due.is("none behind it", x.like(0, 9992, 1), NONE);
        Due.is("no such year any more", x.like(0, 9993, 0), NONE);
        Due.is("none behind the last year", x.like(0, 9999, 0), NONE);
        Due.is("i -1", x.like(0, 1, -1), NONE);
        Due.is("no KIND", x.like(1, 2, 0), NONE);
        Due.is("the year behind has one", x.like(1, 3, 0), 10);
    }

    private static int allThirteenths(DayBoy x, int calendar, int from, int to) {
        int sum = 0;
        for (int week = 0; week <= 6; week++) {
            sum += x.thirteenths(calendar, from, to, week);
        }
        return sum;
    }

    private static void thirteenths() {
        Due.part("THIRTEENTHS: how many 13ths of years from .. to; NONE: to below from");
        DayBoy x = Due.with("0:1-", "0:1-@1.1.12-1:1-", "0:1-@1.1.13-1:1-", "0:1-@1.1.11-1:1-");
        Due.is("one year", allThirteenths(x, 0, 5, 5), 12);
        Due.is("both ends count", allThirteenths(x, 0, 5, 7), 36);
        Due.is("all years", allThirteenths(x, 0, 1, 9999), 12 * 9999);
        Due.is("to below from", x.thirteenths(0, 6, 5, 0), NONE);
        Due.is("the 13th is left out", allThirteenths(x, 1, 1, 1), 11);
        Due.is("the 14th is", allThirteenths(x, 2, 1, 1), 12);
        Due.is("the 12th is", allThirteenths(x, 3, 1, 1), 12);
        // 13 January of the year 1 was DAY 12, a Saturday, and so was that of October
        Due.is("Saturdays", x.thirteenths(0, 1, 1, 5), 2);
        Due.is("without January", x.thirteenths(1, 1, 1, 4), 1);
    }

    private static void mates() {
        Due.part("MATES: months whose firsts are on the day of its first (itself, too)");
        DayBoy x = Due.with("0:1-", "0:1-@1.8.31-1:1-", "0:1-@1.7.31-1:1-", "0:1-@1.7.30-1:1-");
        Due.is("itself alone", x.mates(0, 1, 8), 128);
        Due.is("December and September", x.mates(0, 1, 12), 2048 + 256);
        Due.is("without September's first", x.mates(1, 1, 9), NONE);
        Due.is("September is none's mate", x.mates(1, 1, 8) & 256, 0);
        Due.is("its own first is no date", x.mates(2, 1, 8), NONE);
        // its first is DAY 211 then, a Tuesday as that of May
        Due.is("the date ahead is none", x.mates(3, 1, 8), 128 + 16);
    }

    private static void birth() {
        Due.part("BIRTH is a DAY, told by a date (anew). False: no such date");
        DayBoy x = Due.with("0:1-", "0:1-@1.1.1-1:1-");
        Due.is("no BIRTH", x.count(6), NONE);
        Due.fails("left out", x.born(1, 1, 1, 2));
        Due.is("no BIRTH", x.count(6), NONE);
        Due.holds("the first date", x.born(1, 1, 1, 1));
        Due.is("DAY 0", x.count(6), 0);
        Due.holds("anew", x.born(1, 1, 1, 3));
        Due.is("DAY 1", x.count(6), 1);
        Due.holds("the last date", x.born(0, 9999, 12, 31));
        Due.is("the last DAY", x.count(6), 9999 * COMMON - 1);
        Due.fails("behind it", x.born(0, 10000, 1, 1));
        Due.is("the BIRTH stays", x.count(6), 9999 * COMMON - 1);
        Due.is("its age", x.age(0, 9999, 12, 31), 0);
        Due.is("the BIRTH's CALENDAR has changed", x.age(1, 9999, 12, 31), NONE);
    }

    private static void birthdays() {
        Due.part("AGE: how many BIRTHDAYS there were up to it; NONE: before it");
        DayBoy x = Due.with("0:4+");
        x.born(0, 10, 6, 15);
        Due.is("the day before", x.age(0, 10, 6, 14), NONE);
        Due.is("the day itself", x.age(0, 10, 6, 15), 0);
        Due.is("the end of the year", x.age(0, 10, 12, 31), 0);
        Due.is("the day ahead of a BIRTHDAY", x.age(0, 11, 6, 14), 0);
        Due.is("a BIRTHDAY", x.age(0, 11, 6, 15), 1);
        Due.is("the day behind it", x.age(0, 11, 6, 16), 1);
        Due.is("the last date", x.age(0, 9999, 12, 31), 9989);
        x.born(0, 4, 2, 29);
        Due.is("28 February", x.age(0, 5, 2, 28), 0);
        Due.is("1 March", x.age(0, 5, 3, 1), 1);
        Due.is("28 February of a leap year", x.age(0, 8, 2, 28), 3);
        Due.is("29 February", x.age(0, 8, 2, 29), 4);
        x.born(0, 1, 1, 1);
        Due.is("the first date of all", x.age(0, 1, 1, 1), 0);
        Due.is("31 December", x.age(0, 2, 12, 31), 1);
        Due.is("1 January", x.age(0, 3, 1, 1), 2);
        Due.is("the last date", x.age(0, 9999, 12, 31), 9998);
    }

    private static void birthdaysLeftOut() {
        Due.part("a BIRTHDAY: or the first date there is behind it (of that year or the next)");
        DayBoy x = Due.with("0:1-@10.6.14-3:1-", "0:1-@10.12.30-1:1-", "0:1-@10.12.30-30:1-", "0:1-@9999.12.30-1:1-",
            "0:1-@10.12.31-4:1-");
        x.born(0, 5, 6, 15);
        Due.is("the last one ahead", x.age(0, 10, 6, 14), 4);
        Due.is("the first one behind", x.age(0, 10, 6, 18), 5);
        x.born(0, 5, 6, 17);
        Due.is("the last one left out", x.age(0, 10, 6, 18), 5);
        x.born(0, 5, 6, 18);
        Due.is("the first that is there", x.age(0, 10, 6, 18), 5);
        x.born(0, 5, 6, 19);
        Due.is("the one behind it", x.age(0, 10, 6, 18), 4);
        x.born(1, 5, 12, 31);
        Due.is("30 December", x.age(1, 10, 12, 30), 4);
        Due.is("1 January instead of 31 December", x.age(1, 11, 1, 1), 5);
        Due.is("30 December, a year on", x.age(1, 11, 12, 30), 5);
        Due.is("31 December, a year on", x.age(1, 11, 12, 31), 6);
        x.born(2, 5, 12, 31);
        Due.is("thirty left out: 30 January", x.age(2, 11, 1, 30), 5);
        x.born(2, 5, 1, 1);
        Due.is("30 December", x.age(2, 10, 12, 30), 5);
        Due.is("30 January instead of the 1st", x.age(2, 11, 1, 30), 6);
        x.born(3, 9990, 12, 31);
        Due.is("none behind it any more", x.age(3, 9999, 12, 30), 8);
        x.born(3, 9990, 12, 30);
        Due.is("the last date is one", x.age(3, 9999, 12, 30), 9);
        x.born(4, 5, 12, 31);
        Due.is("the last date of the year", x.age(4, 10, 12, 31), 5);
        x.born(4, 5, 1, 4);
        Due.is("5 January instead of the 4th", x.age(4, 11, 1, 5), 6);
        Due.is("not in the year ahead", x.age(4, 10, 12, 31), 5);
    }

    private static void eventsMost() {
        Due.part("EVENTS (30 at most) and a sort (0 .. 3)");
        DayBoy x = Due.with("0:1-@1.1.1-1:1-");
        Due.is("sort -1", x.event(0, 1, 1, 1, -1), NONE);
        Due.is("sort 4", x.event(0, 1, 1, 1, 4), NONE);
        Due.is("left out", x.event(0, 1, 1, 2, 0), NONE);
        Due.is("count(4)", x.count(4), 0);
        for (int i = 1; i <= 29; i++) {
            Due.is("event " + i, x.event(0, 1, 1, 3, i % 3), i);
        }
        Due.is("no EVENT of sort 3 yet", x.held(0, 1, 1, 3), 7);
        Due.is("the thirtieth", x.event(0, 1, 1, 3, 3), 30);
        Due.is("held", x.held(0, 1, 1, 3), 15);
        Due.is("one too many", x.event(0, 1, 1, 4, 3), NONE);
        Due.is("count(4)", x.count(4), 30);
        Due.is("held", x.held(0, 1, 1, 4), 0);
        Due.is("back()", x.back(), 0);
        Due.is("again", x.event(0, 1, 1, 4, 3), 1);
    }

    private static void held() {
        Due.part("HELD by a DAY: sorts as bits");
        DayBoy x = Due.with("0:1-", "1:1-");
        Due.is("no EVENTS", x.held(0, 1, 1, 1), 0);
        int bits = 0;
        for (int sort = 0; sort <= 3; sort++) {
            x.event(0, 9999, 12, 31, sort);
            bits += 1 << sort;
            Due.is("sorts up to " + sort, x.held(0, 9999, 12, 31), bits);
        }
        Due.is("the same DAY by the other", x.held(1, 9999, 12, 30), 15);
        Due.is("another DAY", x.held(1, 9999, 12, 31), 0);
        Due.is("another DAY", x.held(0, 9999, 12, 30), 0);
        Due.is("no date", x.held(0, 10000, 1, 1), NONE);
    }

    private static void spells() {
        Due.part("SPELL of a sort: the longest row of DAYS, each one behind the other");
        DayBoy x = Due.with("0:1-@1.1.10-5:1-", "0:1-");
        Due.is("no EVENTS", x.spell(2), 0);
        x.event(1, 1, 1, 10, 2);
        Due.is("one", x.spell(2), 1);
        x.event(1, 1, 1, 12, 2);
        Due.is("two that are apart", x.spell(2), 1);
        x.event(0, 1, 1, 16, 2);
        Due.is("the DAY between, by a change", x.spell(2), 3);
        x.event(0, 1, 1, 16, 2);
        Due.is("a DAY twice", x.spell(2), 3);
        Due.is("of another sort", x.spell(1), 0);
        x.event(1, 1, 12, 31, 3);
        x.event(1, 2, 1, 1, 3);
        Due.is("over the year's end", x.spell(3), 2);
        x.event(1, 1, 1, 1, 0);
        Due.is("DAY 0", x.spell(0), 1);
        DayBoy y = Due.with("0:1-");
        for (int i = 0; i < 30; i++) {
            y.event(0, 1, 1, 30 - i, 1);
        }
        Due.is("thirty in a row", y.spell(1), 30);
        Due.is("sort -1", y.spell(-1), NONE);
        Due.is("sort 4", y.spell(4), NONE);
    }

    private static void keptAndBack() {
        Due.part("KEPT; BACK: later ones go (to none, if nothing was KEPT)");
        DayBoy x = Due.with("0:1-");
        Due.is("back() of nothing", x.back(), 0);
        for (int i = 0; i < 60; i++) {
            x.ask(i, 0, 1, 1, 1, 0, 0);
        }
        for (int i = 0; i < 30; i++) {
            x.event(0, 1, 1, 1, 0);
        }
        Due.is("nothing was KEPT", x.back(), 0);
        Due.is("no ASKS", x.count(2), 0);
        Due.is("no EVENTS", x.count(4), 0);
        Due.is("a month below", x.ask(0, 0, 1, 1, 1, 0, 0), 0);
        Due.is("keep()", x.keep(), 1);
        for (int i = 1; i < 60; i++) {
            Due.is("ask " + i, x.ask(999, 0, 1, 1, 1, 0, 0), i);
        }
        Due.is("one too many", x.ask(999, 0, 1, 1, 1, 0, 0), NONE);
        for (int i = 1; i <= 30; i++) {
            Due.is("event " + i, x.event(0, 1, 1, 1, 0), i);
        }
        Due.is("back()", x.back(), 1);
        Due.is("an ASK is left", x.count(2), 1);
        Due.is("no EVENTS", x.count(4), 0);
        Due.is("the month is that of the one left", x.ask(0, 0, 1, 1, 1, 0, 0), 1);
        for (int i = 2; i < 60; i++) {
            x.ask(1, 0, 1, 1, 1, 0, 0);
        }
        for (int i = 1; i <= 30; i++) {
            x.event(0, 1, 1, 1, 0);
        }
        Due.is("all KEPT", x.keep(), 90);
        Due.is("none goes", x.back(), 90);
        Due.is("sixty are", x.ask(999, 0, 1, 1, 1, 0, 0), NONE);
        Due.is("thirty are", x.event(0, 1, 1, 1, 0), NONE);
        keptTwice();
    }

    private static void keptTwice() {
        DayBoy x = Due.with("0:1-");
        x.event(0, 1, 1, 1, 0);
        Due.is("keep()", x.keep(), 1);
        x.event(0, 1, 1, 1, 1);
        Due.is("keep() again", x.keep(), 2);
        x.ask(0, 0, 1, 1, 1, 0, 0);
        x.event(0, 1, 1, 1, 2);
        Due.is("back()", x.back(), 2);
        Due.is("sorts", x.held(0, 1, 1, 1), 3);
        Due.is("back() once more", x.back(), 2);
        Due.is("asked(0, 0)", x.asked(0, 0), DayBoy.HIDDEN);
    }

    private static void unlike() {
        Due.part("UNLIKE: the first DAY from a DAY on, of 5,000 at most; no such DAY (0 .. 4,000,000)");
        DayBoy x = Due.with("0:1-", "0:1-@20.1.1-1:1-", "9:1-", "0:1+");
        int change = 19 * COMMON + 1;
        Due.is("that DAY itself", x.unlike(0, 1, change), change);
        Due.is("the DAY ahead", x.unlike(0, 1, change - 1), change);
        Due.is("the last of 5,000", x.unlike(0, 1, change - 4999), change);
        Due.is("beyond 5,000", x.unlike(0, 1, change - 5000), NONE);
        Due.is("behind it", x.unlike(1, 0, change + 1), change + 1);
        Due.is("DAY 0 by one alone", x.unlike(0, 2, 0), 0);
        Due.is("DAY -1", x.unlike(0, 2, -1), NONE);
        int end = 9999 * COMMON;
        Due.is("the end of the first is later", x.unlike(0, 1, end - 1), end - 1);
        Due.is("behind both", x.unlike(0, 1, end), NONE);
        Due.is("the last DAY by one alone", x.unlike(0, 3, end + 9998), end + 9998);
        Due.is("behind both", x.unlike(0, 3, end + 9999), NONE);
        Due.is("DAY 4,000,000", x.unlike(0, 3, 4000000), NONE);
        Due.is("DAY 4,000,001", x.unlike(0, 3, 4000001), NONE);
        Due.is("a CALENDAR and itself", x.unlike(2, 2, 0), NONE);
    }

    private static void calls() {
        Due.part("An object is used for at most 512 calls");
        DayBoy x = new DayBoy();
        for (int i = 0; i < 6; i++) {
            x.feed(0x373A342B, 0, 0, 0, 0);
            x.text(0);
        }
        for (int call = 13; call <= 511; call++) {
            Due.is("call " + call, x.date(5, call, 3), call % 7);
        }
        Due.is("the 512th", x.day(5, 1, 1, 1), 7);
    }
}
