import java.time.LocalDate;
import java.time.temporal.ChronoUnit;
import java.util.ArrayList;
import java.util.List;
import java.util.NoSuchElementException;

/** Promises 2 to 46: for each argument the last one that is taken and the first that is refused, at both ends. */
public final class BoundArgumentsTest {
    private static final int NONE = DayBoy.NONE;
    private static final int HIDDEN = DayBoy.HIDDEN;
    /** Stands for an exception of day(). */
    private static final int THROWN = -7;
    private static final int LEAST = Integer.MIN_VALUE;
    private static final int MOST = Integer.MAX_VALUE;
    private static final int JULIAN_LAST = 5 + 9999 * 365 + 2499 - 1;

    public static void main(String[] args) {
        tape();
        dates();
        years();
        way();
        answers();
        ask();
        asked();
        slack();
        meansAndFurther();
        learnt();
        weights();
        plans();
        part();
        least();
        like();
        thirteenths();
        birth();
        events();
        row();
        run();
        holds();
        rightAndLacks();
        unlikeAndRises();
        count();
        Due.end();
    }

    private static LocalDate dateOf(int y, int m, int d) {
        return LocalDate.of(y, m, d);
    }

    /** 1.1.1 is DAY 7 by the first calendar. */
    private static int gregorian(int y, int m, int d) {
        return (int) ChronoUnit.DAYS.between(LocalDate.of(1, 1, 1), LocalDate.of(y, m, d)) + 7;
    }

    private static int kindOf(int y) {
        LocalDate first = dateOf(y, 1, 1);
        return 2 * (first.getDayOfWeek().getValue() - 1) + (first.isLeapYear() ? 1 : 0);
    }

    /** Two calendars, three heads that have a way for October 2012, nothing asked. */
    private static DayBoy heads() {
        DayBoy x = Due.with(Due.GREGORIAN, Due.JULIAN);
        Due.head(x, "k1-9999,b6,m10=1:1");
        Due.head(x, "k2000-2009,b9,y1:2,m2=1:3,m10=1:4,m12=1:1");
        Due.head(x, "k2000-2000,b2,y4:7,m10=1:2");
        return x;
    }

    /** And asks, plans, a birth, events, a row, a text on the tape. */
    private static DayBoy full() {
        DayBoy x = heads();
        x.ask(5, 0, 2000, 1, 1, 5, 6);
        x.ask(7, 0, 2001, 1, 1, 0, 8);
        x.ask(9, 1, 1917, 10, 25, 2, 30);
        x.plan(0, 2000, 1, 1);
        x.plan(0, 2010, 10, 8);
        x.born(0, 1990, 5, 17);
        x.event(0, 2000, 10, 1, 0);
        x.event(0, 2000, 10, 1, 3);
        Due.take(x, 2, "2000.1.1;?;2001.1.1");
        Due.feed(x, "5:4+x");
        return x;
    }

    private static DayBoy withTape(String text) {
        DayBoy x = heads();
        Due.feed(x, text);
        return x;
    }

    private static void tape() {
        Due.part("promises 3 to 5, arguments");
        new Bound("end", 0, BoundArgumentsTest::full, (x, a) -> x.end(a[0]) ? 1 : 0, 0).from(0, 0, 1, 5, 1);
        new Bound("end of nothing", 0, BoundArgumentsTest::heads, (x, a) -> x.end(a[0]) ? 1 : 0, 0).from(0, 0, 1, 0, 1);
        // "5:4+x" is wrong at the x, the 5, the :
        new Bound("fault", -2, BoundArgumentsTest::full, (x, a) -> x.fault(a[0]), 0)
                .from(0, 0, 4, 2, 1).takes(0, 1, 0);
        new Bound("text", NONE, () -> withTape("5:4+"), (x, a) -> x.text(a[0]), 0)
                .takes(0, 0, 2).refuses(0, -1, 1, 2, 3, LEAST, MOST);
        new Bound("text", NONE, () -> withTape("s1"), (x, a) -> x.text(a[0]), 1)
                .takes(0, 1, 3).refuses(0, -1, 0, 2, 3, LEAST, MOST);
        new Bound("text", NONE, () -> withTape("?"), (x, a) -> x.text(a[0]), 2)
                .takes(0, 2, 1).refuses(0, -1, 0, 1, 3, LEAST, MOST);
    }

    private static int dayOf(DayBoy x, int[] a) {
        try {
            return x.day(a[0], a[1], a[2], a[3]);
        } catch (NoSuchElementException none) {
            return THROWN;
        }
    }

    private static void dates() {
        Due.part("promises 6 to 8, arguments");
        int day = gregorian(2000, 1, 1);
        new Bound("day", THROWN, BoundArgumentsTest::full, BoundArgumentsTest::dayOf, 0, 2000, 1, 1)
                .from(0, 0, day, 1, day + 13)
                .from(1, 1, 7, 9999, gregorian(9999, 1, 1))
                .from(2, 1, day, 12, gregorian(2000, 12, 1))
                .from(3, 1, day, 31, day + 30);
        new Bound("day", THROWN, BoundArgumentsTest::full, BoundArgumentsTest::dayOf, 0, 2000, 2, 1)
                .from(3, 1, day + 31, 29, day + 59);
        new Bound("day", THROWN, BoundArgumentsTest::full, BoundArgumentsTest::dayOf, 0, 1900, 2, 1)
                .from(3, 1, gregorian(1900, 2, 1), 28, gregorian(1900, 2, 28));
        new Bound("date", NONE, BoundArgumentsTest::full, (x, a) -> x.date(a[0], a[1], a[2]), 0, day, 0)
                .from(0, 0, 2000, 1, 1999)
                .from(1, 7, 1, gregorian(9999, 12, 31), 9999)
                .from(2, 0, 2000, 3, 5);
        new Bound("date, the day of the week", NONE, BoundArgumentsTest::full, (x, a) -> x.date(a[0], a[1], a[2]), 1, 5, 3)
                .from(1, 5, 5, JULIAN_LAST, JULIAN_LAST % 7);
        // 1.1.2000 is 19.12.1999 by the other calendar
        new Bound("turned", NONE, BoundArgumentsTest::full,
                (x, a) -> x.turned(a[0], a[1], a[2], a[3], a[4], a[5]), 0, 2000, 1, 1, 1, 0)
                .from(0, 0, 1999, 1, 2000)
                .from(1, 1, 1, 9999, 9998)
                .from(2, 1, 1999, 12, 2000)
                .from(3, 1, 1999, 31, 2000)
                .from(4, 0, 2000, 1, 1999)
                .from(5, 0, 1999, 2, 19);
        // DAYS 5 and 6 are dates by the second calendar alone, and so are its last ones by the first alone
        new Bound("turned to a DAY that is not there", NONE, BoundArgumentsTest::full,
                (x, a) -> x.turned(1, 1, 1, a[0], 0, 2), 3).takes(0, 3, 1).refuses(0, 2, 1);
        new Bound("turned to a DAY that is not there", NONE, BoundArgumentsTest::full,
                (x, a) -> x.turned(1, 9999, 10, a[0], 0, 2), 19).takes(0, 19, 31).refuses(0, 20, 31);
    }

    private static void years() {
        Due.part("promises 9, 10, 30, arguments");
        new Bound("many", NONE, BoundArgumentsTest::full, (x, a) -> x.many(a[0], a[1], a[2]), 0, 1900, 2)
                .from(0, 0, 28, 1, 29)
                .from(1, 1, 28, 9999, 28)
                .from(2, 0, 365, 12, 31);
        new Bound("kind", NONE, BoundArgumentsTest::full, (x, a) -> x.kind(a[0], a[1]), 0, 2000)
                .from(0, 0, 11, 1, 9)
                .from(1, 1, 0, 9999, kindOf(9999));
        // firsts of January and October are on one day in common years, of January, April and July in leap years
        new Bound("mates", NONE, BoundArgumentsTest::full, (x, a) -> x.mates(a[0], a[1], a[2]), 0, 1900, 1)
                .from(0, 0, 1 + 512, 1, 1 + 8 + 64)
                .from(1, 1, 1 + 512, 9999, 1 + 512)
                .from(2, 1, 1 + 512, 12, 2048 + 256);
    }

    private static void way() {
        Due.part("promise 11, arguments");
        // 2012, 2011, 2010, 2009 and October, January
        new Bound("way", NONE, BoundArgumentsTest::full,
                (x, a) -> x.way(a[0], a[1], a[2], a[3], a[4], a[5], a[6]), 1, 0, 2012, 10, 5, 0, NONE)
                .from(0, 0, 0, 2, 3)
                .from(1, 0, 3, 1, 3)
                .from(2, 1, 1999, 9999, 7990)
                .from(4, 1, 3, 31, 3)
                .from(5, 0, 3, 1, 1)
                .from(6, NONE, 3, 3, 2009).takes(6, 0, 2012);
        new Bound("way of months", NONE, BoundArgumentsTest::full,
                (x, a) -> x.way(a[0], a[1], a[2], a[3], a[4], a[5], a[6]), 1, 0, 2012, 10, 5, 1, NONE)
                .from(3, 1, 0, 12, 1)
                .from(6, NONE, 1, 1, 1).takes(6, 0, 10);
    }

    private static void answers() {
        Due.part("promise 12, arguments");
        // 5.10.2012 was a Friday; by January 2009, a Thursday, it is answered as Monday
        new Bound("answers", HIDDEN, BoundArgumentsTest::full,
                (x, a) -> x.answers(a[0], a[1], a[2], a[3], a[4], a[5]), 1, 0, 2012, 10, 5, 1)
                .from(0, 0, 7, 2, 2 + 21 + 2)
                .from(1, 0, 9 + 6 + 4, 1, 9 + 6 + 4)
                .from(2, 1, 9 + 2 * 1999 + 4, 9999, 9 + 2 * 7990 + 4)
                .from(3, 1, 9 + 6, 12, 9 + 6 + 1)
                .from(4, 1, 9 + 6 + 4, 31, 9 + 6 + 4)
                .from(5, 0, 0, 3, 0).takes(5, 2, 3);
    }

    private static void ask() {
        Due.part("promise 13, arguments");
        new Bound("ask", NONE, BoundArgumentsTest::full,
                (x, a) -> x.ask(a[0], a[1], a[2], a[3], a[4], a[5], a[6]), 9, 0, 2000, 1, 1, 5, 6)
                .from(0, 9, 3, 999, 3)
                .from(1, 0, 3, 1, 3)
                .from(2, 1, 3, 9999, 3)
                .from(3, 1, 3, 12, 3)
                .from(4, 1, 3, 31, 3)
                .from(5, 0, 3, 6, 3)
                .from(6, 0, 3, 9999, 3);
        new Bound("ask, the first", NONE, BoundArgumentsTest::heads,
                (x, a) -> x.ask(a[0], 0, 2000, 1, 1, 5, 6), 0).from(0, 0, 0, 999, 0);
    }

    private static void asked() {
        Due.part("promise 14, arguments");
        new Bound("asked", HIDDEN, BoundArgumentsTest::full, (x, a) -> x.asked(a[0], a[1]), 1, 0)
                .from(0, 0, 5, 2, 9)
                .from(1, 0, 7, 5, 0);
        new Bound("asked without ASKS", HIDDEN, BoundArgumentsTest::heads, (x, a) -> x.asked(a[0], 0), 0)
                .refuses(0, -1, 0, 1);
    }

    private static void slack() {
        Due.part("promises 15, 16, 43, arguments");
        // the first head is off by 0, 2 and 23, the second by 3 and 1, then wrong, the third by 4, then lost
        new Bound("fits", NONE, BoundArgumentsTest::full, (x, a) -> x.fits(a[0]), 0)
                .from(0, 0, 0, 999, 1).takes(0, 22, 0).takes(0, 23, 1);
        new Bound("so", NONE, BoundArgumentsTest::full, (x, a) -> x.so(a[0], a[1]), 0, 5)
                .from(0, 0, 2, 2, 1)
                .from(1, 0, 1, 999, 3);
        new Bound("spare", NONE, BoundArgumentsTest::full, (x, a) -> x.spare(a[0], a[1]), 3, 2)
                .from(0, 0, 1, 999, 7).takes(0, 1, 3).takes(0, 3, 3).takes(0, 4, 7)
                .from(1, 0, 0, 60, 7).takes(1, 1, 3);
    }

    private static void meansAndFurther() {
        Due.part("promises 17 to 19, arguments");
        new Bound("further", HIDDEN, BoundArgumentsTest::full, (x, a) -> x.further(a[0]), 1).from(0, 1, -1, 9999, 1);
        new Bound("lived", NONE, BoundArgumentsTest::full, (x, a) -> x.lived(a[0]), 0).from(0, 0, 7, 1, 30);
        new Bound("lived without a BIRTH", NONE, () -> asksAlone(), (x, a) -> x.lived(a[0]), 0).refuses(0, 0, 1);
        new Bound("after", NONE, () -> asksAlone(), (x, a) -> x.after(a[0]), 0).from(0, 0, 4, 1, 8);
    }

    /** 2010 is of the kind of 1999, 2000 is not. */
    private static DayBoy asksAlone() {
        DayBoy x = heads();
        x.ask(0, 0, 1999, 1, 1, 0, 1);
        x.ask(0, 0, 2010, 1, 1, 0, 4);
        x.ask(0, 0, 2000, 1, 1, 0, 8);
        return x;
    }

    private static void learnt() {
        Due.part("promise 20, arguments");
        Bound.Call last = (x, a) -> x.learnt(a[0], a[1], a[2], a[3]);
        new Bound("learnt", NONE, BoundArgumentsTest::full, last, 0, 0, 999, 1)
                .from(0, 0, 1000, 2, 7)
                .from(1, 0, 1000, 2, 1000)
                .from(3, 0, 0, 1, 1000);
        new Bound("learnt", NONE, BoundArgumentsTest::full, last, 0, 0, 999, 0).takes(1, 1, 10).takes(1, 2, 10);
        new Bound("learnt", NONE, () -> oneAsk(), last, 1, 0, 0, 1).from(2, 0, 5, 999, 1000);
    }

    private static DayBoy oneAsk() {
        DayBoy x = heads();
        x.ask(5, 0, 2000, 1, 1, 5, 6);
        return x;
    }

    private static void weights() {
        Due.part("promises 21, 22, arguments");
        new Bound("weigh", 0, BoundArgumentsTest::heads, (x, a) -> x.weigh(a[0], a[1]) ? 1 : 0, 0, 5)
                .from(0, 0, 1, 2, 1)
                .from(1, 1, 1, 9, 1);
        new Bound("odds", NONE, BoundArgumentsTest::full, (x, a) -> x.odds(a[0], a[1]), 0, 30)
                .from(0, NONE, 1, 2, 0)
                .from(1, 0, 0, 999, 1);
        new Bound("odds of all", NONE, BoundArgumentsTest::heads, (x, a) -> x.odds(a[0], a[1]), NONE, 30)
                .from(0, NONE, 3, 2, 1)
                .from(1, 0, 3, 999, 3);
    }

    private static void plans() {
        Due.part("promises 23 to 25, arguments");
        new Bound("plan", NONE, BoundArgumentsTest::full, (x, a) -> x.plan(a[0], a[1], a[2], a[3]), 0, 2000, 1, 1)
                .from(0, 0, 2, 1, 2)
                .from(1, 1, 2, 9999, 2)
                .from(2, 1, 2, 12, 2)
                .from(3, 1, 2, 31, 2);
        new Bound("parted", NONE, BoundArgumentsTest::full, (x, a) -> x.parted(a[0], a[1]), 0, 3)
                .from(0, 0, 1, 1, 1)
                .from(1, 0, 0, 7, 3);
        new Bound("next", NONE, BoundArgumentsTest::full, (x, a) -> x.next(a[0]), 0).from(0, 0, 0, 7, 0);
        new Bound("parted without PLANS", NONE, BoundArgumentsTest::heads, (x, a) -> x.parted(a[0], 1), 0)
                .refuses(0, -1, 0, 1);
        new Bound("next without PLANS", NONE, BoundArgumentsTest::heads, (x, a) -> x.next(a[0]), 0)
                .refuses(0, 0, 7);
    }

    private static void part() {
        Due.part("promise 26, arguments");
        int day = gregorian(2000, 1, 1);
        new Bound("part", NONE, BoundArgumentsTest::full,
                (x, a) -> x.part(a[0], a[1], a[2], a[3], a[4]), 1, 0, 0, 2000, 1)
                .takes(0, 2, day).refuses(0, -1, 0, 3, LEAST, MOST)
                .from(2, 0, day, 1, day + 13)
                .from(3, 1, 7, 9999, gregorian(9999, 1, 1))
                .from(4, 1, day, 20, day);
        new Bound("part", NONE, BoundArgumentsTest::full, (x, a) -> x.part(2, a[0], 0, 2000, 1), 0)
                .takes(0, 0, day).takes(0, 1, day).refuses(0, -1, 2, 3, LEAST, MOST);
    }

    private static void least() {
        Due.part("promise 27, arguments");
        new Bound("least", NONE, BoundArgumentsTest::full,
                (x, a) -> x.least(a[0], a[1], a[2], a[3], a[4]), 1, 2000, 3, 2, 0)
                .from(0, 0, 3, 2, 3)
                .from(1, 1, 1, 9997, 1)
                .from(2, 1, 1, 14, 5)
                .from(3, 0, 3, 999, 1)
                .from(4, 0, 1, 1, 2);
        new Bound("least of one year", NONE, BoundArgumentsTest::full, (x, a) -> x.least(1, a[0], 1, 2, 1), 1)
                .from(0, 1, 1, 9999, 1);
        new Bound("least up to the last year", NONE, BoundArgumentsTest::full, (x, a) -> x.least(1, 9986, a[0], 2, 0), 1)
                .from(0, 1, 1, 14, 5);
        new Bound("least up to the last year", NONE, BoundArgumentsTest::full, (x, a) -> x.least(1, 9987, a[0], 2, 0), 1)
                .from(0, 1, 1, 13, 5);
    }

    private static List<Integer> yearsLike(int year) {
        List<Integer> years = new ArrayList<>();
        for (int y = year + 1; y <= 9999; y++) {
            if (kindOf(y) == kindOf(year)) {
                years.add(y);
            }
        }
        return years;
    }

    private static void like() {
        Due.part("promise 28, arguments");
        List<Integer> due = yearsLike(1999);
        int last = due.size() - 1;
        new Bound("like", NONE, BoundArgumentsTest::full, (x, a) -> x.like(a[0], a[1], a[2]), 0, 1999, 0)
                .from(0, 0, 2010, 1, 2010)
                .from(2, 0, 2010, last, due.get(last))
                .takes(1, 1, yearsLike(1).get(0)).refuses(1, 0, -1, 10000, LEAST, MOST);
        new Bound("like at the end", NONE, BoundArgumentsTest::full, (x, a) -> x.like(0, a[0], 0), 9993)
                .takes(0, 9993, 9999).refuses(0, 9999);
    }

    private static int thirteenthsOf(int from, int to, int week) {
        int found = 0;
        for (LocalDate date = dateOf(from, 1, 13); date.getYear() <= to; date = date.plusMonths(1)) {
            found += date.getDayOfWeek().getValue() - 1 == week ? 1 : 0;
        }
        return found;
    }

    private static void thirteenths() {
        Due.part("promise 29, arguments");
        Bound.Call call = (x, a) -> x.thirteenths(a[0], a[1], a[2], a[3]);
        new Bound("thirteenths", NONE, BoundArgumentsTest::full, call, 0, 1998, 1998, 4)
                .from(1, 1, thirteenthsOf(1, 1998, 4), 1998, 3)
                .from(2, 1998, 3, 9999, thirteenthsOf(1998, 9999, 4))
                .from(3, 0, thirteenthsOf(1998, 1998, 0), 6, thirteenthsOf(1998, 1998, 6));
        new Bound("thirteenths", NONE, BoundArgumentsTest::full, call, 0, 1998, 1998, 4)
                .from(0, 0, 3, 1, julianThirteenths(1998, 4));
    }

    /** The second calendar lags 13 days behind in 1998. */
    private static int julianThirteenths(int year, int week) {
        int found = 0;
        for (int m = 1; m <= 12; m++) {
            found += dateOf(year, m, 13).plusDays(13).getDayOfWeek().getValue() - 1 == week ? 1 : 0;
        }
        return found;
    }

    private static void birth() {
        Due.part("promises 31, 32, arguments");
        new Bound("born", 0, BoundArgumentsTest::full, (x, a) -> x.born(a[0], a[1], a[2], a[3]) ? 1 : 0, 0, 2000, 1, 1)
                .from(0, 0, 1, 1, 1)
                .from(1, 1, 1, 9999, 1)
                .from(2, 1, 1, 12, 1)
                .from(3, 1, 1, 31, 1);
        Bound.Call age = (x, a) -> x.age(a[0], a[1], a[2], a[3]);
        new Bound("age", NONE, BoundArgumentsTest::full, age, 0, 1990, 6, 1)
                .from(0, 0, 0, 0, 0)
                .from(1, 1990, 0, 9999, 8009);
        new Bound("age", NONE, BoundArgumentsTest::full, age, 0, 1990, 5, 20)
                .from(2, 5, 0, 12, 0)
                .from(3, 17, 0, 31, 0);
        new Bound("age without a BIRTH", NONE, BoundArgumentsTest::heads, age, 0, 1990, 6, 1)
                .refuses(1, 1990, 9999);
    }

    private static void events() {
        Due.part("promises 33 to 35, arguments");
        new Bound("event", NONE, BoundArgumentsTest::full,
                (x, a) -> x.event(a[0], a[1], a[2], a[3], a[4]), 0, 2000, 1, 1, 0)
                .from(0, 0, 3, 1, 3)
                .from(1, 1, 3, 9999, 3)
                .from(2, 1, 3, 12, 3)
                .from(3, 1, 3, 31, 3)
                .from(4, 0, 3, 3, 3);
        new Bound("held", NONE, BoundArgumentsTest::full, (x, a) -> x.held(a[0], a[1], a[2], a[3]), 0, 2000, 10, 1)
                .from(0, 0, 9, 1, 0)
                .from(1, 1, 0, 9999, 0)
                .from(2, 1, 0, 12, 0)
                .from(3, 1, 9, 31, 0);
        new Bound("spell", NONE, BoundArgumentsTest::full, (x, a) -> x.spell(a[0]), 0).from(0, 0, 1, 3, 1);
    }

    private static void row() {
        Due.part("promise 38, arguments");
        // 2001 began on a Monday; the third head does not get there
        new Bound("row", NONE, BoundArgumentsTest::full, (x, a) -> x.row(a[0], a[1], a[2]), 0, 0, 2)
                .from(0, 0, 0, 2, 7)
                .from(1, 0, 0, 1, (0 + 13) % 7)
                .from(2, 0, 5, 2, 0);
        new Bound("row without a ROW", NONE, BoundArgumentsTest::heads, (x, a) -> x.row(0, 0, a[0]), 0)
                .refuses(0, -1, 0, 1);
    }

    private static void run() {
        Due.part("promise 39, arguments");
        new Bound("run", NONE, BoundArgumentsTest::full,
                (x, a) -> x.run(a[0], 77L, a[1], a[2], a[3]), 0, 0, 0, NONE)
                .from(0, 0, 6 + 7, 2, 2)
                .from(2, 0, 13, 99, 13)
                .from(3, NONE, 13, 1, 7).takes(3, 0, 6);
        int first = draw(77L, 1, 100);
        int second = draw(77L, 2, 100);
        new Bound("run", NONE, BoundArgumentsTest::full,
                (x, a) -> x.run(a[0], 77L, a[1], a[2], a[3]), 0, 0, 0, NONE)
                .from(1, 0, 13, 99, 13 + first + second);
    }

    private static int draw(long seed, int number, int bound) {
        long x = seed;
        for (int i = 0; i < number; i++) {
            x = 6364136223846793005L * x + 1442695040888963407L;
        }
        return (int) Long.remainderUnsigned(x >>> 33, bound);
    }

    private static void holds() {
        Due.part("promise 40, arguments");
        Bound.Call call = (x, a) -> x.holds(a[0], a[1], a[2], a[3], a[4], a[5]);
        // October began as January in the common years of 2001 to 2003
        new Bound("holds of months", NONE, BoundArgumentsTest::full, call, 1, 0, 1, 1, 2001, 2003)
                .takes(0, 1, 3).refuses(0, -1, 3, LEAST, MOST)
                .from(1, 0, 3, 1, 3)
                .from(3, 0, 0, 2, 0)
                .from(4, 1, commons(1, 2003), 2003, 1)
                .from(5, 2001, 1, 9999, commons(2001, 9999));
        new Bound("holds of months of the first and last head", NONE, BoundArgumentsTest::full, call, 0, 0, 1, 0, 2001, 2003)
                .from(0, 0, 3, 2, 3);
        new Bound("holds of either", NONE, BoundArgumentsTest::full, call, 1, 0, 0, 0, 2001, 2003)
                .from(2, 0, 0, 1, 0);
        // 2000 and 2004 are not alike, nor are others four years apart
        new Bound("holds of a STEP", NONE, BoundArgumentsTest::full, call, 2, 0, 0, 0, 2000, 2010)
                .from(3, 0, 0, 0, 0)
                .refuses(0, 0);
    }

    private static int commons(int from, int to) {
        int found = 0;
        for (int y = from; y <= to; y++) {
            found += dateOf(y, 1, 1).isLeapYear() ? 0 : 1;
        }
        return found;
    }

    private static void rightAndLacks() {
        Due.part("promises 41, 42, arguments");
        new Bound("right", NONE, BoundArgumentsTest::full, (x, a) -> x.right(a[0], a[1], a[2], a[3]), 0, 0, 2000, 0)
                .from(0, 0, 31, 2, 31)
                .from(1, 0, 31, 1, 31)
                .from(2, 1, 62, 9999, 62)
                .from(3, 0, 31, 1, 31);
        Bound.Call lacks = (x, a) -> x.lacks(a[0], a[1], a[2], a[3]);
        new Bound("lacks", NONE, BoundArgumentsTest::full, lacks, 2, 2000, 2003, 0)
                .from(0, 0, 0, 2, 3)
                .from(1, 1, 2003 - 500, 2003, 1)
                .from(2, 2000, 0, 9999, 8000 - 2000)
                .from(3, 0, 3, 3, 4095 - 1 - 512).takes(3, 1, 2000).takes(3, 2, 0);
        // all are GAPS: no DEAR one, and no COSTS
        new Bound("lacks, DEAR", NONE, BoundArgumentsTest::full, lacks, 2, 2001, 2004, 1)
                .takes(2, 2004, 2004).refuses(2, 2003, 2001);
        new Bound("lacks, COSTS", NONE, BoundArgumentsTest::full, lacks, 2, 2001, 2004, 2)
                .takes(2, 2004, 7).refuses(2, 2003, 2001);
        new Bound("LACKS do not ask for years", NONE, BoundArgumentsTest::full, lacks, 2, 2, 1, 3)
                .takes(1, 0, 4095 - 1 - 512).takes(1, LEAST, 4095 - 1 - 512).takes(2, MOST, 4095 - 1 - 512)
                .refuses(0, -1, 3);
    }

    private static void unlikeAndRises() {
        Due.part("promises 44, 45, arguments");
        // the second calendar begins two DAYS sooner
        new Bound("unlike", NONE, BoundArgumentsTest::full, (x, a) -> x.unlike(a[0], a[1], a[2]), 0, 1, 0)
                .takes(0, 0, 5).refuses(0, -1, 1, 2, LEAST, MOST)
                .takes(1, 1, 5).refuses(1, -1, 0, 2, LEAST, MOST)
                .takes(2, 0, 5).takes(2, JULIAN_LAST, JULIAN_LAST)
                .refuses(2, -1, JULIAN_LAST + 1, 4000000, 4000001, LEAST, MOST);
        Bound.Call rises = (x, a) -> x.rises(a[0], a[1], a[2], a[3]);
        // to 2000 .. 2009 both get for nothing, farther the second head pays
        new Bound("rises", HIDDEN, BoundArgumentsTest::full, rises, 1, 0, 2009, 2011)
                .from(0, 0, 0, 2, 0)
                .from(1, 0, 2, 2, 0)
                .from(2, 1, 1999 + 2, 2011, 1)
                .from(3, 2009, 0, 9999, 7990);
    }

    private static void count() {
        Due.part("promise 46, arguments");
        new Bound("count", HIDDEN, BoundArgumentsTest::full, (x, a) -> x.count(a[0]), 0).from(0, 0, 2, 7, 3)
                .takes(0, 1, 3).takes(0, 2, 3).takes(0, 3, 2).takes(0, 4, 2).takes(0, 5, 5)
                .takes(0, 6, gregorian(1990, 5, 17));
    }
}
