import java.math.BigInteger;

/** The sentences that bound what heads do and what is asked of them, each on both sides. */
public final class BoundHeadsTest {
    private static final int NONE = DayBoy.NONE;
    private static final int HIDDEN = DayBoy.HIDDEN;
    /** The first of January of year 1 is a Monday, that of each year behind it a day later in the week. */
    private static final String PLAIN = "0:1-";

    public static void main(String[] args) {
        yearsOfRows();
        costsThenStepsThenLower();
        knownMonths();
        noWay();
        answerGoesRound();
        sevensAndRest();
        leapYears();
        slips();
        falseSteps();
        asksMost();
        askBounds();
        slack();
        offs();
        further();
        lived();
        after();
        learnt();
        weights();
        plansMost();
        parted();
        next();
        part();
        leastYears();
        leastSets();
        hums();
        runs();
        draws();
        holds();
        right();
        gaps();
        spare();
        rises();
        Due.end();
    }

    private static DayBoy with(String... heads) {
        DayBoy x = Due.with(PLAIN);
        for (String head : heads) {
            Due.head(x, head);
        }
        return x;
    }

    private static void row(DayBoy x, int head, int y, int m, int what, int... due) {
        String call = "way(" + head + ", 0, " + y + ", " + m + ", 1, " + what + ", ";
        Due.is(call + "-2)", x.way(head, 0, y, m, 1, what, -2), NONE);
        Due.is(call + "-1)", x.way(head, 0, y, m, 1, what, NONE), due.length - 1);
        for (int i = 0; i < due.length; i++) {
            Due.is(call + i + ")", x.way(head, 0, y, m, 1, what, i), due[i]);
        }
        Due.is(call + due.length + ")", x.way(head, 0, y, m, 1, what, due.length), NONE);
    }

    private static void yearsOfRows() {
        Due.part("each next one N of a STEP more or less (1 .. 9,999)");
        // -1 would be lower than 4, and is no year
        DayBoy x = with("k2-2,y3:1,y2:1", "k1-1,y400:0", "k1-1,y1:99", "k9999-9999,y1:99");
        row(x, 0, 1, 1, 0, 1, 4, 2);
        row(x, 0, 2, 1, 0, 2);
        row(x, 0, 9, 1, 0, 9, 6, 4, 2);
        row(x, 1, 401, 1, 0, 401, 1);
        Due.is("400 off", x.way(1, 0, 400, 1, 1, 0, NONE), NONE);
        Due.is("the highest year there is", x.way(1, 0, 9601, 1, 1, 0, NONE), 24);
        Due.is("all years down", x.way(2, 0, 9999, 1, 1, 0, NONE), 9998);
        Due.is("the last of them", x.way(2, 0, 9999, 1, 1, 0, 9998), 1);
        Due.is("none behind", x.way(2, 0, 9999, 1, 1, 0, 9999), NONE);
        Due.is("their COSTS", x.answers(2, 0, 9999, 1, 1, 1), 9998 * 99);
        Due.is("all years up", x.way(3, 0, 1, 1, 1, 0, NONE), 9998);
        Due.is("the last of them", x.way(3, 0, 1, 1, 1, 0, 9998), 9999);
        Due.is("their COSTS", x.answers(3, 0, 1, 1, 1, 1), 9998 * 99);
        x = with("k9998-9998,y3:1,y2:1", "k5-5,y5:1", "k9990-9990,y10:1");
        row(x, 0, 9999, 1, 0, 9999, 9996, 9998);
        row(x, 1, 10, 1, 0, 10, 5);
        Due.is("no year 0", x.lacks(1, 1, 9, 0), 8);
        Due.is("no year 10,000", x.lacks(2, 9991, 9999, 0), 9);
    }

    private static void costsThenStepsThenLower() {
        Due.part("the least COSTS together, the fewest STEPS, the lower year where two first differ");
        DayBoy x = with("k10-10,y1:0,y2:1", "k10-10,y1:1,y2:2", "k10-10,y1:1,y2:3", "k10-10,k14-14,y1:1",
                "k10-10,k14-14,y2:1", "k10-10,k16-16,y1:1,y2:1");
        row(x, 0, 12, 1, 0, 12, 11, 10);
        row(x, 1, 12, 1, 0, 12, 10);
        row(x, 2, 12, 1, 0, 12, 11, 10);
        row(x, 3, 12, 1, 0, 12, 11, 10);
        row(x, 4, 12, 1, 0, 12, 10);
        row(x, 5, 13, 1, 0, 13, 11, 10);
        row(x, 3, 13, 1, 0, 13, 14);
        x = with("k10-10,y1:1,m5=4:0,m4=1:0,m5=1:1", "k10-10,y1:1,m5=4:1,m4=1:1,m5=1:2", "k10-10,m5=4:1,m4=2:1,m4=3:1,o2,o3",
                "k10-10,m5=4:1,m5=3:1,o3,o4", "k10-10,m5=4:2,m5=4:1,m4=5:3,o4");
        row(x, 0, 10, 5, 1, 5, 4, 1);
        row(x, 1, 10, 5, 1, 5, 1);
        row(x, 2, 10, 5, 1, 5, 4, 2);
        row(x, 3, 10, 5, 1, 5, 3);
        row(x, 4, 10, 5, 1, 5, 4);
        Due.is("the lesser of three costs", x.answers(4, 0, 10, 5, 1, 1), 1);
    }

    private static void knownMonths() {
        Due.part("a known one (1, if none is told by o) by months alike, either way");
        DayBoy x = with("k1-1,m2=1:1", "k1-1,m1=2:1", "k1-1,m2=1:1,o2", "k1-1,m12=2:1,o12", "k1-1,o1,m1=2:1");
        row(x, 0, 1, 1, 1, 1);
        row(x, 0, 1, 2, 1, 2, 1);
        row(x, 1, 1, 2, 1, 2, 1);
        row(x, 2, 1, 1, 1, 1, 2);
        row(x, 2, 1, 2, 1, 2);
        row(x, 3, 1, 12, 1, 12);
        row(x, 3, 1, 2, 1, 2, 12);
        Due.is("1 is not known then", x.way(3, 0, 1, 1, 1, 1, NONE), NONE);
        row(x, 4, 1, 2, 1, 2, 1);
        int[] lacked = {4095 - 3, 4095 - 3, 4095 - 3, 4095 - 2048 - 2, 4095 - 3};
        for (int head = 0; head < lacked.length; head++) {
            Due.is("LACKS of " + head, x.lacks(head, 1, 1, 3), lacked[head]);
        }
    }

    private static void hasWay(DayBoy x, int head, int calendar, int m, boolean due) {
        String what = "head " + head + " by calendar " + calendar + ", month " + m;
        Due.is(what + ": STEPS", x.way(head, calendar, 2, m, 20, 0, NONE), due ? 0 : NONE);
        Due.is(what + ": months", x.way(head, calendar, 2, m, 20, 1, 0), due ? m : NONE);
        for (int i = 0; i <= 3; i++) {
            Due.is(what + ": answers " + i, x.answers(head, calendar, 2, m, 20, i) == HIDDEN ? 0 : 1, due ? 1 : 0);
        }
    }

    private static void noWay() {
        Due.part("no WAY, if there is no such row, or the first of the known month in the known year is no date");
        DayBoy x = Due.with("0:1-@1.12.31-0:1-", "0:1-@1.12.31-1:1-", "0:1-@2.1.1-1:1-", "0:1-@2.1.31-1:1-");
        Due.head(x, "k2-2,m2=1:1");
        Due.head(x, "k2-2,m1=2:1,o2");
        boolean[][] due = {{true, true}, {false, true}, {true, true}, {true, false}};
        for (int calendar = 0; calendar < 4; calendar++) {
            for (int head = 0; head < 2; head++) {
                hasWay(x, head, calendar, 1, due[calendar][head]);
                hasWay(x, head, calendar, 2, due[calendar][head]);
                hasWay(x, head, calendar, 3, false);
            }
        }
        Due.head(x, "k1-1");
        hasWay(x, 2, 0, 1, false);
        Due.head(x, "s1");
        hasWay(x, 3, 0, 1, false);
        Due.head(x, "k2-2");
        hasWay(x, 4, 0, 1, true);
        Due.is("a date that is left out", x.way(4, 2, 2, 1, 2, 0, NONE), NONE);
        Due.is("the date behind it", x.way(4, 2, 2, 1, 3, 0, NONE), 0);
    }

    private static void answerGoesRound() {
        Due.part("ANSWER: the day of the WEEK of that first, and as many days on as the date's day less 1");
        DayBoy x = Due.with("6:1-");
        Due.head(x, "k1-1");
        for (int d = 1; d <= 31; d++) {
            Due.is("ANSWER of " + d, x.answers(0, 0, 1, 1, d, 0), (6 + d - 1) % 7);
            Due.is("SLIP of " + d, x.answers(0, 0, 1, 1, d, 2), 0);
        }
        Due.is("ANSWER of 32", x.answers(0, 0, 1, 1, 32, 0), HIDDEN);
    }

    private static void sevensAndRest() {
        Due.part("TENTHS: b, all COSTS, s for each seven days of these, r for each day left over");
        DayBoy x = with("k1-1,s10,r1", "k1-1,s10", "k1-1,r1", "k1-1,b99,s99,r99,y1:99,m2=1:99");
        int[][] due = {{1, 0, 0}, {2, 0, 1}, {7, 0, 6}, {8, 1, 0}, {14, 1, 6}, {15, 2, 0}, {21, 2, 6}, {22, 3, 0},
            {28, 3, 6}, {29, 4, 0}, {30, 4, 1}, {31, 4, 2}};
        for (int[] d : due) {
            Due.is("TENTHS of " + d[0], x.answers(0, 0, 1, 1, d[0], 1), 10 * d[1] + d[2]);
            Due.is("sevens of " + d[0], x.answers(1, 0, 1, 1, d[0], 1), 10 * d[1]);
            Due.is("left over of " + d[0], x.answers(2, 0, 1, 1, d[0], 1), d[2]);
            Due.is("all of " + d[0], x.answers(3, 0, 1, 1, d[0], 1), 99 + 99 * d[1] + 99 * d[2]);
        }
        Due.is("with a year and a month", x.answers(3, 0, 2, 2, 28, 1), 99 + 99 + 99 + 99 * 3 + 99 * 6);
    }

    private static void leapYears() {
        Due.part("l if the known year has a 29 February (a date there)");
        DayBoy x = Due.with("0:4+", "0:4+@4.2.28-0:4+", "0:4+@4.2.28-1:4+", "0:4+@3.2.28-0:1-");
        Due.head(x, "k4-5,y1:0,l7");
        int[][] due = {{7, 0, 7, 0}, {7, 0, 7, 0}, {0, 0, 0, 0}, {0, 0, 0, 0}};
        for (int calendar = 0; calendar < 4; calendar++) {
            int[] years = {4, 5, 3, 8};
            for (int i = 0; i < 4; i++) {
                String call = "TENTHS of the year " + years[i] + " by " + calendar;
                Due.is(call, x.answers(0, calendar, years[i], 1, 1, 1), due[calendar][i]);
            }
        }
    }

    private static void slips() {
        Due.part("SLIP: the ANSWER less the true day (-3 .. 3)");
        DayBoy x = with("k1-1,y1:0", "k9999-9999,y1:0");
        int[] due = {0, -1, -2, -3, 3, 2, 1, 0, -1};
        for (int on = 0; on < due.length; on++) {
            Due.is("SLIP of the year " + (1 + on), x.answers(0, 0, 1 + on, 1, 5, 2), due[on]);
            Due.is("SLIP of the year " + (9999 - on), x.answers(1, 0, 9999 - on, 1, 5, 2), -due[on]);
        }
    }

    private static void falseSteps() {
        Due.part("FALSE: the first STEP, of years, then of months, of which both are not alike");
        DayBoy x = with("k1-1,y7:1,y1:9,m10=1:1,m3=1:1,m11=3:1");
        int[][] due = {{1, 1, NONE}, {15, 1, NONE}, {9, 1, 1}, {16, 1, 2}, {2, 1, 0}, {15, 10, NONE}, {15, 3, 2},
            {1, 3, 0}, {1, 10, NONE}, {1, 11, 1}, {8, 11, 2}, {9, 11, 1}};
        for (int[] d : due) {
            Due.is("FALSE of " + d[0] + "." + d[1], x.answers(0, 0, d[0], d[1], 1, 3), d[2]);
        }
        Due.part("FALSE: NONE is like none; firsts in the known year are no dates or on unlike days");
        // the first years of the second have lost a date each, the third lacks 1 November and 1 December
        x = Due.with(PLAIN, "0:1-@1.6.1-1:1-@8.6.1-1:1-", "0:1-@1.10.31-30:1-@1.12.1-1:1-", "0:1-@1.10.31-1:1-");
        Due.head(x, "k1-1,y7:1,m11=1:1,m12=11:1,o1");
        Due.is("both have a KIND", x.answers(0, 0, 8, 1, 1, 3), NONE);
        Due.is("both have none", x.answers(0, 1, 8, 1, 1, 3), 0);
        Due.is("one has none", x.answers(0, 1, 15, 1, 1, 3), 0);
        Due.is("November's first is no date", x.answers(0, 3, 1, 11, 2, 3), 0);
        Due.is("nor is it for December's", x.answers(0, 3, 1, 12, 2, 3), 0);
        Due.is("November's is on another day", x.answers(0, 0, 1, 11, 2, 3), 0);
        Due.is("November's is no date by the third either", x.answers(0, 2, 1, 12, 1, 3), 0);
        Due.is("the ANSWER is told all the same", x.answers(0, 3, 1, 11, 2, 0), 1);
    }

    private static void asksMost() {
        Due.part("ASKS (60 at most)");
        DayBoy x = with("k1-1");
        for (int i = 0; i < 59; i++) {
            Due.is("ask " + i, x.ask(0, 0, 1, 1, 1, 0, 0), i);
        }
        Due.is("asked(59, 0)", x.asked(59, 0), HIDDEN);
        Due.is("the sixtieth", x.ask(7, 0, 1, 1, 1, 0, 0), 59);
        Due.is("asked(59, 0)", x.asked(59, 0), 7);
        Due.is("one too many", x.ask(7, 0, 1, 1, 1, 0, 0), NONE);
        Due.is("asked(60, 0)", x.asked(60, 0), HIDDEN);
        Due.is("count(2)", x.count(2), 60);
        Due.is("SO with all", x.so(0, 0), 60);
        Due.is("FITS", x.fits(0), 1);
    }

    private static void askBounds() {
        Due.part("MONTH (0 .. 999, none below the one before), ANSWER (0 .. 6), TENTHS (0 .. 9,999)");
        DayBoy x = with("k1-1");
        Due.is("MONTH -1", x.ask(-1, 0, 1, 1, 1, 0, 0), NONE);
        Due.is("MONTH 1,000", x.ask(1000, 0, 1, 1, 1, 0, 0), NONE);
        Due.is("MONTH 0", x.ask(0, 0, 1, 1, 1, 0, 0), 0);
        Due.is("MONTH 500", x.ask(500, 0, 1, 1, 1, 0, 0), 1);
        DayBoy y = with("k1-1");
        Due.is("the first", y.ask(1, 0, 1, 1, 1, 0, 0), 0);
        Due.is("below the first", y.ask(0, 0, 1, 1, 1, 0, 0), NONE);
        Due.is("not below it", y.ask(1, 0, 1, 1, 1, 0, 0), 1);
        Due.is("MONTH 499", x.ask(499, 0, 1, 1, 1, 0, 0), NONE);
        Due.is("MONTH 500 again", x.ask(500, 0, 1, 1, 1, 0, 0), 2);
        Due.is("ANSWER -1", x.ask(501, 0, 1, 1, 1, -1, 0), NONE);
        Due.is("ANSWER 7", x.ask(501, 0, 1, 1, 1, 7, 0), NONE);
        Due.is("TENTHS -1", x.ask(501, 0, 1, 1, 1, 0, -1), NONE);
        Due.is("TENTHS 10,000", x.ask(501, 0, 1, 1, 1, 0, 10000), NONE);
        Due.is("what is refused is not the one before", x.ask(500, 0, 1, 1, 1, 6, 9999), 3);
        Due.is("MONTH 999", x.ask(999, 0, 1, 1, 1, 0, 0), 4);
        Due.is("MONTH 998", x.ask(998, 0, 1, 1, 1, 0, 0), NONE);
        Due.is("its ANSWER", x.asked(3, 3), 6);
        Due.is("its TENTHS", x.asked(3, 4), 9999);
        Due.is("count(2)", x.count(2), 5);
    }

    private static void slack() {
        Due.part("SO: a WAY, the same ANSWER and TENTHS by so much off at most (SLACK, 0 .. 999)");
        DayBoy x = with("k1-1,b50");
        x.ask(0, 0, 1, 1, 1, 0, 50);
        x.ask(0, 0, 1, 1, 1, 0, 51);
        x.ask(0, 0, 1, 1, 1, 0, 49);
        x.ask(0, 0, 1, 1, 1, 0, 0);
        x.ask(0, 0, 1, 1, 1, 0, 1049);
        x.ask(0, 0, 1, 1, 1, 0, 1050);
        x.ask(0, 0, 1, 1, 1, 1, 50);
        x.ask(0, 0, 1, 1, 1, 6, 50);
        x.ask(0, 0, 2, 1, 1, 1, 50);
        int[][] due = {{-1, NONE}, {0, 1}, {1, 3}, {49, 3}, {50, 4}, {998, 4}, {999, 5}, {1000, NONE}};
        for (int[] d : due) {
            Due.is("so(0, " + d[0] + ")", x.so(0, d[0]), d[1]);
        }
        Due.part("FITS: SO with all; ODDS");
        DayBoy y = with("k1-1,b50", "k1-1,b51", "k2-2,b50");
        Due.is("fits(0) without ASKS", y.fits(0), 7);
        y.ask(0, 0, 1, 1, 1, 0, 50);
        int[][] fits = {{-1, NONE}, {0, 1}, {1, 3}, {999, 3}, {1000, NONE}};
        for (int[] d : fits) {
            Due.is("fits(" + d[0] + ")", y.fits(d[0]), d[1]);
            Due.is("odds(-1, " + d[0] + ")", y.odds(NONE, d[0]), d[1] < 0 ? NONE : Integer.bitCount(d[1]));
        }
        y.ask(0, 0, 1, 1, 1, 0, 1050);
        Due.is("all but one", y.fits(998), 0);
        Due.is("the second one is 999 off", y.fits(999), 2);
    }

    private static void offs() {
        Due.part("OFF of an ASK: its ANSWER less the true day (-3 .. 3)");
        DayBoy x = with("k1-1");
        int[] due = {0, 1, 2, 3, -3, -2, -1};
        for (int day = 0; day <= 6; day++) {
            for (int answer = 0; answer <= 6; answer++) {
                int ask = x.ask(0, 0, 1, 1, 1 + day, answer, 0);
                Due.is("OFF of " + answer + " on day " + day, x.asked(ask, 5), due[(answer - day + 7) % 7]);
            }
        }
    }

    private static void further() {
        Due.part("FURTHER: pairs of ASKS whose years are not as far from it (NOW, 1 .. 9,999)");
        DayBoy x = with("k1-1");
        Due.is("no pairs", x.further(5), 0);
        x.ask(0, 0, 1, 1, 1, 0, 5);
        Due.is("one ASK", x.further(5), 0);
        x.ask(0, 0, 9999, 1, 1, 0, 6);
        Due.is("NOW 0", x.further(0), HIDDEN);
        Due.is("NOW 1", x.further(1), 1);
        Due.is("NOW 4,999", x.further(4999), 1);
        Due.is("as far", x.further(5000), 0);
        Due.is("NOW 5,001", x.further(5001), -1);
        Due.is("NOW 9,999", x.further(9999), -1);
        Due.is("NOW 10,000", x.further(10000), HIDDEN);
        x.ask(0, 0, 9999, 12, 31, 0, 99);
        Due.is("one year", x.further(9999), -2);
        x.ask(0, 0, 5000, 1, 1, 0, 6);
        Due.is("as long counts for none", x.further(5000), -1 + 0 + 1);
        DayBoy y = with("k1-1");
        for (int i = 0; i < 60; i++) {
            y.ask(0, 0, 1 + i, 1, 1, 0, i);
        }
        Due.is("all pairs", y.further(1), 60 * 59 / 2);
        Due.is("all pairs", y.further(9999), -60 * 59 / 2);
    }

    private static void lived() {
        Due.part("LIVED: the mean (cut) of ASKS of days from the BIRTH on; of those before; NONE: no such ASKS");
        DayBoy x = with("k1-1");
        x.ask(0, 0, 5, 5, 5, 0, 9999);
        Due.is("no BIRTH", x.lived(0), NONE);
        Due.is("no BIRTH", x.lived(1), NONE);
        x.born(0, 5, 5, 5);
        Due.is("the DAY itself", x.lived(0), 9999);
        Due.is("none before", x.lived(1), NONE);
        x.born(0, 5, 5, 6);
        Due.is("none from it on", x.lived(0), NONE);
        Due.is("the DAY before", x.lived(1), 9999);
        x.ask(0, 0, 5, 5, 5, 0, 9998);
        Due.is("cut", x.lived(1), 9998);
        x.ask(0, 0, 9999, 12, 31, 0, 0);
        Due.is("0 is no NONE", x.lived(0), 0);
        x.ask(0, 0, 9999, 12, 31, 0, 1);
        Due.is("cut", x.lived(0), 0);
        Due.is("what -1", x.lived(-1), NONE);
        Due.is("what 2", x.lived(2), NONE);
        DayBoy y = with("k1-1");
        y.born(0, 1, 1, 1);
        for (int i = 0; i < 60; i++) {
            y.ask(0, 0, 1, 1, 1, 0, 9999);
        }
        Due.is("sixty of the most", y.lived(0), 9999);
    }

    private static void after() {
        Due.part("AFTER: whose YEAR has the KIND (not NONE) that the YEAR of the ASK ahead has; all others but the first");
        DayBoy x = Due.with(PLAIN, "1:1-@1.6.1-1:1-");
        Due.is("no ASKS", x.after(0), NONE);
        Due.is("no ASKS", x.after(1), NONE);
        x.ask(0, 0, 1, 1, 1, 0, 500);
        Due.is("the first", x.after(0), NONE);
        Due.is("the first", x.after(1), NONE);
        x.ask(0, 0, 1, 1, 1, 0, 3);
        Due.is("one year", x.after(0), 3);
        Due.is("no others", x.after(1), NONE);
        x.ask(0, 0, 8, 1, 1, 0, 6);
        Due.is("cut", x.after(0), 4);
        x.ask(0, 0, 9, 1, 1, 0, 8);
        Due.is("another KIND", x.after(1), 8);
        x.ask(0, 1, 1, 1, 1, 0, 9);
        x.ask(0, 1, 1, 1, 1, 0, 11);
        Due.is("one year without a KIND", x.after(1), 28 / 3);
        Due.is("is not like itself", x.after(0), 4);
        // 1.1.2 is DAY 365 by the second, which began a day later and lost one
        x.ask(0, 1, 2, 1, 1, 0, 0);
        x.ask(0, 0, 9, 1, 1, 0, 0);
        Due.is("each by its own CALENDAR", x.after(0), 9 / 3);
        Due.is("what -1", x.after(-1), NONE);
        Due.is("what 2", x.after(2), NONE);
    }

    private static void bothEnds(DayBoy x, int one, int other, int slack, int first, int last) {
        String call = "learnt(" + one + ", " + other + ", " + slack + ", ";
        Due.is(call + "0)", x.learnt(one, other, slack, 0), first);
        Due.is(call + "1)", x.learnt(one, other, slack, 1), last);
        Due.is(call + "-1)", x.learnt(one, other, slack, -1), NONE);
        Due.is(call + "2)", x.learnt(one, other, slack, 2), NONE);
    }

    private static void learnt() {
        Due.part("LEARNT: months t (0 .. 1,000): the one before t, the other from t on: the first, the last");
        DayBoy x = with("k1-1,b50", "k1-1,b10");
        bothEnds(x, 0, 1, 0, 0, 1000);
        x.ask(0, 0, 1, 1, 1, 0, 10);
        bothEnds(x, 0, 1, 0, 0, 0);
        bothEnds(x, 1, 0, 0, 1, 1000);
        bothEnds(x, 0, 0, 0, NONE, NONE);
        bothEnds(x, 1, 1, 0, 0, 1000);
        bothEnds(x, 0, 1, 39, 0, 0);
        bothEnds(x, 0, 1, 40, 0, 1000);
        x.ask(999, 0, 1, 1, 1, 0, 50);
        bothEnds(x, 1, 0, 0, 1, 999);
        bothEnds(x, 0, 1, 0, NONE, NONE);
        bothEnds(x, 1, 1, 0, NONE, NONE);
        bothEnds(x, 1, 1, 40, 0, 1000);
        DayBoy late = with("k1-1,b50", "k1-1,b10");
        late.ask(999, 0, 1, 1, 1, 0, 50);
        bothEnds(late, 0, 1, 0, 1000, 1000);
        bothEnds(late, 1, 0, 0, 0, 999);
        DayBoy one = with("k1-1,b50", "k1-1,b10");
        one.ask(5, 0, 1, 1, 1, 0, 50);
        one.ask(5, 0, 1, 1, 1, 0, 10);
        bothEnds(one, 0, 1, 0, NONE, NONE);
        bothEnds(one, 0, 1, 40, 0, 1000);
        DayBoy near = with("k1-1,b50", "k1-1,b10");
        near.ask(5, 0, 1, 1, 1, 0, 50);
        near.ask(6, 0, 1, 1, 1, 0, 10);
        bothEnds(near, 0, 1, 0, 6, 6);
    }

    private static void weights() {
        Due.part("its weight (1 .. 9; 1 at first), if it FITS; of all");
        DayBoy x = with("k1-1,b50", "k1-1,b10");
        Due.is("1 at first", x.odds(0, 0), 1);
        Due.is("of all", x.odds(NONE, 0), 2);
        Due.fails("weight 0", x.weigh(0, 0));
        Due.fails("weight 10", x.weigh(0, 10));
        Due.fails("head -1", x.weigh(-1, 5));
        Due.fails("head 2", x.weigh(2, 5));
        Due.is("still 1", x.odds(0, 0), 1);
        Due.holds("weight 9", x.weigh(0, 9));
        Due.is("9", x.odds(0, 0), 9);
        Due.is("the other's", x.odds(1, 0), 1);
        Due.is("of all", x.odds(NONE, 0), 10);
        Due.holds("weight 1", x.weigh(0, 1));
        Due.is("1", x.odds(0, 0), 1);
        x.weigh(0, 4);
        x.weigh(1, 7);
        x.ask(0, 0, 1, 1, 1, 0, 10);
        Due.is("it does not fit", x.odds(0, 39), 0);
        Due.is("the other's", x.odds(1, 39), 7);
        Due.is("of all that fit", x.odds(NONE, 39), 7);
        Due.is("it fits", x.odds(0, 40), 4);
        Due.is("of all", x.odds(NONE, 40), 11);
        Due.is("head -2", x.odds(-2, 40), NONE);
        Due.is("head 2", x.odds(2, 40), NONE);
        Due.is("no HEADS", new DayBoy().odds(0, 0), NONE);
    }

    private static void plansMost() {
        Due.part("PLANS (8 at most): dates");
        DayBoy x = with("k1-1");
        Due.is("no date", x.plan(0, 1, 2, 29), NONE);
        for (int i = 0; i < 7; i++) {
            Due.is("plan " + i, x.plan(0, 1, 1, 1), i);
        }
        Due.is("no eighth yet", x.parted(7, 1), NONE);
        Due.is("the eighth", x.plan(0, 1, 1, 2), 7);
        Due.is("it is there", x.parted(7, 1), 0);
        Due.is("a ninth", x.plan(0, 1, 1, 3), NONE);
        Due.is("no ninth", x.parted(8, 1), NONE);
        Due.is("count(3)", x.count(3), 8);
        Due.is("the eighth in a RUN", x.run(0, 0, 0, 0, 7), 0);
        Due.is("no ninth in a RUN", x.run(0, 0, 0, 0, 8), NONE);
    }

    private static void parted() {
        Due.part("PARTED of HEADS (bits): unlike ANSWER, or TENTHS, or of which one alone has a WAY");
        DayBoy x = with("k1-1", "k1-1", "k1-1,b1", "k2-2,y1:0", "k3-3", "k1-1", "k4-4", "k1-1");
        x.plan(0, 1, 1, 1);
        // alike: 0, 1, 5, 7; another TENTHS: 2; another ANSWER: 3; no WAY: 4, 6
        int[][] due = {{0, 0}, {1, 0}, {128, 0}, {3, 0}, {5, 1}, {9, 1}, {12, 1}, {17, 1}, {80, 0}, {129, 0},
            {255, 4 * 4 + 1 + 4}, {256, NONE}, {257, NONE}, {-1, NONE}};
        for (int[] d : due) {
            Due.is("parted(0, " + d[0] + ")", x.parted(0, d[0]), d[1]);
        }
        Due.is("plan -1", x.parted(-1, 3), NONE);
        Due.is("plan 1", x.parted(1, 3), NONE);
        DayBoy none = new DayBoy();
        Due.take(none, 0, PLAIN);
        none.plan(0, 1, 1, 1);
        Due.is("a HEAD that is not there", none.parted(0, 1), NONE);
    }

    private static void next() {
        Due.part("NEXT: the PLAN with most (of several the lowest); NONE: no PLANS, no such HEADS");
        DayBoy x = with("k1-9", "k1-8,b1", "k1-9,b1");
        Due.is("no PLANS", x.next(7), NONE);
        x.plan(0, 9, 1, 1);
        x.plan(0, 8, 1, 1);
        x.plan(0, 9, 1, 2);
        x.plan(0, 10, 1, 2);
        int[][] parted = {{3, 2, 3, 0}, {1, 1, 1, 0}, {1, 0, 1, 0}};
        int[] heads = {7, 3, 6};
        for (int plan = 0; plan < 4; plan++) {
            for (int i = 0; i < heads.length; i++) {
                Due.is("parted(" + plan + ", " + heads[i] + ")", x.parted(plan, heads[i]), parted[i][plan]);
            }
        }
        int[][] due = {{7, 0}, {3, 0}, {6, 0}, {1, 0}, {0, 0}, {-1, NONE}, {8, NONE}};
        for (int[] d : due) {
            Due.is("next(" + d[0] + ")", x.next(d[0]), d[1]);
        }
        DayBoy y = with("k1-9", "k1-8,b1", "k1-9,b1");
        y.plan(0, 10, 1, 1);
        y.plan(0, 8, 1, 1);
        y.plan(0, 9, 1, 1);
        Due.is("the last with most", y.next(7), 2);
        Due.is("the first of two with most", y.next(3), 1);
    }

    private static void part() {
        Due.part("PART: the first DAY of so many years (1 .. 20; those beyond 9,999 have none) from a year on");
        DayBoy x = with("k1-9999", "k1-99,k101-9999", "k1-9998", "k1-9999,s1", "k1-9999,m12=1:0,s1,b1");
        int first = 99 * 365;
        Due.is("that year", x.part(0, 1, 0, 100, 1), first);
        Due.is("the other way round", x.part(1, 0, 0, 100, 1), first);
        Due.is("the year behind it", x.part(0, 1, 0, 101, 20), NONE);
        Due.is("the twentieth", x.part(0, 1, 0, 81, 20), first);
        Due.is("of nineteen", x.part(0, 1, 0, 81, 19), NONE);
        Due.is("the twenty-first", x.part(0, 1, 0, 80, 20), NONE);
        Due.is("no years", x.part(0, 1, 0, 100, 0), NONE);
        Due.is("21 years", x.part(0, 1, 0, 100, 21), NONE);
        Due.is("the last year", x.part(0, 2, 0, 9999, 20), 9998 * 365);
        Due.is("the twentieth is the last year", x.part(0, 2, 0, 9980, 20), 9998 * 365);
        Due.is("some are beyond", x.part(0, 2, 0, 9990, 20), 9998 * 365);
        Due.is("not among these", x.part(0, 2, 0, 9989, 10), NONE);
        Due.is("all but one beyond, none parts", x.part(0, 1, 0, 9999, 20), NONE);
        Due.is("year 10,000", x.part(0, 2, 0, 10000, 1), NONE);
        Due.is("year 1", x.part(0, 3, 0, 1, 20), 7);
        Due.is("year 0", x.part(0, 3, 0, 0, 20), NONE);
        Due.is("year -1", x.part(0, 3, 0, -1, 20), NONE);
        Due.is("the eighth of January", x.part(0, 3, 0, 1, 1), 7);
        Due.is("the first", x.part(3, 4, 0, 1, 1), 0);
        Due.is("a HEAD and itself", x.part(1, 1, 0, 100, 1), NONE);
        DayBoy y = with("k1-1,m12=1:0", "k1-1,m12=1:0,o1,o12");
        // December and January of the year 1 began on unlike days
        Due.is("the last month", y.part(0, 1, 0, 1, 1), 334);
        DayBoy z = Due.with("0:1-@1.12.31-30:1-");
        Due.head(z, "k1-1,y1:0");
        Due.head(z, "k1-1,y1:1");
        Due.is("the first DAY is that of 31 January", z.part(0, 1, 0, 2, 1), 365);
    }

    private static void least(DayBoy x, int head, int year, int years, int cost, int due) {
        String call = "least(" + head + ", " + year + ", " + years + ", " + cost + ", ";
        Due.is(call + "0)", x.least(head, year, years, cost, 0), due == NONE ? NONE : Integer.bitCount(due));
        Due.is(call + "1)", x.least(head, year, years, cost, 1), due);
        Due.is(call + "-1)", x.least(head, year, years, cost, -1), NONE);
        Due.is(call + "2)", x.least(head, year, years, cost, 2), NONE);
    }

    private static void leastYears() {
        Due.part("LEAST: of so many years (1 .. 14) from one on (the years to 9,999), COSTS (0 .. 999)");
        DayBoy x = with("k1-9999", "y1:1", "y1:0", "y13:99,y12:99");
        least(x, 0, 1, 0, 5, NONE);
        least(x, 0, 1, 1, 5, 1);
        least(x, 0, 1, 14, 5, (1 << 14) - 1);
        least(x, 0, 1, 15, 5, NONE);
        least(x, 0, 0, 1, 5, NONE);
        least(x, 0, 9999, 1, 5, 1);
        least(x, 0, 9999, 2, 5, NONE);
        least(x, 0, 10000, 1, 5, NONE);
        least(x, 0, 9986, 14, 5, (1 << 14) - 1);
        least(x, 0, 9987, 14, 5, NONE);
        least(x, 0, 9987, 13, 5, (1 << 13) - 1);
        least(x, 1, 9986, 14, 5, 1 + 256);
        least(x, 1, 1, 14, -1, NONE);
        least(x, 1, 1, 14, 0, (1 << 14) - 1);
        least(x, 1, 1, 14, 6, 1 + 128);
        least(x, 1, 1, 14, 7, 64);
        least(x, 1, 1, 14, 12, 2);
        least(x, 1, 1, 14, 13, 1);
        least(x, 1, 1, 14, 999, 1);
        least(x, 1, 1, 14, 1000, NONE);
        least(x, 2, 1, 14, 0, 1);
        // a step of 13 joins the ends alone; one of 12 the two ends to those next to them
        least(x, 3, 1, 14, 98, (1 << 14) - 1);
        least(x, 3, 1, 14, 99, (1 << 12) - 1);
        Due.is("head -1", x.least(-1, 1, 1, 5, 0), NONE);
        Due.is("head 4", x.least(4, 1, 1, 5, 0), NONE);
    }

    private static void leastSets() {
        Due.part("LEAST: the fewest; of several sets that with the lower year where two first differ");
        DayBoy x = with("y1:5", "y2:5", "y3:5", "y5:3,y3:4", "y400:1,y399:1");
        least(x, 0, 50, 2, 5, 1);
        least(x, 0, 50, 3, 5, 2);
        least(x, 0, 50, 4, 5, 1 + 4);
        least(x, 0, 50, 5, 5, 1 + 8);
        least(x, 0, 50, 6, 5, 2 + 16);
        least(x, 0, 50, 3, 4, 7);
        least(x, 1, 50, 4, 5, 1 + 2);
        least(x, 1, 50, 3, 5, 1 + 2);
        least(x, 1, 50, 6, 5, 4 + 8);
        least(x, 2, 50, 6, 5, 1 + 2 + 4);
        least(x, 2, 50, 7, 5, 8 + 2 + 4);
        // a year is a step of three there and of five back: 2 off for 7, 1 off for 11
        least(x, 3, 50, 2, 10, 3);
        least(x, 3, 50, 2, 11, 1);
        least(x, 3, 50, 3, 7, 1 + 2);
        // by years far outside
        least(x, 4, 5000, 2, 1, 3);
        least(x, 4, 5000, 2, 2, 1);
        least(x, 4, 1, 2, 2, 1);
        least(x, 4, 9998, 2, 2, 1);
    }

    private static void hums(DayBoy x, String row, int... due) {
        Due.is("text(2) of " + row, Due.take(x, 2, row), due.length);
        for (int i = 0; i < due.length; i++) {
            Due.is("row(0, 0, " + i + ") of " + row, x.row(0, 0, i), due[i]);
        }
        Due.is("row(0, 0, -1)", x.row(0, 0, -1), NONE);
        Due.is("row(0, 0, " + due.length + ")", x.row(0, 0, due.length), NONE);
    }

    private static void hums() {
        Due.part("it HUMS (7): at ?, without such a date, without a WAY; behind 3 HUMS it says no more (8)");
        DayBoy x = with("k1-1,m2=1:0");
        Due.is("no ROW", x.row(0, 0, 0), NONE);
        hums(x, "1.1.1", 0);
        hums(x, "?", 7);
        hums(x, "?;?;1.1.7;?;?;1.1.7", 7, 7, 6, 7, 7, 6);
        hums(x, "?;?;?;1.1.7", 7, 7, 7, 8);
        hums(x, "1.1.1;?;?;?;1.1.7;?;1.1.8", 0, 7, 7, 7, 8, 8, 8);
        hums(x, "?;1.1.1;?;?;1.1.1;?;?;?;1.1.1", 7, 0, 7, 7, 0, 7, 7, 7, 8);
        hums(x, "1.1.31;1.1.32;1.2.28;1.2.29;1.1.0", 2, 7, 6, 7, 7);
        hums(x, "0.1.1;1.1.1;1.0.1;1.1.1;1.13.1", 7, 0, 7, 0, 7);
        hums(x, "2.1.1;1.1.1;1.3.1;9999.12.31;9999.9999.9999;1.1.1", 7, 0, 7, 7, 7, 8);
        Due.is("head 1", x.row(1, 0, 0), NONE);
        Due.is("calendar 1", x.row(0, 1, 0), NONE);
    }

    private static void runs() {
        Due.part("RUN: less by EASE (0 at least then), if the year of the PLAN ahead has the same KIND (not NONE)");
        DayBoy x = Due.with(PLAIN, "0:1-@2.6.1-1:1-");
        Due.head(x, "k1-8,b40");
        Due.is("no PLANS", x.run(0, 5, 0, 0, 0), NONE);
        int[][] plans = {{0, 1}, {0, 1}, {0, 8}, {0, 2}, {1, 2}, {1, 2}, {1, 1}, {0, 1}};
        for (int[] plan : plans) {
            x.plan(plan[0], plan[1], 1, 1);
        }
        boolean[] eased = {false, true, true, false, false, false, false, true};
        for (int ease : new int[] {0, 1, 39, 40, 41, 99}) {
            int sum = 0;
            for (int i = 0; i < 8; i++) {
                int due = eased[i] ? Math.max(0, 40 - ease) : 40;
                sum += due;
                Due.is("run(0, 5, 0, " + ease + ", " + i + ")", x.run(0, 5, 0, ease, i), due);
            }
            Due.is("run(0, 5, 0, " + ease + ", -1)", x.run(0, 5, 0, ease, NONE), sum);
        }
        int[][] wrong = {{-1, 0, 0}, {100, 0, 0}, {0, -1, 0}, {0, 100, 0}, {0, 0, -2}, {0, 0, 8}};
        for (int[] w : wrong) {
            Due.is("run(0, 5, " + w[0] + ", " + w[1] + ", " + w[2] + ")", x.run(0, 5, w[0], w[1], w[2]), NONE);
        }
        Due.is("head -1", x.run(-1, 5, 0, 0, 0), NONE);
        Due.is("head 1", x.run(1, 5, 0, 0, 0), NONE);
    }

    private static int[] drawn(long seed, int jitter, int count) {
        BigInteger bound = BigInteger.TWO.pow(64);
        BigInteger x = BigInteger.valueOf(seed).mod(bound);
        int[] drawn = new int[count];
        for (int i = 0; i < count; i++) {
            x = x.multiply(new BigInteger("6364136223846793005")).add(new BigInteger("1442695040888963407")).mod(bound);
            drawn[i] = x.divide(BigInteger.TWO.pow(33)).mod(BigInteger.valueOf(jitter + 1L)).intValue();
        }
        return drawn;
    }

    private static void draws() {
        Due.part("A draw (64 bits, going round; shifted right by 33, without sign) modulo JITTER and 1; no WAY, no draw");
        DayBoy x = with("k1-1,b1", "k2-2");
        int[] years = {1, 2, 1, 1, 2, 2, 1, 1};
        for (int y : years) {
            x.plan(0, y, 1, 1);
        }
        for (long seed : new long[] {0, 1, -1, Long.MIN_VALUE, Long.MAX_VALUE, 1L << 33, -(1L << 33), 987654321987654321L}) {
            for (int jitter : new int[] {0, 1, 2, 9, 98, 99}) {
                int[] drawn = drawn(seed, jitter, 5);
                int sum = 0;
                int draw = 0;
                for (int i = 0; i < 8; i++) {
                    int due = years[i] == 1 ? 1 + drawn[draw++] : NONE;
                    sum += Math.max(due, 0);
                    String call = "run(0, " + seed + ", " + jitter + ", 0, ";
                    Due.is(call + i + ")", x.run(0, seed, jitter, 0, i), due);
                    Due.is(call + "-1)", x.run(0, seed, jitter, 0, NONE) - 5, java.util.Arrays.stream(drawn).sum());
                }
                Due.is("the sum", x.run(0, seed, jitter, 0, NONE), sum);
            }
        }
        Due.is("JITTER 0", x.run(0, -1, 0, 0, 0), 1);
        Due.is("behind the draw the EASE", x.run(0, 0, 99, 99, 3), Math.max(0, 1 + drawn(0, 99, 3)[2] - 99));
    }

    private static void holds() {
        Due.part("TRUE of a STEP: y and N no more than to, both have one KIND; of months alike: firsts; NONE: to below from");
        DayBoy x = Due.with(PLAIN, "0:1-@8.12.31-1:1-");
        Due.head(x, "y7:1,y400:1,y399:1,m10=1:1,m2=1:1");
        int[][] steps = {{0, 1, 7, 0}, {0, 1, 8, 1}, {0, 1, 9, 2}, {0, 9993, 9999, 0}, {0, 9992, 9999, 1},
            {0, 5, 5, 0}, {0, 1, 9999, 9992}, {1, 1, 9999, 0}, {2, 1, 400, 1}, {2, 1, 399, 0}, {2, 1, 9999, 9600},
            {3, 1, 9999, NONE}, {-1, 1, 9999, NONE}, {0, 2, 1, NONE}, {0, 0, 9, NONE}, {0, 1, 10000, NONE}};
        for (int[] s : steps) {
            String call = "holds(0, 0, 0, " + s[0] + ", " + s[1] + ", " + s[2] + ")";
            Due.is(call, x.holds(0, 0, 0, s[0], s[1], s[2]), s[3]);
        }
        int[][] months = {{0, 1, 1, 1}, {0, 1, 9999, 9999}, {1, 1, 9999, 0}, {2, 1, 1, NONE}, {-1, 1, 1, NONE},
            {0, 2, 1, NONE}, {0, 0, 1, NONE}, {0, 9999, 10000, NONE}};
        for (int[] s : months) {
            String call = "holds(0, 0, 1, " + s[0] + ", " + s[1] + ", " + s[2] + ")";
            Due.is(call, x.holds(0, 0, 1, s[0], s[1], s[2]), s[3]);
        }
        // the year 9 lacks its 1.1., and those behind it are a day sooner
        Due.is("year 9 has no KIND", x.holds(0, 1, 0, 0, 9, 16), 0);
        Due.is("nor has it behind the year 2", x.holds(0, 1, 0, 0, 2, 9), 0);
        Due.is("both are behind it", x.holds(0, 1, 0, 0, 10, 17), 1);
        Due.is("January's first is no date", x.holds(0, 1, 1, 0, 9, 9), 0);
        Due.is("those next to it", x.holds(0, 1, 1, 0, 8, 10), 2);
        Due.is("what -1", x.holds(0, 0, -1, 0, 1, 9), NONE);
        Due.is("what 2", x.holds(0, 0, 2, 0, 1, 9), NONE);
        Due.is("no months told", with("y7:1").holds(0, 0, 1, 0, 1, 9), NONE);
        Due.is("no STEPS told", with("k1-1").holds(0, 0, 0, 0, 1, 9), NONE);
    }

    private static void right() {
        Due.part("RIGHT: how many dates of a year are answered with SLIP 0; WRONG: with another");
        DayBoy x = Due.with("0:4+", "0:4+@4.6.10-1:4+", "0:4+@4.6.10-7:4+");
        String all = ",o1,o2,o3,o4,o5,o6,o7,o8,o9,o10,o11,o12";
        Due.head(x, "k1-9999" + all);
        Due.head(x, "s1");
        Due.head(x, "k4-4,y4:0,m12=1:0");
        int[][] due = {{0, 0, 1, 365, 0}, {0, 0, 4, 366, 0}, {0, 0, 9999, 365, 0}, {1, 0, 4, 0, 0}, {2, 0, 4, 31, 31},
            {2, 0, 5, 0, 0}, {2, 0, 8, 0, 62}, {2, 0, 32, 31, 31}, {0, 1, 4, 365 - 19, 19}, {0, 2, 4, 359, 0},
            {0, 0, 0, NONE, NONE}, {0, 0, 10000, NONE, NONE}, {-1, 0, 4, NONE, NONE}, {3, 0, 4, NONE, NONE},
            {0, -1, 4, NONE, NONE}, {0, 3, 4, NONE, NONE}};
        for (int[] d : due) {
            String call = "right(" + d[0] + ", " + d[1] + ", " + d[2] + ", ";
            Due.is(call + "0)", x.right(d[0], d[1], d[2], 0), d[3]);
            Due.is(call + "1)", x.right(d[0], d[1], d[2], 1), d[4]);
            Due.is(call + "-1)", x.right(d[0], d[1], d[2], -1), NONE);
            Due.is(call + "2)", x.right(d[0], d[1], d[2], 2), NONE);
        }
    }

    private static void lacks(DayBoy x, int from, int to, int gaps, int dear, int costs) {
        String call = "lacks(0, " + from + ", " + to + ", ";
        Due.is(call + "0)", x.lacks(0, from, to, 0), gaps);
        Due.is(call + "1)", x.lacks(0, from, to, 1), dear);
        Due.is(call + "2)", x.lacks(0, from, to, 2), costs);
        Due.is(call + "-1)", x.lacks(0, from, to, -1), NONE);
        Due.is(call + "4)", x.lacks(0, from, to, 4), NONE);
    }

    private static void gaps() {
        Due.part("GAPS: years from .. to; DEAR: the greatest COSTS (of several the lowest), and these; all are GAPS");
        DayBoy x = with("k10-10,k30-30,y4:5,y8:6");
        lacks(x, 10, 10, 0, 10, 0);
        lacks(x, 10, 13, 3, 10, 0);
        lacks(x, 10, 14, 3, 14, 5);
        lacks(x, 10, 17, 6, 14, 5);
        lacks(x, 10, 18, 6, 18, 6);
        lacks(x, 2, 18, 12, 2, 6);
        lacks(x, 3, 18, 12, 18, 6);
        lacks(x, 19, 22, 3, 22, 6);
        lacks(x, 19, 21, 3, NONE, NONE);
        lacks(x, 9999, 9999, 1, NONE, NONE);
        lacks(x, 9998, 9998, 0, 9998, 6 * 1246);
        lacks(x, 1, 9999, 7500 - 1, 9998, 6 * 1246);
        lacks(x, 9991, 9997, 6, 9994, 6 * 1245 + 5);
        lacks(x, 2, 1, NONE, NONE, NONE);
        lacks(x, 0, 1, NONE, NONE, NONE);
        lacks(x, 9999, 10000, NONE, NONE, NONE);
        Due.part("LACKS: months without a row, as bits (years are not asked)");
        x = with("k1-1", "o1,o2,o3,o4,o5,o6,o7,o8,o9,o10,o11,o12", "o12,m12=11:1", "m2=3:1");
        int[] due = {4095 - 1, 0, 4095 - 2048 - 1024, 4095 - 1};
        for (int head = 0; head < due.length; head++) {
            Due.is("LACKS of " + head, x.lacks(head, 1, 1, 3), due[head]);
            Due.is("LACKS of " + head + ", no years", x.lacks(head, 0, -1, 3), due[head]);
        }
        Due.is("head -1", x.lacks(-1, 1, 1, 3), NONE);
        Due.is("head 4", x.lacks(4, 1, 1, 3), NONE);
    }

    private static void spare() {
        Due.part("SPARE: HEADS that are not SO with so many ASKS (0 .. 60) at most");
        DayBoy x = with("k1-1", "k1-1,b5", "k2-2");
        Due.is("no ASKS", x.spare(0, 0), 7);
        for (int i = 0; i < 60; i++) {
            x.ask(0, 0, 1, 1, 1, 0, i < 59 ? 0 : 5);
        }
        int[][] due = {{0, 0, 0}, {0, 1, 1}, {0, 58, 1}, {0, 59, 3}, {0, 60, 7}, {5, 0, 3}, {4, 0, 0}, {5, 59, 3},
            {0, -1, NONE}, {0, 61, NONE}, {-1, 60, NONE}, {1000, 60, NONE}, {999, 60, 7}, {999, 59, 3}};
        for (int[] d : due) {
            Due.is("spare(" + d[0] + ", " + d[1] + ")", x.spare(d[0], d[1]), d[2]);
        }
        Due.is("no HEADS", new DayBoy().spare(0, 60), 0);
    }

    private static void rises() {
        Due.part("RISES: of years from .. to (both have rows) for less COSTS than the first, less for more");
        DayBoy x = with("k10-10,y1:2", "k10-10,k14-14,y1:2", "k10-10,k20-20", "s1", "k10-10,y1:99");
        int[][] due = {{0, 1, 10, 12, 0}, {0, 1, 10, 13, 1}, {0, 1, 13, 13, 1}, {1, 0, 13, 14, -2}, {0, 1, 1, 9999, 9987},
            {2, 0, 10, 20, -1}, {0, 2, 10, 20, 1}, {0, 2, 10, 19, 0}, {0, 2, 11, 20, 1}, {0, 3, 1, 9999, 0},
            {3, 3, 1, 9999, 0}, {4, 0, 1, 9999, 9998}, {0, 4, 1, 9999, -9998}, {0, 0, 1, 9999, 0},
            {0, 1, 13, 12, HIDDEN}, {0, 1, 0, 13, HIDDEN}, {0, 1, 13, 10000, HIDDEN}, {-1, 1, 1, 2, HIDDEN},
            {5, 1, 1, 2, HIDDEN}, {1, -1, 1, 2, HIDDEN}, {1, 5, 1, 2, HIDDEN}};
        for (int[] d : due) {
            String call = "rises(" + d[0] + ", " + d[1] + ", " + d[2] + ", " + d[3] + ")";
            Due.is(call, x.rises(d[0], d[1], d[2], d[3]), d[4]);
        }
    }
}
