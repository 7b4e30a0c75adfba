import java.util.Arrays;
import java.util.NoSuchElementException;

/** What day was it then: calendars, heads that work days out, and asks that they answered. */
public final class DayBoy {
    public static final int NONE = -1;
    public static final int HIDDEN = -1000;

    private static final int TAPE_MOST = 160;
    private static final int ALMANACS_MOST = 6;
    private static final int HEADS_MOST = 8;
    private static final int ASKS_MOST = 60;
    private static final int PLANS_MOST = 8;
    private static final int EVENTS_MOST = 30;
    private static final int THINGS_MOST = 80;
    private static final int LAST_YEAR = 9999;
    private static final int LAST_MONTH = 999;
    private static final int SLACK_MOST = 999;
    private static final int WINDOW_MOST = 14;
    private static final int HUM = 7;
    private static final int SILENCE = 8;
    private static final int HUMS_MOST = 3;
    private static final int NO_SUCH_SORT = -2;

    private static final int[] DAYS_AHEAD = {0, 0, 31, 59, 90, 120, 151, 181, 212, 243, 273, 304, 334};
    private static final int[] MONTH_LENGTHS = {0, 31, 28, 31, 30, 31, 30, 31, 31, 30, 31, 30, 31};

    private final int[] tape = new int[TAPE_MOST];
    private int tapeLength;
    private final Almanac[] almanacs = new Almanac[ALMANACS_MOST];
    private int almanacCount;
    private final Head[] heads = new Head[HEADS_MOST];
    private int headCount;
    private final Ask[] asks = new Ask[ASKS_MOST];
    private int askCount;
    private final Spot[] plans = new Spot[PLANS_MOST];
    private int planCount;
    private final int[] eventDays = new int[EVENTS_MOST];
    private final int[] eventSorts = new int[EVENTS_MOST];
    private int eventCount;
    private int keptAsks;
    private int keptEvents;
    private int[] things;
    private int thingCount;
    private Spot birth;
    private Heap heap;
    private Rows trial;

    public DayBoy() {
    }

    // ---- the tape and its texts ----

    public int feed(int a, int b, int c, int d, int e) {
        int more = signsIn(a) + signsIn(b) + signsIn(c) + signsIn(d) + signsIn(e);
        if (tapeLength + more > TAPE_MOST) {
            return NONE;
        }
        append(a);
        append(b);
        append(c);
        append(d);
        append(e);
        return tapeLength;
    }

    private static int signsIn(int word) {
        int signs = 0;
        for (int shift = 24; shift >= 0; shift -= 8) {
            if ((word >>> shift & 255) != 0) {
                signs++;
            }
        }
        return signs;
    }

    private void append(int word) {
        for (int shift = 24; shift >= 0; shift -= 8) {
            int sign = word >>> shift & 255;
            if (sign != 0 && tapeLength < TAPE_MOST) {
                tape[tapeLength] = sign;
                tapeLength++;
            }
        }
    }

    public boolean end(int n) {
        if (n < 0 || n > tapeLength) {
            return false;
        }
        tapeLength = n;
        return true;
    }

    public int fault(int sort) {
        Reader in = new Reader(tape, tapeLength);
        switch (sort) {
            case 0:
                Almanac.readFrom(in);
                return in.wrong;
            case 1:
                Head.readFrom(in);
                return in.wrong;
            case 2:
                readThings(in, new int[THINGS_MOST]);
                return in.wrong;
            default:
                return NO_SUCH_SORT;
        }
    }

    public int text(int sort) {
        switch (sort) {
            case 0:
                return takeAlmanac();
            case 1:
                return takeHead();
            case 2:
                return takeThings();
            default:
                return NONE;
        }
    }

    private int takeAlmanac() {
        if (almanacCount >= ALMANACS_MOST) {
            return NONE;
        }
        Reader in = new Reader(tape, tapeLength);
        Almanac almanac = Almanac.readFrom(in);
        if (!in.isRight()) {
            return NONE;
        }
        almanac.lay();
        almanacs[almanacCount] = almanac;
        almanacCount++;
        tapeLength = 0;
        return almanacCount - 1;
    }

    private int takeHead() {
        if (headCount >= HEADS_MOST) {
            return NONE;
        }
        Reader in = new Reader(tape, tapeLength);
        Head head = Head.readFrom(in);
        if (!in.isRight()) {
            return NONE;
        }
        if (heap == null) {
            heap = new Heap(LAST_YEAR + 1);
        }
        head.findRows(heap);
        heads[headCount] = head;
        headCount++;
        tapeLength = 0;
        return headCount - 1;
    }

    private int takeThings() {
        Reader in = new Reader(tape, tapeLength);
        int[] read = new int[THINGS_MOST];
        int count = readThings(in, read);
        if (!in.isRight()) {
            return NONE;
        }
        things = read;
        thingCount = count;
        tapeLength = 0;
        return thingCount;
    }

    /** Puts a date's key for each thing, 0 for what can be no date. */
    private static int readThings(Reader in, int[] read) {
        int count = 0;
        boolean more = true;
        while (more && count < read.length) {
            read[count] = readThing(in);
            count++;
            more = in.takes(';');
        }
        if (more) {
            in.refuse();
        }
        in.finish();
        return count;
    }

    private static int readThing(Reader in) {
        if (in.takes('?')) {
            return 0;
        }
        int y = in.number(0, LAST_YEAR);
        in.expect('.');
        int m = in.number(0, LAST_YEAR);
        in.expect('.');
        int d = in.number(0, LAST_YEAR);
        return isDatelike(y, m, d) ? keyOf(y, m, d) : 0;
    }

    // ---- calendars ----

    public int day(int calendar, int y, int m, int d) throws NoSuchElementException {
        int day = dayIn(calendar, y, m, d);
        if (day == NONE) {
            throw new NoSuchElementException();
        }
        return day;
    }

    public int date(int calendar, int day, int what) {
        Almanac almanac = almanacAt(calendar);
        if (almanac == null || what < 0 || what > 3) {
            return NONE;
        }
        int key = almanac.keyOn(day);
        if (key == NONE) {
            return NONE;
        }
        return what == 3 ? day % 7 : partOfKey(key, what);
    }

    public int turned(int calendar, int y, int m, int d, int other, int what) {
        Almanac almanac = almanacAt(other);
        int day = dayIn(calendar, y, m, d);
        if (almanac == null || day == NONE || what < 0 || what > 2) {
            return NONE;
        }
        int key = almanac.keyOn(day);
        return key == NONE ? NONE : partOfKey(key, what);
    }

    public int many(int calendar, int y, int m) {
        Almanac almanac = almanacAt(calendar);
        if (almanac == null || !isYear(y) || m < 0 || m > 12) {
            return NONE;
        }
        if (m > 0) {
            return almanac.datesIn(y, m);
        }
        int dates = 0;
        for (int month = 1; month <= 12; month++) {
            dates += almanac.datesIn(y, month);
        }
        return dates;
    }

    public int kind(int calendar, int y) {
        Almanac almanac = almanacAt(calendar);
        return almanac == null ? NONE : almanac.kindOf(y);
    }

    public int like(int calendar, int year, int i) {
        int kind = kind(calendar, year);
        Almanac almanac = almanacAt(calendar);
        if (almanac == null || kind == NONE || i < 0) {
            return NONE;
        }
        int left = i;
        for (int y = year + 1; y <= LAST_YEAR; y++) {
            if (almanac.kindOf(y) == kind) {
                if (left == 0) {
                    return y;
                }
                left--;
            }
        }
        return NONE;
    }

    public int thirteenths(int calendar, int from, int to, int week) {
        Almanac almanac = almanacAt(calendar);
        if (almanac == null || !areYears(from, to) || week < 0 || week > 6) {
            return NONE;
        }
        int found = 0;
        for (int y = from; y <= to; y++) {
            for (int m = 1; m <= 12; m++) {
                int day = almanac.dayOn(y, m, 13);
                if (day != NONE && day % 7 == week) {
                    found++;
                }
            }
        }
        return found;
    }

    public int mates(int calendar, int y, int m) {
        Almanac almanac = almanacAt(calendar);
        if (almanac == null || almanac.dayOn(y, m, 1) == NONE) {
            return NONE;
        }
        int bits = 0;
        for (int month = 1; month <= 12; month++) {
            if (almanac.areAlike(y, m, month)) {
                bits |= 1 << month - 1;
            }
        }
        return bits;
    }

    public int unlike(int one, int other, int day) {
        Almanac first = almanacAt(one);
        Almanac second = almanacAt(other);
        if (first == null || second == null || day < 0 || day > 4000000) {
            return NONE;
        }
        for (int on = day; on < day + 5000; on++) {
            if (first.keyOn(on) != second.keyOn(on)) {
                return on;
            }
        }
        return NONE;
    }

    private Almanac almanacAt(int calendar) {
        return calendar >= 0 && calendar < almanacCount ? almanacs[calendar] : null;
    }

    private int dayIn(int calendar, int y, int m, int d) {
        Almanac almanac = almanacAt(calendar);
        return almanac == null ? NONE : almanac.dayOn(y, m, d);
    }

    private Spot spotOn(int calendar, int y, int m, int d) {
        Almanac almanac = almanacAt(calendar);
        if (almanac == null) {
            return null;
        }
        int day = almanac.dayOn(y, m, d);
        return day == NONE ? null : new Spot(calendar, almanac, keyOf(y, m, d), day);
    }

    // ---- what heads do ----

    public int way(int head, int calendar, int y, int m, int d, int what, int i) {
        Head one = headAt(head);
        Almanac almanac = almanacAt(calendar);
        if (one == null || almanac == null || one.toldFor(almanac, y, m, d) == NONE) {
            return NONE;
        }
        switch (what) {
            case 0:
                return one.years.stepOf(y, i);
            case 1:
                return one.months.stepOf(m, i);
            default:
                return NONE;
        }
    }

    public int answers(int head, int calendar, int y, int m, int d, int what) {
        Head one = headAt(head);
        Almanac almanac = almanacAt(calendar);
        if (one == null || almanac == null) {
            return HIDDEN;
        }
        int told = one.toldFor(almanac, y, m, d);
        if (told == NONE) {
            return HIDDEN;
        }
        switch (what) {
            case 0:
                return told % 7;
            case 1:
                return told / 7;
            case 2:
                return offBy(told % 7, almanac.dayOn(y, m, d));
            case 3:
                return one.falseStep(almanac, y, m);
            default:
                return HIDDEN;
        }
    }

    public int part(int one, int other, int calendar, int year, int years) {
        Head first = headAt(one);
        Head second = headAt(other);
        Almanac almanac = almanacAt(calendar);
        if (first == null || second == null || almanac == null) {
            return NONE;
        }
        if (!isYear(year) || years < 1 || years > 20) {
            return NONE;
        }
        int last = Math.min(year + years - 1, LAST_YEAR);
        for (int y = year; y <= last; y++) {
            int day = partInYear(first, second, almanac, y);
            if (day != NONE) {
                return day;
            }
        }
        return NONE;
    }

    private static int partInYear(Head first, Head second, Almanac almanac, int y) {
        for (int m = 1; m <= 12; m++) {
            for (int d = 1; d <= 31; d++) {
                if (first.toldFor(almanac, y, m, d) != second.toldFor(almanac, y, m, d)) {
                    return almanac.dayOn(y, m, d);
                }
            }
        }
        return NONE;
    }

    public int least(int head, int year, int years, int cost, int what) {
        Head one = headAt(head);
        if (one == null || !isYear(year) || years < 1 || years > WINDOW_MOST || year + years - 1 > LAST_YEAR) {
            return NONE;
        }
        if (cost < 0 || cost > 999 || what < 0 || what > 1) {
            return NONE;
        }
        int set = fewestReaching(reachedFrom(one, year, years, cost));
        return what == 0 ? Integer.bitCount(set) : mirrorOf(set, years);
    }

    /**
     * For each year of the window, the last one first, those years of it that it has a row to, as bits:
     * bit 0 is the last one's, so that of two sets of one size that with the lower year is the greater number.
     */
    private int[] reachedFrom(Head head, int year, int years, int cost) {
        int[] reached = new int[years];
        if (heap == null) {
            return reached;
        }
        if (trial == null) {
            trial = new Rows(LAST_YEAR + 1);
        }
        int last = year + years - 1;
        for (int i = years - 1; i >= 0; i--) {
            reached[i] |= 1 << i;
            int highest = trial.reach(head.steps, heap, last - i, last, cost);
            for (int j = i - 1; j >= 0 && last - j <= highest; j--) {
                int costs = trial.costOf(last - j);
                if (costs != NONE && costs <= cost) {
                    reached[i] |= 1 << j;
                    reached[j] |= 1 << i;
                }
            }
        }
        return reached;
    }

    private static int fewestReaching(int[] reached) {
        int all = (1 << reached.length) - 1;
        int lone = loneOf(reached);
        int best = all;
        for (int set = all; set > 0; set--) {
            if ((set & lone) == lone && Integer.bitCount(set) < Integer.bitCount(best)
                    && unionOf(reached, set) == all) {
                best = set;
            }
        }
        return best;
    }

    /** Years that no other one reaches are in every set. */
    private static int loneOf(int[] reached) {
        int lone = 0;
        for (int i = 0; i < reached.length; i++) {
            if (reached[i] == 1 << i) {
                lone |= 1 << i;
            }
        }
        return lone;
    }

    private static int unionOf(int[] reached, int set) {
        int union = 0;
        for (int i = 0; i < reached.length; i++) {
            if ((set >> i & 1) == 1) {
                union |= reached[i];
            }
        }
        return union;
    }

    private static int mirrorOf(int bits, int width) {
        int mirrored = 0;
        for (int i = 0; i < width; i++) {
            mirrored = mirrored << 1 | bits >> i & 1;
        }
        return mirrored;
    }

    public int row(int head, int calendar, int i) {
        Head one = headAt(head);
        Almanac almanac = almanacAt(calendar);
        if (one == null || almanac == null || things == null || i < 0 || i >= thingCount || i >= things.length) {
            return NONE;
        }
        int hums = 0;
        int said = SILENCE;
        for (int at = 0; at <= i; at++) {
            if (hums >= HUMS_MOST) {
                return SILENCE;
            }
            said = one.saysTo(almanac, things[at]);
            hums = said == HUM ? hums + 1 : 0;
        }
        return said;
    }

    public int holds(int head, int calendar, int what, int k, int from, int to) {
        Head one = headAt(head);
        Almanac almanac = almanacAt(calendar);
        if (one == null || almanac == null || !areYears(from, to) || k < 0) {
            return NONE;
        }
        if (what == 0 && k < one.steps.size) {
            return one.trueSteps(almanac, k, from, to);
        }
        if (what == 1 && k < one.pairs.size) {
            return one.truePairs(almanac, k, from, to);
        }
        return NONE;
    }

    public int right(int head, int calendar, int y, int what) {
        Head one = headAt(head);
        Almanac almanac = almanacAt(calendar);
        if (one == null || almanac == null || !isYear(y) || what < 0 || what > 1) {
            return NONE;
        }
        int found = 0;
        for (int m = 1; m <= 12; m++) {
            for (int d = 1; d <= 31; d++) {
                int told = one.toldFor(almanac, y, m, d);
                if (told != NONE && (offBy(told % 7, almanac.dayOn(y, m, d)) == 0) == (what == 0)) {
                    found++;
                }
            }
        }
        return found;
    }

    public int lacks(int head, int from, int to, int what) {
        Head one = headAt(head);
        if (one == null || what < 0 || what > 3) {
            return NONE;
        }
        if (what == 3) {
            return one.monthsLacked();
        }
        if (!areYears(from, to)) {
            return NONE;
        }
        int gaps = 0;
        int dear = NONE;
        int most = NONE;
        for (int y = from; y <= to; y++) {
            int cost = one.years.costOf(y);
            if (cost == NONE) {
                gaps++;
            } else if (cost > most) {
                most = cost;
                dear = y;
            }
        }
        if (what == 0) {
            return gaps;
        }
        return what == 1 ? dear : most;
    }

    public int rises(int one, int other, int from, int to) {
        Head first = headAt(one);
        Head second = headAt(other);
        if (first == null || second == null || !areYears(from, to)) {
            return HIDDEN;
        }
        int balance = 0;
        for (int y = from; y <= to; y++) {
            int ahead = first.years.costOf(y);
            int behind = second.years.costOf(y);
            if (ahead != NONE && behind != NONE) {
                balance += Integer.compare(ahead, behind);
            }
        }
        return balance;
    }

    private Head headAt(int head) {
        return head >= 0 && head < headCount ? heads[head] : null;
    }

    // ---- asks ----

    public int ask(int month, int calendar, int y, int m, int d, int answer, int tenths) {
        if (askCount >= ASKS_MOST || month < 0 || month > LAST_MONTH) {
            return NONE;
        }
        if (answer < 0 || answer > 6 || tenths < 0 || tenths > 9999) {
            return NONE;
        }
        if (askCount > 0 && month < asks[askCount - 1].month) {
            return NONE;
        }
        Spot spot = spotOn(calendar, y, m, d);
        if (spot == null) {
            return NONE;
        }
        asks[askCount] = new Ask(month, spot, answer, tenths);
        askCount++;
        return askCount - 1;
    }

    public int asked(int ask, int what) {
        if (ask < 0 || ask >= askCount) {
            return HIDDEN;
        }
        Ask one = asks[ask];
        switch (what) {
            case 0:
                return one.month;
            case 1:
                return one.spot.calendar;
            case 2:
                return one.spot.day;
            case 3:
                return one.answer;
            case 4:
                return one.tenths;
            case 5:
                return offBy(one.answer, one.spot.day);
            default:
                return HIDDEN;
        }
    }

    public int fits(int slack) {
        return isSlack(slack) ? headsWrongAtMost(slack, 0) : NONE;
    }

    public int spare(int slack, int wrong) {
        if (!isSlack(slack) || wrong < 0 || wrong > ASKS_MOST) {
            return NONE;
        }
        return headsWrongAtMost(slack, wrong);
    }

    private int headsWrongAtMost(int slack, int wrong) {
        int bits = 0;
        for (int h = 0; h < headCount; h++) {
            if (askCount - soCount(heads[h], slack) <= wrong) {
                bits |= 1 << h;
            }
        }
        return bits;
    }

    public int so(int head, int slack) {
        Head one = headAt(head);
        return one == null || !isSlack(slack) ? NONE : soCount(one, slack);
    }

    private int soCount(Head head, int slack) {
        int found = 0;
        for (int a = 0; a < askCount; a++) {
            if (asks[a].isSoWith(head, slack)) {
                found++;
            }
        }
        return found;
    }

    public int further(int now) {
        if (!isYear(now)) {
            return HIDDEN;
        }
        int balance = 0;
        for (int a = 0; a < askCount; a++) {
            for (int b = a + 1; b < askCount; b++) {
                int farther = Integer.compare(asks[a].yearsFrom(now), asks[b].yearsFrom(now));
                balance += farther * Integer.compare(asks[a].tenths, asks[b].tenths);
            }
        }
        return balance;
    }

    public int lived(int what) {
        if (birth == null || what < 0 || what > 1) {
            return NONE;
        }
        int sum = 0;
        int found = 0;
        for (int a = 0; a < askCount; a++) {
            if ((asks[a].spot.day >= birth.day) == (what == 0)) {
                sum += asks[a].tenths;
                found++;
            }
        }
        return found == 0 ? NONE : sum / found;
    }

    public int after(int what) {
        if (what < 0 || what > 1) {
            return NONE;
        }
        int sum = 0;
        int found = 0;
        for (int a = 1; a < askCount; a++) {
            if (asks[a].spot.isLike(asks[a - 1].spot) == (what == 0)) {
                sum += asks[a].tenths;
                found++;
            }
        }
        return found == 0 ? NONE : sum / found;
    }

    public int learnt(int one, int other, int slack, int what) {
        Head first = headAt(one);
        Head second = headAt(other);
        if (first == null || second == null || !isSlack(slack) || what < 0 || what > 1) {
            return NONE;
        }
        int least = 0;
        int most = LAST_MONTH + 1;
        for (int a = 0; a < askCount; a++) {
            if (!asks[a].isSoWith(first, slack)) {
                most = Math.min(most, asks[a].month);
            }
            if (!asks[a].isSoWith(second, slack)) {
                least = Math.max(least, asks[a].month + 1);
            }
        }
        if (least > most) {
            return NONE;
        }
        return what == 0 ? least : most;
    }

    public boolean weigh(int head, int weight) {
        Head one = headAt(head);
        if (one == null || weight < 1 || weight > 9) {
            return false;
        }
        one.weight = weight;
        return true;
    }

    public int odds(int head, int slack) {
        if (!isSlack(slack) || head < NONE || head >= headCount) {
            return NONE;
        }
        int fitting = headsWrongAtMost(slack, 0);
        int sum = 0;
        for (int h = 0; h < headCount; h++) {
            if ((head == NONE || head == h) && (fitting >> h & 1) == 1) {
                sum += heads[h].weight;
            }
        }
        return sum;
    }

    // ---- plans ----

    public int plan(int calendar, int y, int m, int d) {
        Spot spot = planCount < PLANS_MOST ? spotOn(calendar, y, m, d) : null;
        if (spot == null) {
            return NONE;
        }
        plans[planCount] = spot;
        planCount++;
        return planCount - 1;
    }

    public int parted(int plan, int heads) {
        if (plan < 0 || plan >= planCount || !areHeads(heads)) {
            return NONE;
        }
        return pairsParted(plans[plan], heads);
    }

    public int next(int heads) {
        if (!areHeads(heads)) {
            return NONE;
        }
        int best = NONE;
        int most = NONE;
        for (int p = 0; p < planCount; p++) {
            int pairs = pairsParted(plans[p], heads);
            if (pairs > most) {
                most = pairs;
                best = p;
            }
        }
        return best;
    }

    private boolean areHeads(int bits) {
        return bits >= 0 && bits < 1 << headCount;
    }

    private int pairsParted(Spot plan, int bits) {
        int[] told = new int[headCount];
        int asked = 0;
        int pairs = 0;
        for (int h = 0; h < headCount; h++) {
            if ((bits >> h & 1) == 1) {
                told[asked] = heads[h].toldAt(plan);
                for (int ahead = 0; ahead < asked; ahead++) {
                    if (told[ahead] != told[asked]) {
                        pairs++;
                    }
                }
                asked++;
            }
        }
        return pairs;
    }

    public int run(int head, long seed, int jitter, int ease, int i) {
        Head one = headAt(head);
        if (one == null || jitter < 0 || jitter > 99 || ease < 0 || ease > 99 || i < NONE || i >= planCount) {
            return NONE;
        }
        long x = seed;
        int sum = 0;
        for (int p = 0; p < planCount; p++) {
            int tenths = NONE;
            int told = one.toldAt(plans[p]);
            if (told != NONE) {
                x = x * 6364136223846793005L + 1442695040888963407L;
                tenths = told / 7 + (int) ((x >>> 33) % (jitter + 1));
                if (p > 0 && plans[p].isLike(plans[p - 1])) {
                    tenths = Math.max(tenths - ease, 0);
                }
                sum += tenths;
            }
            if (p == i) {
                return tenths;
            }
        }
        return sum;
    }

    // ---- birth and events ----

    public boolean born(int calendar, int y, int m, int d) {
        Spot spot = spotOn(calendar, y, m, d);
        if (spot == null) {
            return false;
        }
        birth = spot;
        return true;
    }

    public int age(int calendar, int y, int m, int d) {
        int day = dayIn(calendar, y, m, d);
        if (birth == null || birth.calendar != calendar || day == NONE || day < birth.day) {
            return NONE;
        }
        int birthdays = 0;
        for (int year = birth.year + 1; year <= y; year++) {
            int birthday = birth.almanac.firstFrom(year, birth.month, birth.date);
            if (birthday != NONE && birthday <= day) {
                birthdays++;
            }
        }
        return birthdays;
    }

    public int event(int calendar, int y, int m, int d, int sort) {
        int day = dayIn(calendar, y, m, d);
        if (day == NONE || !isSort(sort) || eventCount >= EVENTS_MOST) {
            return NONE;
        }
        eventDays[eventCount] = day;
        eventSorts[eventCount] = sort;
        eventCount++;
        return eventCount;
    }

    public int held(int calendar, int y, int m, int d) {
        int day = dayIn(calendar, y, m, d);
        return day == NONE ? NONE : sortsOn(day);
    }

    public int spell(int sort) {
        if (!isSort(sort)) {
            return NONE;
        }
        int longest = 0;
        for (int e = 0; e < eventCount; e++) {
            if (eventSorts[e] == sort) {
                longest = Math.max(longest, spellFrom(eventDays[e], sort));
            }
        }
        return longest;
    }

    /** A spell is no longer than there are events. */
    private int spellFrom(int day, int sort) {
        int length = 0;
        while (length < eventCount && (sortsOn(day + length) >> sort & 1) == 1) {
            length++;
        }
        return length;
    }

    private int sortsOn(int day) {
        int bits = 0;
        for (int e = 0; e < eventCount; e++) {
            if (eventDays[e] == day) {
                bits |= 1 << eventSorts[e];
            }
        }
        return bits;
    }

    public int keep() {
        keptAsks = askCount;
        keptEvents = eventCount;
        return askCount + eventCount;
    }

    public int back() {
        askCount = keptAsks;
        eventCount = keptEvents;
        return askCount + eventCount;
    }

    public int count(int what) {
        switch (what) {
            case 0:
                return almanacCount;
            case 1:
                return headCount;
            case 2:
                return askCount;
            case 3:
                return planCount;
            case 4:
                return eventCount;
            case 5:
                return tapeLength;
            case 6:
                return birth == null ? NONE : birth.day;
            case 7:
                return thingCount;
            default:
                return HIDDEN;
        }
    }

    // ---- bounds ----

    private static boolean isYear(int y) {
        return y >= 1 && y <= LAST_YEAR;
    }

    private static boolean areYears(int from, int to) {
        return isYear(from) && isYear(to) && from <= to;
    }

    private static boolean isSlack(int slack) {
        return slack >= 0 && slack <= SLACK_MOST;
    }

    private static boolean isSort(int sort) {
        return sort >= 0 && sort <= 3;
    }

    // ---- dates as keys: their order is that of the dates ----

    private static boolean isDatelike(int y, int m, int d) {
        return isYear(y) && m >= 1 && m <= 12 && d >= 1 && d <= 31;
    }

    private static int keyOf(int y, int m, int d) {
        return y << 9 | m << 5 | d;
    }

    private static int yearOfKey(int key) {
        return key >> 9;
    }

    private static int monthOfKey(int key) {
        return key >> 5 & 15;
    }

    private static int dateOfKey(int key) {
        return key & 31;
    }

    private static int partOfKey(int key, int what) {
        if (what == 0) {
            return yearOfKey(key);
        }
        return what == 1 ? monthOfKey(key) : dateOfKey(key);
    }

    private static int yearLength(boolean leap) {
        return leap ? 366 : 365;
    }

    private static int monthLength(boolean leap, int m) {
        if (m < 1 || m > 12) {
            return 0;
        }
        return leap && m == 2 ? 29 : MONTH_LENGTHS[m];
    }

    /** The 1 January is at 1. */
    private static int placeInYear(boolean leap, int m, int d) {
        if (m < 1 || m > 12) {
            return 0;
        }
        return DAYS_AHEAD[m] + (leap && m > 2 ? 1 : 0) + d;
    }

    private static int keyAt(int y, boolean leap, int place) {
        int m = 1;
        int left = place;
        while (m < 12 && left > monthLength(leap, m)) {
            left -= monthLength(leap, m);
            m++;
        }
        return keyOf(y, m, left);
    }

    /** How far the answer is from the true day of the week, the shorter way round. */
    private static int offBy(int answer, int day) {
        return Math.floorMod(answer - day + 3, 7) - 3;
    }

    // ---- reading texts ----

    /** Goes through the tape and keeps the first byte that is wrong. */
    private static final class Reader {
        private static final int DIGITS_MOST = 4;

        private final int[] bytes;
        private final int length;
        private int at;
        /** The next sign behind blanks; none at the end, nor behind a fault. */
        private int sign;
        private int lastDigit = NONE;
        private int wrong = NONE;

        Reader(int[] bytes, int length) {
            this.bytes = bytes;
            this.length = Math.min(length, bytes.length);
            goTo(0);
        }

        private void goTo(int place) {
            at = place;
            while (at < length && bytes[at] == ' ') {
                at++;
            }
            sign = wrong == NONE && at < length ? bytes[at] : NONE;
        }

        private void refuseAt(int place) {
            if (wrong == NONE) {
                wrong = place;
            }
            sign = NONE;
        }

        boolean isRight() {
            return wrong == NONE;
        }

        boolean seesDigit() {
            return sign >= '0' && sign <= '9';
        }

        boolean takes(int wanted) {
            if (sign != wanted) {
                return false;
            }
            goTo(at + 1);
            return true;
        }

        void expect(int wanted) {
            if (sign == wanted) {
                goTo(at + 1);
            } else {
                refuseAt(at);
            }
        }

        void finish() {
            if (sign != NONE) {
                refuseAt(at);
            }
        }

        /** The next sign is the wrong one. */
        void refuse() {
            refuseAt(at);
        }

        /** The number just read is wrong at its last digit. */
        void refuseNumber() {
            refuseAt(lastDigit);
        }

        int number(int least, int most) {
            if (!seesDigit()) {
                refuseAt(at);
                return least;
            }
            int value = 0;
            int place = at;
            while (place < length && bytes[place] >= '0' && bytes[place] <= '9') {
                if (place - at == DIGITS_MOST) {
                    refuseAt(place);
                    return least;
                }
                value = value * 10 + (bytes[place] - '0');
                place++;
            }
            lastDigit = place - 1;
            if (value < least || value > most) {
                refuseAt(lastDigit);
                return least;
            }
            goTo(place);
            return value;
        }
    }

    // ---- calendars ----

    /** The dates from one change to the next, by one row of leaps. */
    private static final class Stretch {
        private static final int LEAPS_MOST = 8;
        private static final int LAST_KEY = LAST_YEAR << 9 | 12 << 5 | 31;

        private final int[] divisors = new int[LEAPS_MOST];
        private final boolean[] gives = new boolean[LEAPS_MOST];
        private int size;
        private int baseYear = 1;
        /** Counted from the base year's beginning; may be in the year behind it. */
        private int firstPlace = 1;
        private int firstKey = keyOf(1, 1, 1);
        private int lastKey = LAST_KEY;
        private int firstDay;
        private int lastDay;
        /** For each year from the base year on the day ahead of its 1 January. */
        private int[] starts = new int[0];

        void readLeaps(Reader in) {
            boolean more = true;
            while (more && size < LEAPS_MOST) {
                divisors[size] = in.number(1, LAST_YEAR);
                gives[size] = in.takes('+');
                if (!gives[size]) {
                    in.expect('-');
                }
                size++;
                more = in.seesDigit();
            }
            if (more) {
                in.refuse();
            }
        }

        boolean hasLeapDay(int y) {
            for (int i = size - 1; i >= 0; i--) {
                if (divisors[i] > 0 && y % divisors[i] == 0) {
                    return gives[i];
                }
            }
            return false;
        }

        boolean canEndOn(int y, int m, int d) {
            return d <= monthLength(hasLeapDay(y), m) && keyOf(y, m, d) >= firstKey;
        }

        /** Begins behind that last date ahead, so many dates left out. */
        void takeOver(int lastAhead, int leftOut) {
            baseYear = yearOfKey(lastAhead);
            boolean leap = hasLeapDay(baseYear);
            int m = monthOfKey(lastAhead);
            int d = Math.min(dateOfKey(lastAhead), monthLength(leap, m));
            firstPlace = placeInYear(leap, m, d) + leftOut + 1;
            int over = firstPlace - yearLength(leap);
            firstKey = over > 0 ? keyAt(baseYear + 1, hasLeapDay(baseYear + 1), over) : keyAt(baseYear, leap, firstPlace);
        }

        void lay(int day) {
            firstDay = day;
            lastDay = day - 1;
            int years = yearOfKey(lastKey) - baseYear + 1;
            if (firstKey > lastKey || years < 1) {
                return;
            }
            starts = new int[years + 1];
            starts[0] = firstDay - firstPlace;
            for (int i = 0; i < years; i++) {
                starts[i + 1] = starts[i] + yearLength(hasLeapDay(baseYear + i));
            }
            lastDay = dayOn(lastKey);
        }

        private boolean isLeapAt(int at) {
            return at >= 0 && at + 1 < starts.length && starts[at + 1] - starts[at] == 366;
        }

        int dayOn(int key) {
            int at = yearOfKey(key) - baseYear;
            if (key < firstKey || key > lastKey || at < 0 || at + 1 >= starts.length) {
                return NONE;
            }
            boolean leap = isLeapAt(at);
            int m = monthOfKey(key);
            int d = dateOfKey(key);
            return d > monthLength(leap, m) ? NONE : starts[at] + placeInYear(leap, m, d);
        }

        int keyOn(int day) {
            if (day < firstDay || day > lastDay || starts.length == 0) {
                return NONE;
            }
            int at = 0;
            for (int width = 1 << 13; width > 0; width >>= 1) {
                if (at + width < starts.length && starts[at + width] < day) {
                    at += width;
                }
            }
            return keyAt(baseYear + at, isLeapAt(at), day - starts[at]);
        }

        int datesIn(int y, int m) {
            int at = y - baseYear;
            if (at < 0 || at + 1 >= starts.length) {
                return 0;
            }
            int first = Math.max(keyOf(y, m, 1), firstKey);
            int last = Math.min(keyOf(y, m, monthLength(isLeapAt(at), m)), lastKey);
            return Math.max(last - first + 1, 0);
        }
    }

    /** A calendar. */
    private static final class Almanac {
        private static final int CHANGES_MOST = 3;

        private int startDay;
        private final Stretch[] stretches = new Stretch[CHANGES_MOST + 1];
        private int size;
        private int[] kinds = new int[0];

        static Almanac readFrom(Reader in) {
            Almanac almanac = new Almanac();
            almanac.startDay = in.number(0, 9);
            in.expect(':');
            Stretch stretch = new Stretch();
            stretch.readLeaps(in);
            almanac.add(stretch);
            for (int changes = 0; changes < CHANGES_MOST && in.takes('@'); changes++) {
                stretch = readChange(in, stretch);
                almanac.add(stretch);
            }
            in.finish();
            return almanac;
        }

        private void add(Stretch stretch) {
            if (size < stretches.length) {
                stretches[size] = stretch;
                size++;
            }
        }

        private static Stretch readChange(Reader in, Stretch ahead) {
            int y = in.number(1, LAST_YEAR);
            in.expect('.');
            int m = in.number(1, 12);
            in.expect('.');
            int d = in.number(1, 31);
            if (!ahead.canEndOn(y, m, d)) {
                in.refuseNumber();
            }
            in.expect('-');
            int leftOut = in.number(0, 30);
            in.expect(':');
            Stretch stretch = new Stretch();
            stretch.readLeaps(in);
            ahead.lastKey = keyOf(y, m, d);
            stretch.takeOver(ahead.lastKey, leftOut);
            return stretch;
        }

        void lay() {
            int day = startDay;
            for (int i = 0; i < size; i++) {
                stretches[i].lay(day);
                day = stretches[i].lastDay + 1;
            }
            kinds = new int[LAST_YEAR + 1];
            for (int y = 1; y <= LAST_YEAR; y++) {
                int first = dayOn(y, 1, 1);
                int apart = dayOn(y, 12, 31) - first;
                boolean whole = first != NONE && (apart == 364 || apart == 365);
                kinds[y] = whole ? 2 * (first % 7) + (apart - 364) : NONE;
            }
        }

        int kindOf(int y) {
            return y >= 1 && y < kinds.length ? kinds[y] : NONE;
        }

        boolean areLike(int y, int other) {
            return kindOf(y) != NONE && kindOf(y) == kindOf(other);
        }

        int dayOn(int y, int m, int d) {
            if (!isDatelike(y, m, d)) {
                return NONE;
            }
            int day = NONE;
            for (int i = 0; i < size && day == NONE; i++) {
                day = stretches[i].dayOn(keyOf(y, m, d));
            }
            return day;
        }

        int keyOn(int day) {
            int key = NONE;
            for (int i = 0; i < size && key == NONE; i++) {
                key = stretches[i].keyOn(day);
            }
            return key;
        }

        int datesIn(int y, int m) {
            int dates = 0;
            for (int i = 0; i < size; i++) {
                dates += stretches[i].datesIn(y, m);
            }
            return dates;
        }

        /** Whether both firsts are dates on one day of the week. */
        boolean areAlike(int y, int m, int other) {
            int one = dayOn(y, m, 1);
            int two = dayOn(y, other, 1);
            return one != NONE && two != NONE && one % 7 == two % 7;
        }

        /** The day of that date, or of the first date behind it in that year or the next. */
        int firstFrom(int y, int m, int d) {
            int day = NONE;
            for (int month = m; month <= 12 && day == NONE; month++) {
                day = firstInMonth(y, month, month == m ? d : 1);
            }
            for (int month = 1; month <= 12 && day == NONE; month++) {
                day = firstInMonth(y + 1, month, 1);
            }
            return day;
        }

        private int firstInMonth(int y, int m, int from) {
            int day = NONE;
            for (int d = from; d <= 31 && day == NONE; d++) {
                day = dayOn(y, m, d);
            }
            return day;
        }
    }

    /** A date by a calendar, and its day. */
    private static final class Spot {
        private final int calendar;
        private final Almanac almanac;
        private final int year;
        private final int month;
        private final int date;
        private final int day;

        Spot(int calendar, Almanac almanac, int key, int day) {
            this.calendar = calendar;
            this.almanac = almanac;
            this.year = yearOfKey(key);
            this.month = monthOfKey(key);
            this.date = dateOfKey(key);
            this.day = day;
        }

        /** Whether both years have one kind, each by its own calendar. */
        boolean isLike(Spot other) {
            int kind = almanac.kindOf(year);
            return kind != NONE && kind == other.almanac.kindOf(other.year);
        }
    }

    /** What a head was asked, and what it told. */
    private static final class Ask {
        private final int month;
        private final Spot spot;
        private final int answer;
        private final int tenths;

        Ask(int month, Spot spot, int answer, int tenths) {
            this.month = month;
            this.spot = spot;
            this.answer = answer;
            this.tenths = tenths;
        }

        boolean isSoWith(Head head, int slack) {
            int told = head.toldFor(spot.almanac, spot.year, spot.month, spot.date);
            return told != NONE && told % 7 == answer && Math.abs(told / 7 - tenths) <= slack;
        }

        int yearsFrom(int now) {
            return Math.abs(spot.year - now);
        }
    }

    // ---- rows of years and of months ----

    /** What years, or months, are joined by lines, each at a cost. */
    private interface Net {
        int lineCount();

        /** The node at the other end of a line from this node; 0 if there is none. */
        int over(int node, int line);

        int costOf(int line);
    }

    /** Years, joined by steps: the lines of a step are that to the lower and that to the higher year. */
    private static final class Steps implements Net {
        private static final int STEPS_MOST = 6;
        /** Far more than widths up to 400 need. */
        private static final int ROUNDS_MOST = 400;

        private final int[] widths = new int[STEPS_MOST];
        private final int[] costs = new int[STEPS_MOST];
        private int size;
        /** What divides all widths; 0 without steps. */
        private int stride;

        public int lineCount() {
            return 2 * size;
        }

        public int over(int node, int line) {
            int step = line >> 1;
            if (step < 0 || step >= size) {
                return 0;
            }
            int year = (line & 1) == 0 ? node - widths[step] : node + widths[step];
            return isYear(year) ? year : 0;
        }

        public int costOf(int line) {
            int step = line >> 1;
            return step >= 0 && step < size ? costs[step] : 0;
        }

        void readFrom(Reader in) {
            if (size >= STEPS_MOST) {
                in.refuse();
                return;
            }
            in.takes('y');
            int width = in.number(1, 400);
            if (has(width)) {
                in.refuseNumber();
            }
            in.expect(':');
            widths[size] = width;
            costs[size] = in.number(0, 99);
            stride = commonDivisor(stride, width);
            size++;
        }

        private boolean has(int width) {
            for (int i = 0; i < size; i++) {
                if (widths[i] == width) {
                    return true;
                }
            }
            return false;
        }

        private static int commonDivisor(int a, int b) {
            int high = Math.max(a, b);
            int low = Math.min(a, b);
            for (int rounds = 0; rounds < ROUNDS_MOST && low > 0; rounds++) {
                int rest = high % low;
                high = low;
                low = rest;
            }
            return high;
        }
    }

    /** Months, joined in pairs that are taken as alike. */
    private static final class Pairs implements Net {
        private static final int PAIRS_MOST = 12;

        private final int[] ones = new int[PAIRS_MOST];
        private final int[] others = new int[PAIRS_MOST];
        private final int[] costs = new int[PAIRS_MOST];
        private int size;

        public int lineCount() {
            return size;
        }

        public int over(int node, int line) {
            if (line < 0 || line >= size) {
                return 0;
            }
            if (ones[line] == node) {
                return others[line];
            }
            return others[line] == node ? ones[line] : 0;
        }

        public int costOf(int line) {
            return line >= 0 && line < size ? costs[line] : 0;
        }

        void readFrom(Reader in) {
            if (size >= PAIRS_MOST) {
                in.refuse();
                return;
            }
            in.takes('m');
            ones[size] = in.number(1, 12);
            in.expect('=');
            others[size] = in.number(1, 12);
            if (others[size] == ones[size]) {
                in.refuseNumber();
            }
            in.expect(':');
            costs[size] = in.number(0, 99);
            size++;
        }
    }

    /** The best rows from all nodes of a net to those that are known. */
    private static final class Rows {
        /** A row's length is its costs times this and its steps, so that costs count first. */
        private static final long COST = 1L << 14;
        private static final long FAR = 1L << 60;

        private final long[] lengths;
        private final int[] nexts;
        private final int[] ends;

        Rows(int nodes) {
            lengths = new long[nodes];
            nexts = new int[nodes];
            ends = new int[nodes];
            Arrays.fill(lengths, FAR);
        }

        private boolean has(int node) {
            return node > 0 && node < lengths.length;
        }

        void know(int node) {
            if (has(node)) {
                lengths[node] = 0;
                ends[node] = node;
            }
        }

        /** Nodes come by the length of their rows, so what a row goes on to has been found. */
        void find(Net net, Heap heap) {
            heap.empty();
            for (int node = 1; node < lengths.length; node++) {
                if (lengths[node] == 0) {
                    heap.put(node, lengths);
                }
            }
            for (int found = 0; found < lengths.length && heap.size > 0; found++) {
                int node = heap.takeLeast(lengths);
                chooseNext(net, node);
                goOn(net, heap, node);
            }
        }

        /** Of several that are as good the lowest. */
        private void chooseNext(Net net, int node) {
            if (!has(node) || lengths[node] == 0) {
                return;
            }
            int best = 0;
            for (int line = 0; line < net.lineCount(); line++) {
                int other = net.over(node, line);
                if (has(other) && (best == 0 || other < best)
                        && lengths[other] + net.costOf(line) * COST + 1 == lengths[node]) {
                    best = other;
                }
            }
            nexts[node] = best;
            ends[node] = has(best) ? ends[best] : 0;
        }

        private void goOn(Net net, Heap heap, int node) {
            if (!has(node)) {
                return;
            }
            for (int line = 0; line < net.lineCount(); line++) {
                int other = net.over(node, line);
                long length = lengths[node] + net.costOf(line) * COST + 1;
                if (has(other) && length < lengths[other]) {
                    lengths[other] = length;
                    heap.put(other, lengths);
                }
            }
        }

        /**
         * Finds the costs of rows from this node to higher ones up to a last: those that are at most so much.
         * Answers the highest one that steps can get to.
         */
        int reach(Steps steps, Heap heap, int from, int last, int cost) {
            if (steps.stride < 1 || !has(from) || last - from < steps.stride) {
                return from;
            }
            int wanted = (last - from) / steps.stride;
            Arrays.fill(lengths, FAR);
            heap.empty();
            know(from);
            heap.put(from, lengths);
            for (int found = 0; found < lengths.length && heap.size > 0 && wanted > 0; found++) {
                int node = heap.takeLeast(lengths);
                if (costOf(node) > cost) {
                    wanted = 0;
                } else {
                    goOn(steps, heap, node);
                    wanted -= node > from && node <= last ? 1 : 0;
                }
            }
            return last;
        }

        /** The costs of the row from a node; none without a row. */
        int costOf(int node) {
            return has(node) && lengths[node] < FAR ? (int) (lengths[node] / COST) : NONE;
        }

        int stepCount(int node) {
            return has(node) && lengths[node] < FAR ? (int) (lengths[node] % COST) : 0;
        }

        int endOf(int node) {
            return has(node) ? ends[node] : 0;
        }

        int nextOf(int node) {
            return has(node) ? nexts[node] : 0;
        }

        /** The i-th of a row; how many steps it has, if i is NONE. */
        int stepOf(int node, int i) {
            int steps = stepCount(node);
            if (i == NONE) {
                return steps;
            }
            if (i < 0 || i > steps) {
                return NONE;
            }
            int at = node;
            for (int step = 0; step < i; step++) {
                at = nextOf(at);
            }
            return at;
        }
    }

    /** Nodes that wait, that with the least length on top. */
    private static final class Heap {
        /** Each level holds twice as many as the one above it. */
        private static final int LEVELS_MOST = 31;

        private final int[] nodes;
        /** Where in the heap a node is; 0 if it does not wait. */
        private final int[] places;
        private int size;

        Heap(int capacity) {
            nodes = new int[capacity + 1];
            places = new int[capacity + 1];
        }

        void empty() {
            for (int place = 1; place <= size && place < nodes.length; place++) {
                places[nodes[place]] = 0;
            }
            size = 0;
        }

        /** Puts a node in, or up, if it waits and has got less. */
        void put(int node, long[] lengths) {
            if (node < 1 || node >= places.length || node >= lengths.length) {
                return;
            }
            if (places[node] == 0) {
                if (size + 1 >= nodes.length) {
                    return;
                }
                size++;
                set(size, node);
            }
            int place = places[node];
            while (place > 1 && lengths[nodes[place >> 1]] > lengths[node]) {
                set(place, nodes[place >> 1]);
                place >>= 1;
            }
            set(place, node);
        }

        int takeLeast(long[] lengths) {
            if (size < 1 || size >= nodes.length) {
                return 0;
            }
            int least = nodes[1];
            places[least] = 0;
            int last = nodes[size];
            size--;
            if (size > 0) {
                sink(last, lengths);
            }
            return least;
        }

        private void sink(int node, long[] lengths) {
            int place = 1;
            int child = lesserChild(place, lengths);
            for (int level = 0; level < LEVELS_MOST && child != 0; level++) {
                if (lengths[nodes[child]] >= lengths[node]) {
                    break;
                }
                set(place, nodes[child]);
                place = child;
                child = lesserChild(place, lengths);
            }
            set(place, node);
        }

        private int lesserChild(int place, long[] lengths) {
            int child = 2 * place;
            if (child > size) {
                return 0;
            }
            return child < size && lengths[nodes[child + 1]] < lengths[nodes[child]] ? child + 1 : child;
        }

        private void set(int place, int node) {
            nodes[place] = node;
            places[node] = place;
        }
    }

    /** A head: what it knows by heart, and how it goes there. */
    private static final class Head {
        private static final int RANGES_MOST = 6;
        private static final int SEVEN = 0;
        private static final int REST = 1;
        private static final int BEGIN = 2;
        private static final int LEAP = 3;

        private final int[] rangeFirsts = new int[RANGES_MOST];
        private final int[] rangeLasts = new int[RANGES_MOST];
        private int rangeCount;
        private final Steps steps = new Steps();
        private final Pairs pairs = new Pairs();
        private final boolean[] monthKnown = new boolean[13];
        private int monthsKnown;
        /** What sevens, days left over, beginning and leap years take; none, if not told. */
        private final int[] extras = {NONE, NONE, NONE, NONE};
        private int weight = 1;
        private Rows years;
        private Rows months;

        static Head readFrom(Reader in) {
            Head head = new Head();
            head.readItem(in);
            for (int items = 1; items < TAPE_MOST && in.takes(','); items++) {
                head.readItem(in);
            }
            in.finish();
            return head;
        }

        private void readItem(Reader in) {
            switch (in.sign) {
                case 'k':
                    readRange(in);
                    break;
                case 'y':
                    steps.readFrom(in);
                    break;
                case 'm':
                    pairs.readFrom(in);
                    break;
                case 'o':
                    readMonth(in);
                    break;
                case 's':
                    readExtra(in, SEVEN);
                    break;
                case 'r':
                    readExtra(in, REST);
                    break;
                case 'b':
                    readExtra(in, BEGIN);
                    break;
                case 'l':
                    readExtra(in, LEAP);
                    break;
                default:
                    in.refuse();
                    break;
            }
        }

        private void readRange(Reader in) {
            if (rangeCount >= RANGES_MOST) {
                in.refuse();
                return;
            }
            in.takes('k');
            rangeFirsts[rangeCount] = in.number(1, LAST_YEAR);
            in.expect('-');
            rangeLasts[rangeCount] = in.number(1, LAST_YEAR);
            if (rangeLasts[rangeCount] < rangeFirsts[rangeCount]) {
                in.refuseNumber();
            }
            rangeCount++;
        }

        private void readMonth(Reader in) {
            in.takes('o');
            int m = in.number(1, 12);
            if (m < 1 || m > 12) {
                return;
            }
            if (monthKnown[m]) {
                in.refuseNumber();
                return;
            }
            monthKnown[m] = true;
            monthsKnown++;
        }

        private void readExtra(Reader in, int extra) {
            if (extras[extra] != NONE) {
                in.refuse();
                return;
            }
            in.takes(in.sign);
            extras[extra] = in.number(0, 99);
        }

        void findRows(Heap heap) {
            years = new Rows(LAST_YEAR + 1);
            for (int i = 0; i < rangeCount; i++) {
                for (int y = rangeFirsts[i]; y <= rangeLasts[i]; y++) {
                    years.know(y);
                }
            }
            years.find(steps, heap);
            months = new Rows(13);
            for (int m = 1; m <= 12; m++) {
                if (monthKnown[m] || monthsKnown == 0 && m == 1) {
                    months.know(m);
                }
            }
            months.find(pairs, heap);
        }

        private int extraOf(int extra) {
            return Math.max(extras[extra], 0);
        }

        int toldAt(Spot spot) {
            return toldFor(spot.almanac, spot.year, spot.month, spot.date);
        }

        /** Seven times the tenths, and the answer; none without a way. */
        int toldFor(Almanac almanac, int y, int m, int d) {
            if (almanac.dayOn(y, m, d) == NONE) {
                return NONE;
            }
            int knownYear = years.endOf(y);
            int first = almanac.dayOn(knownYear, months.endOf(m), 1);
            if (first == NONE) {
                return NONE;
            }
            int on = d - 1;
            int tenths = extraOf(BEGIN) + years.costOf(y) + months.costOf(m);
            tenths += extraOf(SEVEN) * (on / 7) + extraOf(REST) * (on % 7);
            if (almanac.dayOn(knownYear, 2, 29) != NONE) {
                tenths += extraOf(LEAP);
            }
            return tenths * 7 + (first + on) % 7;
        }

        /** What it says to a thing of a row: a day of the week, or a hum. */
        int saysTo(Almanac almanac, int key) {
            int told = toldFor(almanac, yearOfKey(key), monthOfKey(key), dateOfKey(key));
            return told == NONE ? HUM : told % 7;
        }

        /** The first step of the way for a date of that month that is false. */
        int falseStep(Almanac almanac, int y, int m) {
            int yearSteps = years.stepCount(y);
            int at = y;
            for (int step = 0; step < yearSteps; step++) {
                if (!almanac.areLike(at, years.nextOf(at))) {
                    return step;
                }
                at = years.nextOf(at);
            }
            int month = m;
            for (int step = 0; step < months.stepCount(m); step++) {
                if (!almanac.areAlike(at, month, months.nextOf(month))) {
                    return yearSteps + step;
                }
                month = months.nextOf(month);
            }
            return NONE;
        }

        int trueSteps(Almanac almanac, int k, int from, int to) {
            int width = steps.widths[k];
            int found = 0;
            for (int y = from; y + width <= to; y++) {
                if (almanac.areLike(y, y + width)) {
                    found++;
                }
            }
            return found;
        }

        int truePairs(Almanac almanac, int k, int from, int to) {
            int found = 0;
            for (int y = from; y <= to; y++) {
                if (almanac.areAlike(y, pairs.ones[k], pairs.others[k])) {
                    found++;
                }
            }
            return found;
        }

        int monthsLacked() {
            int bits = 0;
            for (int m = 1; m <= 12; m++) {
                if (months.costOf(m) == NONE) {
                    bits |= 1 << m - 1;
                }
            }
            return bits;
        }
    }
}
