import java.util.ArrayList;
import java.util.Arrays;
import java.util.HashMap;
import java.util.List;
import java.util.Map;
import java.util.NoSuchElementException;
import java.util.TreeSet;

/** The document done again, slowly: days are counted one by one, sets and months are all tried. */
final class Model {
    static final int NONE = -1;
    static final int HIDDEN = -1000;

    /** A byte at which a text is wrong. */
    static final class Wrong extends RuntimeException {
        private static final long serialVersionUID = 1L;
        final int at;

        Wrong(int at) {
            this.at = at;
        }
    }

    /** A number or a sign of a text. */
    record Token(int at, int sign, int digits, int value) {
    }

    /** A text cut into tokens, the last one being its end. */
    static final class Tokens {
        final List<Token> all = new ArrayList<>();
        int next;

        Tokens(List<Integer> tape) {
            int at = 0;
            while (at < tape.size()) {
                int sign = tape.get(at);
                if (sign == ' ') {
                    at++;
                    continue;
                }
                int end = at;
                int value = 0;
                while (end < tape.size() && Character.isDigit(tape.get(end)) && tape.get(end) < 128) {
                    value = Math.min(value * 10 + tape.get(end) - '0', 1000000);
                    end++;
                }
                all.add(end > at ? new Token(at, '0', end - at, value) : new Token(at, sign, 0, 0));
                at = Math.max(end, at + 1);
            }
            all.add(new Token(tape.size(), 0, 0, 0));
        }

        Token look() {
            return all.get(next);
        }

        boolean is(int sign) {
            return look().sign() == sign;
        }

        Token sign(int sign) {
            if (!is(sign)) {
                throw new Wrong(look().at());
            }
            return all.get(next++);
        }

        int number(int least, int most) {
            Token number = sign('0');
            if (number.digits() > 4) {
                throw new Wrong(number.at() + 4);
            }
            if (number.value() < least || number.value() > most) {
                throw wrongNumber();
            }
            return number.value();
        }

        Wrong wrongNumber() {
            Token number = all.get(next - 1);
            return new Wrong(number.at() + number.digits() - 1);
        }
    }

    record Date(int y, int m, int d) {
        int key() {
            return (y * 13 + m) * 32 + d;
        }

        static Date at(int key) {
            return new Date(key / 32 / 13, key / 32 % 13, key % 32);
        }
    }

    record Leaps(List<int[]> rules) {
        boolean leap(int y) {
            boolean leap = false;
            for (int[] rule : rules) {
                if (y % rule[0] == 0) {
                    leap = rule[1] == 1;
                }
            }
            return leap;
        }

        int length(int y, int m) {
            if (m == 2) {
                return leap(y) ? 29 : 28;
            }
            return m == 4 || m == 6 || m == 9 || m == 11 ? 30 : 31;
        }

        boolean has(Date date) {
            return date.d <= length(date.y, date.m);
        }

        Date behind(Date date) {
            if (date.d < length(date.y, date.m)) {
                return new Date(date.y, date.m, date.d + 1);
            }
            return date.m < 12 ? new Date(date.y, date.m + 1, 1) : new Date(date.y + 1, 1, 1);
        }

        Date firstBehind(Date last, int leftOut) {
            Date at = has(last) ? last : new Date(last.y, 2, 28);
            for (int i = 0; i <= leftOut; i++) {
                at = behind(at);
            }
            return at;
        }
    }

    static final class Cal {
        static final Map<List<Integer>, Cal> READ = new HashMap<>();
        final int start;
        final List<Leaps> leaps = new ArrayList<>();
        final List<Date> lasts = new ArrayList<>();
        final List<Date> firsts = new ArrayList<>();
        int[] keysByDay;
        int[] daysByKey;

        static Cal read(List<Integer> tape) {
            Cal cal = READ.get(tape);
            if (cal == null) {
                cal = new Cal(new Tokens(tape));
                cal.count();
                READ.put(new ArrayList<>(tape), cal);
            }
            return cal;
        }

        Cal(Tokens in) {
            start = in.number(0, 9);
            in.sign(':');
            leaps.add(leaps(in));
            Date first = new Date(1, 1, 1);
            while (in.is('@') && lasts.size() < 3) {
                in.sign('@');
                int y = in.number(1, 9999);
                in.sign('.');
                int m = in.number(1, 12);
                in.sign('.');
                Date last = new Date(y, m, in.number(1, 31));
                if (!leaps.get(lasts.size()).has(last) || last.key() < first.key()) {
                    throw in.wrongNumber();
                }
                in.sign('-');
                int leftOut = in.number(0, 30);
                in.sign(':');
                Leaps behind = leaps(in);
                first = behind.firstBehind(last, leftOut);
                lasts.add(last);
                firsts.add(first);
                leaps.add(behind);
            }
            in.sign(0);
        }

        private static Leaps leaps(Tokens in) {
            List<int[]> rules = new ArrayList<>();
            do {
                int number = in.number(1, 9999);
                int yes = in.is('+') ? 1 : 0;
                in.sign(yes == 1 ? '+' : '-');
                rules.add(new int[] {number, yes});
            } while (rules.size() < 8 && in.is('0'));
            return new Leaps(rules);
        }

        private void count() {
            daysByKey = new int[10001 * 13 * 32];
            Arrays.fill(daysByKey, NONE);
            int[] keys = new int[3700000];
            int day = start;
            Date at = new Date(1, 1, 1);
            int part = 0;
            while (at.y <= 9999) {
                daysByKey[at.key()] = day;
                keys[day] = at.key();
                day++;
                if (part < lasts.size() && at.equals(lasts.get(part))) {
                    at = firsts.get(part);
                    part++;
                } else {
                    at = leaps.get(part).behind(at);
                }
            }
            keysByDay = Arrays.copyOf(keys, day);
        }

        int day(int y, int m, int d) {
            if (y < 1 || y > 9999 || m < 1 || m > 12 || d < 1 || d > 31) {
                return NONE;
            }
            return daysByKey[new Date(y, m, d).key()];
        }

        Date date(int day) {
            return day < start || day >= keysByDay.length ? null : Date.at(keysByDay[day]);
        }

        int kind(int y) {
            int first = day(y, 1, 1);
            int last = day(y, 12, 31);
            if (first == NONE || last == NONE || last - first < 364 || last - first > 365) {
                return NONE;
            }
            return 2 * (first % 7) + (last - first == 365 ? 1 : 0);
        }

        boolean alike(int y, int m, int other) {
            int one = day(y, m, 1);
            int two = day(y, other, 1);
            return one != NONE && two != NONE && (one - two) % 7 == 0;
        }

        int birthday(int y, int m, int d) {
            int last = new Date(Math.min(y + 1, 9999), 12, 31).key();
            for (int key = new Date(y, m, d).key(); key <= last; key++) {
                if (daysByKey[key] != NONE) {
                    return daysByKey[key];
                }
            }
            return NONE;
        }
    }

    /** Rows from each node to a known one, as costs, steps and the node that is next. */
    static final class Graph {
        final int size;
        final List<int[]> lines;
        final int[] costs;
        final int[] steps;
        private final Map<Integer, List<Integer>> rows = new HashMap<>();

        Graph(int size, List<int[]> lines, TreeSet<Integer> known) {
            this.size = size;
            this.lines = lines;
            costs = new int[size + 1];
            steps = new int[size + 1];
            Arrays.fill(costs, NONE);
            List<Integer> work = new ArrayList<>(known);
            for (int node : known) {
                costs[node] = 0;
            }
            while (!work.isEmpty()) {
                List<Integer> later = new ArrayList<>();
                for (int node : work) {
                    for (int[] go : from(node)) {
                        int cost = costs[node] + go[1];
                        int step = steps[node] + 1;
                        int to = go[0];
                        if (costs[to] == NONE || cost < costs[to] || cost == costs[to] && step < steps[to]) {
                            costs[to] = cost;
                            steps[to] = step;
                            later.add(to);
                        }
                    }
                }
                work = later;
            }
        }

        /** A line is {0, n, cost} for steps of n, {a, b, cost} for a pair. */
        List<int[]> from(int node) {
            List<int[]> found = new ArrayList<>();
            for (int[] line : lines) {
                if (line[0] == 0) {
                    if (node - line[1] >= 1) {
                        found.add(new int[] {node - line[1], line[2]});
                    }
                    if (node + line[1] <= size) {
                        found.add(new int[] {node + line[1], line[2]});
                    }
                } else if (line[0] == node) {
                    found.add(new int[] {line[1], line[2]});
                } else if (line[1] == node) {
                    found.add(new int[] {line[0], line[2]});
                }
            }
            return found;
        }

        List<Integer> row(int node) {
            return costs[node] == NONE ? null : rows.computeIfAbsent(node, this::findRow);
        }

        private List<Integer> findRow(int node) {
            List<Integer> row = new ArrayList<>(List.of(node));
            while (steps[node] > 0) {
                int best = Integer.MAX_VALUE;
                for (int[] go : from(node)) {
                    int to = go[0];
                    if (costs[to] != NONE && costs[to] + go[1] == costs[node] && steps[to] + 1 == steps[node]) {
                        best = Math.min(best, to);
                    }
                }
                node = best;
                row.add(node);
            }
            return row;
        }
    }

    static final class Mind {
        static final Map<List<Integer>, Mind> READ = new HashMap<>();
        final TreeSet<Integer> knownYears = new TreeSet<>();
        final TreeSet<Integer> knownMonths = new TreeSet<>();
        final List<int[]> steps = new ArrayList<>();
        final List<int[]> pairs = new ArrayList<>();
        final Map<Integer, Integer> extras = new HashMap<>();
        int ranges;
        Graph years;
        Graph months;

        static Mind read(List<Integer> tape) {
            Mind mind = READ.get(tape);
            if (mind == null) {
                mind = new Mind(new Tokens(tape));
                READ.put(new ArrayList<>(tape), mind);
            }
            return mind;
        }

        Mind(Tokens in) {
            item(in);
            while (in.is(',')) {
                in.sign(',');
                item(in);
            }
            in.sign(0);
        }

        private void item(Tokens in) {
            Token letter = in.look();
            int sign = letter.sign();
            if (sign == 0 || "kymosrbl".indexOf(sign) < 0 || sign == 'k' && ranges == 6
                    || sign == 'y' && steps.size() == 6 || sign == 'm' && pairs.size() == 12
                    || extras.containsKey(sign)) {
                throw new Wrong(letter.at());
            }
            in.sign(sign);
            switch (sign) {
                case 'k' -> {
                    int from = in.number(1, 9999);
                    in.sign('-');
                    int to = in.number(1, 9999);
                    if (to < from) {
                        throw in.wrongNumber();
                    }
                    for (int y = from; y <= to; y++) {
                        knownYears.add(y);
                    }
                    ranges++;
                }
                case 'y' -> {
                    int n = in.number(1, 400);
                    for (int[] step : steps) {
                        if (step[1] == n) {
                            throw in.wrongNumber();
                        }
                    }
                    in.sign(':');
                    steps.add(new int[] {0, n, in.number(0, 99)});
                }
                case 'm' -> {
                    int a = in.number(1, 12);
                    in.sign('=');
                    int b = in.number(1, 12);
                    if (a == b) {
                        throw in.wrongNumber();
                    }
                    in.sign(':');
                    pairs.add(new int[] {a, b, in.number(0, 99)});
                }
                case 'o' -> {
                    if (!knownMonths.add(in.number(1, 12))) {
                        throw in.wrongNumber();
                    }
                }
                default -> extras.put(sign, in.number(0, 99));
            }
        }

        Graph years() {
            if (years == null) {
                years = new Graph(9999, steps, knownYears);
            }
            return years;
        }

        Graph months() {
            if (months == null) {
                months = new Graph(12, pairs, knownMonths.isEmpty() ? new TreeSet<>(List.of(1)) : knownMonths);
            }
            return months;
        }

        int extra(int letter) {
            return extras.getOrDefault(letter, 0);
        }
    }

    /** What a head does with a date: null stands for no way. */
    record Told(List<Integer> years, List<Integer> months, int answer, int tenths) {
        static Told of(Mind mind, Cal cal, int y, int m, int d) {
            if (cal.day(y, m, d) == NONE) {
                return null;
            }
            List<Integer> years = mind.years().row(y);
            List<Integer> months = mind.months().row(m);
            if (years == null || months == null) {
                return null;
            }
            int year = years.get(years.size() - 1);
            int first = cal.day(year, months.get(months.size() - 1), 1);
            if (first == NONE) {
                return null;
            }
            int tenths = mind.extra('b') + mind.years().costs[y] + mind.months().costs[m];
            for (int left = d - 1; left > 0; left -= left >= 7 ? 7 : 1) {
                tenths += mind.extra(left >= 7 ? 's' : 'r');
            }
            if (cal.day(year, 2, 29) != NONE) {
                tenths += mind.extra('l');
            }
            return new Told(years, months, (first + d - 1) % 7, tenths);
        }

        static boolean unlike(Told one, Told other) {
            if (one == null || other == null) {
                return one != other;
            }
            return one.answer != other.answer || one.tenths != other.tenths;
        }
    }

    record Ask(int month, int calendar, Spot spot, int answer, int tenths) {
    }

    record Spot(Cal cal, int y, int m, int d) {
        int day() {
            return cal.day(y, m, d);
        }
    }

    record Event(int day, int sort) {
    }

    private List<Integer> tape = new ArrayList<>();
    private final List<Cal> cals = new ArrayList<>();
    private final List<Mind> minds = new ArrayList<>();
    private final List<Integer> weights = new ArrayList<>();
    private final List<Ask> asks = new ArrayList<>();
    private final List<Spot> plans = new ArrayList<>();
    private final List<Event> events = new ArrayList<>();
    private List<int[]> things = new ArrayList<>();
    private Spot birth;
    private int birthCalendar;
    private int keptAsks;
    private int keptEvents;

    private static boolean in(int x, int least, int most) {
        return x >= least && x <= most;
    }

    private static boolean span(int from, int to) {
        return in(from, 1, 9999) && in(to, from, 9999);
    }

    private boolean isCal(int calendar) {
        return in(calendar, 0, cals.size() - 1);
    }

    private boolean isMind(int head) {
        return in(head, 0, minds.size() - 1);
    }

    private int dayOf(int calendar, int y, int m, int d) {
        return isCal(calendar) ? cals.get(calendar).day(y, m, d) : NONE;
    }

    private static int off(int answer, int day) {
        for (int off = -3; off <= 3; off++) {
            if ((day + off + 7) % 7 == answer) {
                return off;
            }
        }
        throw new AssertionError();
    }

    private static int mean(List<Integer> numbers) {
        return numbers.isEmpty() ? NONE : numbers.stream().mapToInt(n -> n).sum() / numbers.size();
    }

    int feed(int a, int b, int c, int d, int e) {
        List<Integer> longer = new ArrayList<>(tape);
        for (int word : new int[] {a, b, c, d, e}) {
            for (int place = 3; place >= 0; place--) {
                int sign = (word >> 8 * place) & 255;
                if (sign > 0) {
                    longer.add(sign);
                }
            }
        }
        if (longer.size() > 160) {
            return NONE;
        }
        tape = longer;
        return tape.size();
    }

    boolean end(int n) {
        if (!in(n, 0, tape.size())) {
            return false;
        }
        tape = new ArrayList<>(tape.subList(0, n));
        return true;
    }

    private static List<int[]> readRow(List<Integer> tape) {
        Tokens in = new Tokens(tape);
        List<int[]> read = new ArrayList<>();
        do {
            if (!read.isEmpty()) {
                in.sign(';');
            }
            if (in.is('?')) {
                in.sign('?');
                read.add(null);
            } else {
                int y = in.number(0, 9999);
                in.sign('.');
                int m = in.number(0, 9999);
                in.sign('.');
                read.add(new int[] {y, m, in.number(0, 9999)});
            }
        } while (in.is(';'));
        in.sign(0);
        return read;
    }

    int fault(int sort) {
        try {
            switch (sort) {
                case 0 -> new Cal(new Tokens(tape));
                case 1 -> new Mind(new Tokens(tape));
                case 2 -> readRow(tape);
                default -> {
                    return -2;
                }
            }
            return NONE;
        } catch (Wrong wrong) {
            return wrong.at;
        }
    }

    int text(int sort) {
        if (fault(sort) != NONE || sort == 0 && cals.size() == 6 || sort == 1 && minds.size() == 8) {
            return NONE;
        }
        List<Integer> read = tape;
        tape = new ArrayList<>();
        if (sort == 0) {
            cals.add(Cal.read(read));
            return cals.size() - 1;
        }
        if (sort == 1) {
            minds.add(Mind.read(read));
            weights.add(1);
            return minds.size() - 1;
        }
        things = readRow(read);
        return things.size();
    }

    int day(int calendar, int y, int m, int d) {
        int day = dayOf(calendar, y, m, d);
        if (day == NONE) {
            throw new NoSuchElementException();
        }
        return day;
    }

    private static int partOf(Date date, int what) {
        return date == null ? NONE : new int[] {date.y(), date.m(), date.d()}[what];
    }

    int date(int calendar, int day, int what) {
        if (!isCal(calendar) || !in(what, 0, 3) || cals.get(calendar).date(day) == null) {
            return NONE;
        }
        return what == 3 ? day % 7 : partOf(cals.get(calendar).date(day), what);
    }

    int turned(int calendar, int y, int m, int d, int other, int what) {
        int day = dayOf(calendar, y, m, d);
        return day == NONE || !isCal(other) || !in(what, 0, 2) ? NONE : partOf(cals.get(other).date(day), what);
    }

    int many(int calendar, int y, int m) {
        if (!isCal(calendar) || !in(y, 1, 9999) || !in(m, 0, 12)) {
            return NONE;
        }
        int found = 0;
        for (int month = m == 0 ? 1 : m; month <= (m == 0 ? 12 : m); month++) {
            for (int d = 1; d <= 31; d++) {
                found += dayOf(calendar, y, month, d) == NONE ? 0 : 1;
            }
        }
        return found;
    }

    int kind(int calendar, int y) {
        return isCal(calendar) && in(y, 1, 9999) ? cals.get(calendar).kind(y) : NONE;
    }

    private Told told(int head, int calendar, int y, int m, int d) {
        return isMind(head) && isCal(calendar) ? Told.of(minds.get(head), cals.get(calendar), y, m, d) : null;
    }

    private static Told told(Mind mind, Spot spot) {
        return Told.of(mind, spot.cal(), spot.y(), spot.m(), spot.d());
    }

    int way(int head, int calendar, int y, int m, int d, int what, int i) {
        Told told = told(head, calendar, y, m, d);
        if (told == null || !in(what, 0, 1)) {
            return NONE;
        }
        List<Integer> row = what == 0 ? told.years() : told.months();
        if (i == NONE) {
            return row.size() - 1;
        }
        return in(i, 0, row.size() - 1) ? row.get(i) : NONE;
    }

    int answers(int head, int calendar, int y, int m, int d, int what) {
        Told told = told(head, calendar, y, m, d);
        if (told == null || !in(what, 0, 3)) {
            return HIDDEN;
        }
        if (what == 3) {
            return falseStep(cals.get(calendar), told);
        }
        return what == 0 ? told.answer() : what == 1 ? told.tenths() : off(told.answer(), dayOf(calendar, y, m, d));
    }

    private static int falseStep(Cal cal, Told told) {
        int step = 0;
        for (int i = 1; i < told.years().size(); i++, step++) {
            int kind = cal.kind(told.years().get(i));
            if (kind == NONE || kind != cal.kind(told.years().get(i - 1))) {
                return step;
            }
        }
        int known = told.years().get(told.years().size() - 1);
        for (int i = 1; i < told.months().size(); i++, step++) {
            if (!cal.alike(known, told.months().get(i - 1), told.months().get(i))) {
                return step;
            }
        }
        return NONE;
    }

    int ask(int month, int calendar, int y, int m, int d, int answer, int tenths) {
        if (!in(month, 0, 999) || dayOf(calendar, y, m, d) == NONE || !in(answer, 0, 6) || !in(tenths, 0, 9999)
                || asks.size() == 60 || !asks.isEmpty() && month < asks.get(asks.size() - 1).month()) {
            return NONE;
        }
        asks.add(new Ask(month, calendar, new Spot(cals.get(calendar), y, m, d), answer, tenths));
        return asks.size() - 1;
    }

    int asked(int ask, int what) {
        if (!in(ask, 0, asks.size() - 1) || !in(what, 0, 5)) {
            return HIDDEN;
        }
        Ask one = asks.get(ask);
        int day = one.spot().day();
        return new int[] {one.month(), one.calendar(), day, one.answer(), one.tenths(), off(one.answer(), day)}[what];
    }

    private static boolean isSo(Mind mind, Ask ask, int slack) {
        Told told = told(mind, ask.spot());
        return told != null && told.answer() == ask.answer() && in(told.tenths() - ask.tenths(), -slack, slack);
    }

    private int soCount(Mind mind, int slack) {
        return (int) asks.stream().filter(ask -> isSo(mind, ask, slack)).count();
    }

    int fits(int slack) {
        return spare(slack, 0);
    }

    int spare(int slack, int wrong) {
        if (!in(slack, 0, 999) || !in(wrong, 0, 60)) {
            return NONE;
        }
        int bits = 0;
        for (int h = 0; h < minds.size(); h++) {
            bits += asks.size() - soCount(minds.get(h), slack) <= wrong ? 1 << h : 0;
        }
        return bits;
    }

    int so(int head, int slack) {
        return isMind(head) && in(slack, 0, 999) ? soCount(minds.get(head), slack) : NONE;
    }

    int further(int now) {
        if (!in(now, 1, 9999)) {
            return HIDDEN;
        }
        int balance = 0;
        for (Ask near : asks) {
            for (Ask far : asks) {
                if (Math.abs(far.spot().y() - now) > Math.abs(near.spot().y() - now)) {
                    balance += far.tenths() > near.tenths() ? 1 : far.tenths() < near.tenths() ? -1 : 0;
                }
            }
        }
        return balance;
    }

    int lived(int what) {
        if (birth == null || !in(what, 0, 1)) {
            return NONE;
        }
        List<Integer> tenths = new ArrayList<>();
        for (Ask ask : asks) {
            if (ask.spot().day() < birth.day() == (what == 1)) {
                tenths.add(ask.tenths());
            }
        }
        return mean(tenths);
    }

    private static boolean like(Spot one, Spot other) {
        int kind = one.cal().kind(one.y());
        return kind != NONE && kind == other.cal().kind(other.y());
    }

    int after(int what) {
        List<List<Integer>> tenths = List.of(new ArrayList<>(), new ArrayList<>());
        for (int i = 1; i < asks.size(); i++) {
            tenths.get(like(asks.get(i - 1).spot(), asks.get(i).spot()) ? 0 : 1).add(asks.get(i).tenths());
        }
        return in(what, 0, 1) ? mean(tenths.get(what)) : NONE;
    }

    int learnt(int one, int other, int slack, int what) {
        if (!isMind(one) || !isMind(other) || !in(slack, 0, 999) || !in(what, 0, 1)) {
            return NONE;
        }
        int first = NONE;
        int last = NONE;
        for (int t = 0; t <= 1000; t++) {
            boolean fit = true;
            for (Ask ask : asks) {
                fit &= isSo(minds.get(ask.month() < t ? one : other), ask, slack);
            }
            if (fit) {
                first = first == NONE ? t : first;
                last = t;
            }
        }
        return what == 0 ? first : last;
    }

    boolean weigh(int head, int weight) {
        if (!isMind(head) || !in(weight, 1, 9)) {
            return false;
        }
        weights.set(head, weight);
        return true;
    }

    int odds(int head, int slack) {
        if (head != NONE && !isMind(head) || !in(slack, 0, 999)) {
            return NONE;
        }
        int sum = 0;
        for (int h = 0; h < minds.size(); h++) {
            if (head == NONE || head == h) {
                sum += soCount(minds.get(h), slack) == asks.size() ? weights.get(h) : 0;
            }
        }
        return sum;
    }

    int plan(int calendar, int y, int m, int d) {
        if (dayOf(calendar, y, m, d) == NONE || plans.size() == 8) {
            return NONE;
        }
        plans.add(new Spot(cals.get(calendar), y, m, d));
        return plans.size() - 1;
    }

    int parted(int plan, int heads) {
        if (!in(plan, 0, plans.size() - 1) || !in(heads, 0, (1 << minds.size()) - 1)) {
            return NONE;
        }
        int pairs = 0;
        for (int a = 0; a < minds.size(); a++) {
            for (int b = 0; b < a; b++) {
                boolean both = (heads & 1 << a) != 0 && (heads & 1 << b) != 0;
                Spot spot = plans.get(plan);
                pairs += both && Told.unlike(told(minds.get(a), spot), told(minds.get(b), spot)) ? 1 : 0;
            }
        }
        return pairs;
    }

    int next(int heads) {
        int best = NONE;
        for (int p = plans.size() - 1; p >= 0; p--) {
            if (parted(p, heads) != NONE && (best == NONE || parted(p, heads) >= parted(best, heads))) {
                best = p;
            }
        }
        return best;
    }

    int part(int one, int other, int calendar, int year, int years) {
        if (!isMind(one) || !isMind(other) || !isCal(calendar) || !in(year, 1, 9999) || !in(years, 1, 20)) {
            return NONE;
        }
        Cal cal = cals.get(calendar);
        for (int day = cal.start; day < cal.keysByDay.length; day++) {
            Date date = cal.date(day);
            if (in(date.y(), year, year + years - 1)) {
                Told first = Told.of(minds.get(one), cal, date.y(), date.m(), date.d());
                Told second = Told.of(minds.get(other), cal, date.y(), date.m(), date.d());
                if (Told.unlike(first, second)) {
                    return day;
                }
            }
        }
        return NONE;
    }

    int least(int head, int year, int years, int cost, int what) {
        if (!isMind(head) || !in(year, 1, 9999) || !in(years, 1, 14) || year + years > 10000
                || !in(cost, 0, 999) || !in(what, 0, 1)) {
            return NONE;
        }
        boolean[][] reach = new boolean[years][years];
        for (int i = 0; i < years; i++) {
            Graph graph = new Graph(9999, minds.get(head).steps, new TreeSet<>(List.of(year + i)));
            for (int j = 0; j < years; j++) {
                reach[i][j] = in(graph.costs[year + j], 0, cost);
            }
        }
        List<Integer> best = null;
        for (int set = 1; set < 1 << years; set++) {
            List<Integer> members = new ArrayList<>();
            for (int i = 0; i < years; i++) {
                if ((set >> i) % 2 == 1) {
                    members.add(i);
                }
            }
            if ((best == null || members.size() <= best.size()) && covers(reach, members)
                    && (best == null || members.size() < best.size() || lower(members, best))) {
                best = members;
            }
        }
        return what == 0 ? best.size() : best.stream().mapToInt(i -> 1 << i).sum();
    }

    private static boolean covers(boolean[][] reach, List<Integer> members) {
        for (boolean[] row : reach) {
            if (members.stream().noneMatch(i -> row[i])) {
                return false;
            }
        }
        return true;
    }

    private static boolean lower(List<Integer> one, List<Integer> other) {
        for (int i = 0; i < one.size(); i++) {
            if (!one.get(i).equals(other.get(i))) {
                return one.get(i) < other.get(i);
            }
        }
        return false;
    }

    int like(int calendar, int year, int i) {
        int kind = kind(calendar, year);
        List<Integer> years = new ArrayList<>();
        for (int y = year + 1; kind != NONE && y <= 9999; y++) {
            if (kind(calendar, y) == kind) {
                years.add(y);
            }
        }
        return in(i, 0, years.size() - 1) ? years.get(i) : NONE;
    }

    int thirteenths(int calendar, int from, int to, int week) {
        if (!isCal(calendar) || !span(from, to) || !in(week, 0, 6)) {
            return NONE;
        }
        int found = 0;
        for (int day = 0; day <= 3700000; day++) {
            Date date = day % 7 == week ? cals.get(calendar).date(day) : null;
            found += date != null && date.d() == 13 && in(date.y(), from, to) ? 1 : 0;
        }
        return found;
    }

    int mates(int calendar, int y, int m) {
        if (dayOf(calendar, y, m, 1) == NONE) {
            return NONE;
        }
        int bits = 0;
        for (int month = 1; month <= 12; month++) {
            bits += cals.get(calendar).alike(y, m, month) ? 1 << (month - 1) : 0;
        }
        return bits;
    }

    boolean born(int calendar, int y, int m, int d) {
        if (dayOf(calendar, y, m, d) == NONE) {
            return false;
        }
        birth = new Spot(cals.get(calendar), y, m, d);
        birthCalendar = calendar;
        return true;
    }

    int age(int calendar, int y, int m, int d) {
        int day = dayOf(calendar, y, m, d);
        if (birth == null || calendar != birthCalendar || day == NONE || day < birth.day()) {
            return NONE;
        }
        int age = 0;
        for (int year = birth.y() + 1; year <= 9999; year++) {
            int birthday = birth.cal().birthday(year, birth.m(), birth.d());
            age += birthday != NONE && birthday <= day ? 1 : 0;
        }
        return age;
    }

    int event(int calendar, int y, int m, int d, int sort) {
        if (dayOf(calendar, y, m, d) == NONE || !in(sort, 0, 3) || events.size() == 30) {
            return NONE;
        }
        events.add(new Event(dayOf(calendar, y, m, d), sort));
        return events.size();
    }

    int held(int calendar, int y, int m, int d) {
        int day = dayOf(calendar, y, m, d);
        int bits = 0;
        for (int sort = 0; sort <= 3; sort++) {
            bits += events.contains(new Event(day, sort)) ? 1 << sort : 0;
        }
        return day == NONE ? NONE : bits;
    }

    int spell(int sort) {
        TreeSet<Integer> days = new TreeSet<>();
        events.stream().filter(event -> event.sort() == sort).forEach(event -> days.add(event.day()));
        int best = 0;
        int length = 0;
        for (int day : days) {
            length = days.contains(day - 1) ? length + 1 : 1;
            best = Math.max(best, length);
        }
        return in(sort, 0, 3) ? best : NONE;
    }

    int keep() {
        keptAsks = asks.size();
        keptEvents = events.size();
        return keptAsks + keptEvents;
    }

    int back() {
        asks.subList(keptAsks, asks.size()).clear();
        events.subList(keptEvents, events.size()).clear();
        return keptAsks + keptEvents;
    }

    int row(int head, int calendar, int i) {
        if (!isMind(head) || !isCal(calendar) || !in(i, 0, things.size() - 1)) {
            return NONE;
        }
        List<Integer> said = new ArrayList<>();
        for (int[] thing : things) {
            int n = said.size();
            if (n >= 3 && said.get(n - 1) >= 7 && said.get(n - 2) >= 7 && said.get(n - 3) >= 7) {
                said.add(8);
            } else {
                Told told = thing == null ? null : told(head, calendar, thing[0], thing[1], thing[2]);
                said.add(told == null ? 7 : told.answer());
            }
        }
        return said.get(i);
    }

    int run(int head, long seed, int jitter, int ease, int i) {
        if (!isMind(head) || !in(jitter, 0, 99) || !in(ease, 0, 99) || !in(i, -1, plans.size() - 1)) {
            return NONE;
        }
        long x = seed;
        int sum = 0;
        List<Integer> all = new ArrayList<>();
        for (int p = 0; p < plans.size(); p++) {
            Told told = told(minds.get(head), plans.get(p));
            if (told == null) {
                all.add(NONE);
                continue;
            }
            x *= 6364136223846793005L;
            x += 1442695040888963407L;
            int tenths = told.tenths() + (int) (x >>> 33) % (jitter + 1);
            if (p > 0 && like(plans.get(p - 1), plans.get(p))) {
                tenths = tenths < ease ? 0 : tenths - ease;
            }
            all.add(tenths);
            sum += tenths;
        }
        return i == NONE ? sum : all.get(i);
    }

    int holds(int head, int calendar, int what, int k, int from, int to) {
        if (!isMind(head) || !isCal(calendar) || !span(from, to) || !in(what, 0, 1)) {
            return NONE;
        }
        List<int[]> lines = what == 0 ? minds.get(head).steps : minds.get(head).pairs;
        if (!in(k, 0, lines.size() - 1)) {
            return NONE;
        }
        int[] line = lines.get(k);
        Cal cal = cals.get(calendar);
        int found = 0;
        for (int y = from; y <= to; y++) {
            if (what == 1) {
                found += cal.alike(y, line[0], line[1]) ? 1 : 0;
            } else if (y + line[1] <= to) {
                found += cal.kind(y) != NONE && cal.kind(y) == cal.kind(y + line[1]) ? 1 : 0;
            }
        }
        return found;
    }

    int right(int head, int calendar, int y, int what) {
        if (!isMind(head) || !isCal(calendar) || !in(y, 1, 9999) || !in(what, 0, 1)) {
            return NONE;
        }
        int found = 0;
        for (int m = 1; m <= 12; m++) {
            for (int d = 1; d <= 31; d++) {
                int slip = answers(head, calendar, y, m, d, 2);
                found += slip != HIDDEN && slip == 0 == (what == 0) ? 1 : 0;
            }
        }
        return found;
    }

    int lacks(int head, int from, int to, int what) {
        if (!isMind(head) || !in(what, 0, 3) || what < 3 && !span(from, to)) {
            return NONE;
        }
        int bits = 0;
        for (int m = 1; m <= 12; m++) {
            bits += minds.get(head).months().costs[m] == NONE ? 1 << (m - 1) : 0;
        }
        int gaps = 0;
        int dear = NONE;
        int[] costs = minds.get(head).years().costs;
        for (int y = from; what < 3 && y <= to; y++) {
            gaps += costs[y] == NONE ? 1 : 0;
            if (costs[y] != NONE && (dear == NONE || costs[y] > costs[dear])) {
                dear = y;
            }
        }
        return new int[] {gaps, dear, dear == NONE ? NONE : costs[dear], bits}[what];
    }

    int unlike(int one, int other, int day) {
        if (!isCal(one) || !isCal(other) || !in(day, 0, 4000000)) {
            return NONE;
        }
        for (int on = day; on <= day + 4999; on++) {
            Date first = cals.get(one).date(on);
            if (first == null ? cals.get(other).date(on) != null : !first.equals(cals.get(other).date(on))) {
                return on;
            }
        }
        return NONE;
    }

    int rises(int one, int other, int from, int to) {
        if (!isMind(one) || !isMind(other) || !span(from, to)) {
            return HIDDEN;
        }
        int balance = 0;
        for (int y = from; y <= to; y++) {
            int first = minds.get(one).years().costs[y];
            int second = minds.get(other).years().costs[y];
            if (first != NONE && second != NONE && first != second) {
                balance += second < first ? 1 : -1;
            }
        }
        return balance;
    }

    int count(int what) {
        if (!in(what, 0, 7)) {
            return HIDDEN;
        }
        int born = birth == null ? NONE : birth.day();
        return new int[] {cals.size(), minds.size(), asks.size(), plans.size(), events.size(), tape.size(), born,
            things.size()}[what];
    }
}
