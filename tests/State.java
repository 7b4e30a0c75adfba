import java.util.NoSuchElementException;

/** All that an object shows of itself, so that two moments can be told apart. */
final class State {
    private static final int[][] DATES = {{1, 1, 1}, {1752, 9, 14}, {1900, 2, 29}, {2000, 10, 1}, {9999, 12, 31}};

    private State() {
    }

    static String of(DayBoy x) {
        StringBuilder text = new StringBuilder();
        for (int what = 0; what <= 7; what++) {
            add(text, x.count(what));
        }
        for (int sort = 0; sort <= 2; sort++) {
            add(text, x.fault(sort));
            add(text, x.spell(sort));
        }
        addCalendars(x, text);
        addHeads(x, text);
        addAsks(x, text);
        for (int plan = 0; plan < x.count(3); plan++) {
            add(text, x.parted(plan, (1 << x.count(1)) - 1));
        }
        return text.toString();
    }

    private static void add(StringBuilder text, int answer) {
        text.append(answer).append(' ');
    }

    private static void addCalendars(DayBoy x, StringBuilder text) {
        for (int calendar = 0; calendar < x.count(0); calendar++) {
            for (int[] date : DATES) {
                add(text, dayOf(x, calendar, date));
                add(text, x.held(calendar, date[0], date[1], date[2]));
                add(text, x.age(calendar, date[0], date[1], date[2]));
            }
        }
    }

    private static int dayOf(DayBoy x, int calendar, int[] date) {
        try {
            return x.day(calendar, date[0], date[1], date[2]);
        } catch (NoSuchElementException none) {
            return DayBoy.NONE;
        }
    }

    private static void addHeads(DayBoy x, StringBuilder text) {
        for (int head = 0; head < x.count(1); head++) {
            add(text, x.lacks(head, 1, 9999, 0));
            add(text, x.lacks(head, 1, 9999, 3));
            add(text, x.odds(head, 999));
            add(text, x.so(head, 0));
            add(text, x.run(head, 0, 99, 0, DayBoy.NONE));
            for (int i = 0; i < x.count(7); i++) {
                add(text, x.row(head, 0, i));
            }
        }
    }

    private static void addAsks(DayBoy x, StringBuilder text) {
        for (int ask = 0; ask < x.count(2); ask++) {
            for (int what = 0; what <= 5; what++) {
                add(text, x.asked(ask, what));
            }
        }
        for (int what = 0; what <= 1; what++) {
            add(text, x.lived(what));
            add(text, x.after(what));
        }
    }
}
