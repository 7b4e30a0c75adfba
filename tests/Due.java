import java.util.NoSuchElementException;

/** Counts the answers that are not those that are due, and feeds texts. */
final class Due {
    static final String GREGORIAN = "7:4+100-400+";
    static final String JULIAN = "5:4+";
    static final String BRITISH = "5:4+@1752.9.2-11:4+100-400+";

    private static int wrong;
    private static String part = "";

    private Due() {
    }

    static void part(String name) {
        part = name;
    }

    static void is(String call, long got, long due) {
        if (got != due) {
            wrong++;
            System.out.println(part + ": " + call + " answered " + got + ", due is " + due);
        }
    }

    static void holds(String call, boolean got) {
        is(call, got ? 1 : 0, 1);
    }

    static void fails(String call, boolean got) {
        is(call, got ? 1 : 0, 0);
    }

    static void hasNoDay(DayBoy x, int calendar, int y, int m, int d) {
        boolean thrown = false;
        try {
            x.day(calendar, y, m, d);
        } catch (NoSuchElementException none) {
            thrown = none.getClass() == NoSuchElementException.class;
        }
        holds("day(" + calendar + ", " + y + ", " + m + ", " + d + ") throws", thrown);
    }

    static void feed(DayBoy x, String text) {
        for (int at = 0; at < text.length(); at += 20) {
            int[] words = new int[5];
            for (int i = 0; i < 20 && at + i < text.length(); i++) {
                words[i / 4] |= text.charAt(at + i) << 24 - 8 * (i % 4);
            }
            x.feed(words[0], words[1], words[2], words[3], words[4]);
        }
    }

    /** Takes a text with an empty tape ahead of it. */
    static int take(DayBoy x, int sort, String text) {
        x.end(0);
        feed(x, text);
        return x.text(sort);
    }

    /** An object with these calendars. */
    static DayBoy with(String... calendars) {
        DayBoy x = new DayBoy();
        for (int i = 0; i < calendars.length; i++) {
            is("text(0) of " + calendars[i], take(x, 0, calendars[i]), i);
        }
        return x;
    }

    static int head(DayBoy x, String text) {
        int before = x.count(1);
        int head = take(x, 1, text);
        is("text(1) of " + text, head, before);
        return head;
    }

    static void end() {
        System.out.println(wrong == 0 ? "all answers are as due" : wrong + " answers are not as due");
        System.exit(wrong == 0 ? 0 : 1);
    }
}
