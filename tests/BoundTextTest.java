import java.util.Set;

/** The sentences that bound texts, each on both sides: the TAPE, CALENDARS, HEADS, ROWS, their FAULTS. */
public final class BoundTextTest {
    private static final int NONE = DayBoy.NONE;
    private static final int[] LENGTHS = {31, 28, 31, 30, 31, 30, 31, 31, 30, 31, 30, 31};

    public static void main(String[] args) {
        tapeMost();
        calendarsMost();
        start();
        changesMost();
        leapsMost();
        leapsNumber();
        leftOutMost();
        digits();
        blanks();
        endsTooEarly();
        noSuchDate();
        aheadOfTheFirst();
        fifthDigitFirst();
        headsMost();
        itemsOneAtLeast();
        yearsKnown();
        steps();
        months();
        monthsKnown();
        letters();
        rows();
        faultsChangeNothing();
        Due.end();
    }

    private static void fault(int sort, String text, int due) {
        DayBoy x = new DayBoy();
        Due.feed(x, text);
        Due.is("fault(" + sort + ") of \"" + text + "\"", x.fault(sort), due);
        Due.is("text(" + sort + ") of \"" + text + "\" is taken", x.text(sort) == NONE ? 0 : 1, due == NONE ? 1 : 0);
        Due.is("the TAPE behind \"" + text + "\"", x.count(5), due == NONE ? 0 : text.length());
    }

    private static void right(int sort, String text) {
        fault(sort, text, NONE);
    }

    /** A mark in the text tells where it is wrong: the byte behind it. */
    private static void wrongAt(int sort, String marked) {
        int due = marked.indexOf('|');
        fault(sort, marked.substring(0, due) + marked.substring(due + 1), due);
    }

    private static void tapeMost() {
        Due.part("feed: NONE: more than 160");
        int full = 0x20202020;
        DayBoy x = new DayBoy();
        for (int i = 1; i <= 8; i++) {
            Due.is("feed of twenty", x.feed(full, full, full, full, full), 20 * i);
        }
        Due.is("a 161st", x.feed(0, 0, 0, 0, 1), NONE);
        Due.is("nothing more is no more than 160", x.feed(0, 0, 0, 0, 0), 160);
        Due.holds("end(159)", x.end(159));
        Due.is("two more", x.feed(0, 0x01000001, 0, 0, 0), NONE);
        Due.is("count(5): not even one of them came", x.count(5), 159);
        Due.is("one more", x.feed(0, 0x00010000, 0, 0, 0), 160);
        Due.holds("end(141)", x.end(141));
        Due.is("twenty more", x.feed(full, full, full, full, full), NONE);
        Due.is("nineteen more: the 0 is left out", x.feed(full, full, 0x20200020, full, full), 160);
        right(0, "7:4+" + " ".repeat(156));
        fault(0, "7:4" + " ".repeat(157), 160);
    }

    private static void calendarsMost() {
        Due.part("CALENDARS (6 at most)");
        DayBoy x = Due.with("0:4+", "1:4+", "2:4+", "3:4+", "4:4+");
        Due.hasNoDay(x, 5, 1, 1, 1);
        Due.is("a sixth", Due.take(x, 0, "5:4+"), 5);
        Due.is("its first DAY", x.day(5, 1, 1, 1), 5);
        Due.is("a seventh", Due.take(x, 0, "6:4+"), NONE);
        Due.is("the TAPE stays", x.count(5), 4);
        Due.is("count(0)", x.count(0), 6);
        Due.hasNoDay(x, 6, 1, 1, 1);
        Due.is("the sixth one's first DAY", x.day(5, 1, 1, 1), 5);
    }

    private static void start() {
        Due.part("START (0 .. 9)");
        Due.is("START 0", Due.with("0:4+").day(0, 1, 1, 1), 0);
        Due.is("START 9", Due.with("9:4+").day(0, 1, 1, 1), 9);
        Due.is("START 0009", Due.with("0009:4+").day(0, 1, 1, 1), 9);
        wrongAt(0, "1|0:4+");
        wrongAt(0, "001|0:4+");
        wrongAt(0, "|-1:4+");
    }

    private static void changesMost() {
        Due.part("three CHANGES at most; a fourth @ is wrong");
        String two = "7:4+@1.1.1-0:4+@1.1.2-0:4+";
        right(0, "7:4+");
        right(0, "7:4+@1.1.1-0:4+");
        right(0, two);
        right(0, two + "@1.1.3-0:4+");
        wrongAt(0, two + "@1.1.3-0:4+|@1.1.4-0:4+");
        wrongAt(0, two + "@1.1.3-0:4+|@");
        wrongAt(0, two + "@1.1.3-0:4+ |@");
        DayBoy x = Due.with(two + "@1.1.3-1:4+");
        Due.is("the third one leaves out", x.day(0, 1, 1, 5), x.day(0, 1, 1, 3) + 1);
    }

    private static void leapsMost() {
        Due.part("LEAPS: one to eight; a ninth is wrong");
        String seven = "7:1+1-1+1-1+1-1+";
        wrongAt(0, "7:|");
        wrongAt(0, "7:|@1.1.1-0:4+");
        right(0, "7:1+");
        right(0, seven + "1-");
        Due.is("the eighth one tells", Due.with(seven + "1-").many(0, 4, 2), 28);
        Due.is("the eighth one tells", Due.with(seven + "4+").many(0, 4, 2), 29);
        wrongAt(0, seven + "1-|1+");
        wrongAt(0, seven + "1-|12345+");
        wrongAt(0, seven + "1-|0+");
        wrongAt(0, seven + "1- |4");
        right(0, seven + "1-@1.1.1-0:1+1-1+1-1+1-1+1-");
        wrongAt(0, seven + "1-@1.1.1-0:1+1-1+1-1+1-1+1-|1+");
        wrongAt(0, "7:4+@1.1.1-0:|");
        wrongAt(0, "7:4+@1.1.1-0:|@1.1.2-0:4+");
    }

    private static void leapsNumber() {
        Due.part("a number (1 .. 9,999) and + or - behind it");
        wrongAt(0, "7:|0+");
        wrongAt(0, "7:000|0+");
        wrongAt(0, "7:4+|0-");
        Due.is("every year", Due.with("7:1+").many(0, 9999, 2), 29);
        Due.is("the last year", Due.with("7:9999+").many(0, 9999, 2), 29);
        Due.is("the year ahead of it", Due.with("7:9999+").many(0, 9998, 2), 28);
        wrongAt(0, "7:1000|0+");
        wrongAt(0, "7:4|");
        wrongAt(0, "7:4|*");
        wrongAt(0, "7:4|,");
        right(0, "7:4-");
    }

    private static void leftOutMost() {
        Due.part("N (0 .. 30)");
        DayBoy x = Due.with("7:4+@5.3.1-0:4+", "7:4+@5.3.1-30:4+", "7:4+@5.3.1-1:4+");
        Due.is("none left out", x.day(0, 5, 3, 2), x.day(0, 5, 3, 1) + 1);
        Due.is("one left out", x.day(2, 5, 3, 3), x.day(2, 5, 3, 1) + 1);
        Due.is("thirty left out", x.day(1, 5, 4, 1), x.day(1, 5, 3, 1) + 1);
        Due.hasNoDay(x, 1, 5, 3, 2);
        Due.hasNoDay(x, 1, 5, 3, 31);
        wrongAt(0, "7:4+@5.3.1-3|1:4+");
        wrongAt(0, "7:4+@5.3.1-003|1:4+");
        wrongAt(0, "7:4+@5.3.1-|-1:4+");
        right(0, "7:4+@5.3.1-0030:4+");
    }

    private static void digits() {
        Due.part("Numbers have 1 to 4 digits");
        String[] ahead = {"", "7:", "7:4+@", "7:4+@1.", "7:4+@1.1.", "7:4+@1.1.1-"};
        String[] behind = {":4+", "+", ".1.1-0:4+", ".1-0:4+", "-0:4+", ":4+"};
        for (int i = 0; i < ahead.length; i++) {
            wrongAt(0, ahead[i] + "|" + behind[i]);
            right(0, ahead[i] + "1" + behind[i]);
            right(0, ahead[i] + "0001" + behind[i]);
            wrongAt(0, ahead[i] + "0000|1" + behind[i]);
        }
        String[] letters = {"k", "k1-", "y", "y1:", "m", "m2=", "m2=1:", "o", "s", "r", "b", "l"};
        String[] tails = {"-9", "", ":1", "", "=2:1", ":1", "", "", "", "", "", ""};
        for (int i = 0; i < letters.length; i++) {
            wrongAt(1, letters[i] + "|" + tails[i]);
            right(1, letters[i] + "1" + tails[i]);
            right(1, letters[i] + "0001" + tails[i]);
            wrongAt(1, letters[i] + "0000|1" + tails[i]);
        }
        String[] parts = {"", "1.", "1.1."};
        String[] rests = {".1.1", ".1", ""};
        for (int i = 0; i < parts.length; i++) {
            wrongAt(2, parts[i] + "|" + rests[i]);
            right(2, parts[i] + "1" + rests[i]);
            right(2, parts[i] + "9999" + rests[i]);
            wrongAt(2, parts[i] + "9999|9" + rests[i]);
        }
    }

    private static void blanks() {
        Due.part("Blanks (32) may stand between all these, not within numbers");
        spread(0, "7", ":", "4", "+", "100", "-", "@", "1", ".", "2", ".", "28", "-", "0", ":", "4", "+");
        spread(1, "k", "1", "-", "22", ",", "y", "1", ":", "1", ",", "m", "1", "=", "2", ":", "1", ",", "o", "1",
                ",", "s", "0", ",", "r", "10", ",", "b", "0", ",", "l", "0");
        spread(2, "2000", ".", "12", ".", "31", ";", "?", ";", "0", ".", "0", ".", "0");
        wrongAt(0, "0 |7:4+");
        wrongAt(0, "7:1 |0+");
        wrongAt(0, "7:4+@1 |0.1.1-0:4+");
        wrongAt(0, "7:4+@1.1 |0.1-0:4+");
        wrongAt(0, "7:4+@1.1.1 |0-0:4+");
        wrongAt(0, "7:4+@1.1.1-1 |0:4+");
        wrongAt(1, "k1 |0-20");
        wrongAt(1, "k1-2 |0");
        wrongAt(1, "y1 |0:1");
        wrongAt(1, "y10:1 |0");
        wrongAt(1, "m1 |0=1:1");
        wrongAt(1, "o1 |0");
        wrongAt(1, "s1 |0");
        wrongAt(2, "1 |0.1.1");
        wrongAt(2, "1.1 |0.1");
        wrongAt(2, "1.1.1 |0");
    }

    /** At each place, the two ends too, a blank is taken and its neighbours among the bytes are not. */
    private static void spread(int sort, String... pieces) {
        for (int at = 0; at <= pieces.length; at++) {
            String ahead = String.join("", java.util.Arrays.copyOf(pieces, at));
            String behind = String.join("", java.util.Arrays.copyOfRange(pieces, at, pieces.length));
            right(sort, ahead + " " + behind);
            right(sort, ahead + "   " + behind);
            for (char sign : new char[] {9, 10, 31, 33, 160}) {
                wrongAt(sort, ahead + "|" + sign + behind);
            }
        }
    }

    private static void endsTooEarly() {
        Due.part("FAULT: the length, if it ends too early");
        // lengths at which the text is whole
        prefixes(0, "7:4+100-@10.12.31-30:4+", Set.of(4, 8, 23));
        prefixes(1, "k10-12,y28:1,m1=2:3,o4,s5,r6,b7,l8", Set.of(6, 12, 19, 22, 25, 28, 31, 34));
        prefixes(2, "2000.10.1;?;1.1.1", Set.of(9, 11, 17));
    }

    private static void prefixes(int sort, String text, Set<Integer> whole) {
        for (int end = 0; end <= text.length(); end++) {
            String early = text.substring(0, end);
            // k10-1 is whole by its form, but 1 is below 10
            int due = whole.contains(end) ? NONE : early.equals("k10-1") ? 4 : end;
            fault(sort, early, due);
        }
        wrongAt(sort, "|");
        wrongAt(sort, "  |");
    }

    private static void noSuchDate() {
        Due.part("D too, if there is no such date by LEAPS ahead (within 1 .. 31 and its month)");
        for (int m = 1; m <= 12; m++) {
            int last = LENGTHS[m - 1];
            right(0, "7:4+@5." + m + ".1-0:4+");
            right(0, "7:4+@5." + m + "." + last + "-0:4+");
            wrongAt(0, "7:4+@5." + m + ".|0-0:4+");
            String beyond = "" + (last + 1);
            wrongAt(0, "7:4+@5." + m + "." + beyond.charAt(0) + "|" + beyond.charAt(1) + "-0:4+");
        }
        wrongAt(0, "7:4+@5.1.3|2-0:4+");
        wrongAt(0, "7:4+@5.1.999|9-0:4+");
        right(0, "7:4+@4.2.29-0:4+");
        wrongAt(0, "7:4+@4.2.3|0-0:4+");
        right(0, "7:4+@1900.2.29-0:4+100-");
        wrongAt(0, "7:4+100-@1900.2.2|9-0:4+");
        wrongAt(0, "7:4+@1899.1.1-0:4+100-@1900.2.2|9-0:4+");
        right(0, "7:4+100-@1899.1.1-0:4+@1900.2.29-0:4+100-");
        Due.part("bounds of Y and M");
        wrongAt(0, "7:4+@|0.1.1-0:4+");
        right(0, "7:4+@1.1.1-0:4+");
        right(0, "7:4+@9999.1.1-0:4+");
        wrongAt(0, "7:4+@1000|0.1.1-0:4+");
        wrongAt(0, "7:4+@1.|0.1-0:4+");
        right(0, "7:4+@1.12.1-0:4+");
        wrongAt(0, "7:4+@1.1|3.1-0:4+");
    }

    private static void aheadOfTheFirst() {
        Due.part("or if the date is ahead of the first one behind the CHANGE ahead");
        String british = "5:4+@1752.9.2-11:4+";
        wrongAt(0, british + "@1752.9.1|3-0:4+");
        right(0, british + "@1752.9.14-0:4+");
        wrongAt(0, british + "@1752.8.3|1-0:4+");
        wrongAt(0, british + "@1751.10.3|1-0:4+");
        right(0, british + "@1752.10.1-0:4+");
        right(0, british + "@1753.1.1-0:4+");
        wrongAt(0, british + "@1752.9.14-2:4+@1752.9.1|6-0:4+");
        right(0, british + "@1752.9.14-2:4+@1752.9.17-0:4+");
        // over the end of the month, and of the year
        wrongAt(0, "7:4+@5.4.30-0:4+@5.4.3|0-0:4+");
        right(0, "7:4+@5.4.30-0:4+@5.5.1-0:4+");
        wrongAt(0, "7:4+@5.12.31-30:4+@6.1.3|0-0:4+");
        right(0, "7:4+@5.12.31-30:4+@6.1.31-0:4+");
        wrongAt(0, "7:4+@5.12.31-0:4+@5.12.3|1-0:4+");
        right(0, "7:4+@5.12.31-0:4+@6.1.1-0:4+");
        // Where LEAPS behind have no 29 February, that date is as 28 February for counting
        wrongAt(0, "7:4+@4.2.29-0:1-@4.2.2|8-0:4+");
        right(0, "7:4+@4.2.29-0:1-@4.3.1-0:4+");
        wrongAt(0, "7:4+@4.2.29-1:1-@4.3.|1-0:4+");
        right(0, "7:4+@4.2.29-1:1-@4.3.2-0:4+");
        wrongAt(0, "7:4+@4.2.29-1:4+@4.3.|1-0:4+");
        right(0, "7:4+@4.2.29-1:4+@4.3.2-0:4+");
        wrongAt(0, "7:1-@4.2.28-0:4+@4.2.2|8-0:4+");
        right(0, "7:1-@4.2.28-0:4+@4.2.29-0:4+");
        // none is behind 31.12.9999
        right(0, "7:4+@9999.12.1-29:4+@9999.12.31-0:4+");
        wrongAt(0, "7:4+@9999.12.1-30:4+@9999.12.3|1-0:4+");
    }

    private static void fifthDigitFirst() {
        Due.part("a fifth digit (asked ahead of bounds) is wrong");
        wrongAt(0, "999|9:4+");
        wrongAt(0, "9999|9:4+");
        wrongAt(0, "7:4+@1.999|9.1-0:4+");
        wrongAt(0, "7:4+@1.9999|9.1-0:4+");
        wrongAt(0, "7:4+@1.1.999|9-0:4+");
        wrongAt(0, "7:4+@1.1.9999|9-0:4+");
        wrongAt(0, "7:4+@1.1.1-999|9:4+");
        wrongAt(0, "7:4+@1.1.1-9999|9:4+");
        wrongAt(0, "7:000|0+");
        wrongAt(0, "7:0000|0+");
        wrongAt(1, "o999|9");
        wrongAt(1, "o9999|9");
        wrongAt(1, "k9-000|8");
        wrongAt(1, "k9-0000|8");
        wrongAt(1, "y7:1,y000|7:1");
        wrongAt(1, "y7:1,y0000|7:1");
        wrongAt(1, "m7=000|7:1");
        wrongAt(1, "m7=0000|7:1");
    }

    private static void headsMost() {
        Due.part("HEADS (8 at most)");
        DayBoy x = new DayBoy();
        for (int head = 0; head < 7; head++) {
            Due.head(x, "k1-" + (head + 1));
        }
        Due.is("no eighth yet", x.lacks(7, 1, 9, 0), NONE);
        Due.is("an eighth", Due.take(x, 1, "k1-8"), 7);
        Due.is("its GAPS", x.lacks(7, 1, 9, 0), 1);
        Due.is("a ninth", Due.take(x, 1, "k1-9"), NONE);
        Due.is("the TAPE stays", x.count(5), 4);
        Due.is("count(1)", x.count(1), 8);
        Due.is("no ninth", x.lacks(8, 1, 9, 0), NONE);
        Due.is("the eighth one's GAPS", x.lacks(7, 1, 9, 0), 1);
    }

    private static void itemsOneAtLeast() {
        Due.part("ITEMS with , between, one at least");
        wrongAt(1, "|");
        wrongAt(1, "|,s1");
        right(1, "s1");
        wrongAt(1, "s1|;r1");
        wrongAt(1, "s1|r1");
        wrongAt(1, "s1,|");
        wrongAt(1, "s1,|,r1");
        right(1, "s1,r1");
        for (char letter = 'a'; letter <= 'z'; letter++) {
            if ("kymosrbl".indexOf(letter) < 0) {
                wrongAt(1, "|" + letter + "1");
            }
        }
        wrongAt(1, "|S1");
        wrongAt(1, "|K1-2");
    }

    private static void yearsKnown() {
        Due.part("k A - B (YEARS A .. B are known; B no less; six at most)");
        wrongAt(1, "k|0-5");
        right(1, "k1-1");
        right(1, "k9999-9999");
        wrongAt(1, "k1000|0-9999");
        wrongAt(1, "k1-1000|0");
        wrongAt(1, "k1-|0");
        wrongAt(1, "k8-|7");
        right(1, "k8-8");
        right(1, "k8-9");
        wrongAt(1, "k2000-199|9");
        DayBoy x = new DayBoy();
        Due.head(x, "k10-12");
        int[] gaps = {1, 0, 0, 0, 1};
        for (int y = 9; y <= 13; y++) {
            Due.is("GAPS of " + y, x.lacks(0, y, y, 0), gaps[y - 9]);
        }
        String six = "k1-1,k2-2,k3-3,k4-4,k5-5,k6-6";
        right(1, six);
        wrongAt(1, six + ",|k7-7");
        wrongAt(1, six + ", |k0");
        Due.head(x, six);
        Due.is("the sixth one counts", x.lacks(1, 6, 6, 0), 0);
    }

    private static void steps() {
        Due.part("y N : C (1 .. 400, each N once, 0 .. 99; six at most)");
        wrongAt(1, "y|0:1");
        right(1, "y1:1");
        right(1, "y400:1");
        wrongAt(1, "y40|1:1");
        right(1, "y1:0");
        right(1, "y1:99");
        wrongAt(1, "y1:10|0");
        wrongAt(1, "y1:1,y|1:2");
        wrongAt(1, "y12:1,y1:1,y1|2:2");
        right(1, "y12:1,y1:1,y2:2");
        String six = "y1:1,y2:1,y3:1,y4:1,y5:1,y400:99";
        right(1, six);
        wrongAt(1, six + ",|y6:1");
        wrongAt(1, six + ",|y1:1");
        DayBoy x = new DayBoy();
        Due.head(x, six + ",k1-1");
        Due.is("the sixth one counts", x.holds(0, 0, 0, 5, 1, 2), NONE);
        Due.take(x, 0, "7:4+");
        Due.is("the sixth one counts", x.holds(0, 0, 0, 5, 1, 2), 0);
        Due.is("there is no seventh", x.holds(0, 0, 0, 6, 1, 2), NONE);
    }

    private static void months() {
        Due.part("m A = B : C (unlike, 1 .. 12; 0 .. 99; twelve at most)");
        wrongAt(1, "m|0=1:1");
        right(1, "m1=2:1");
        right(1, "m12=11:1");
        wrongAt(1, "m1|3=1:1");
        wrongAt(1, "m2=|0:1");
        right(1, "m2=1:1");
        right(1, "m2=12:1");
        wrongAt(1, "m2=1|3:1");
        wrongAt(1, "m2=|2:1");
        wrongAt(1, "m12=1|2:1");
        right(1, "m1=2:0");
        right(1, "m1=2:99");
        wrongAt(1, "m1=2:10|0");
        right(1, "m1=2:1,m2=1:1,m1=2:2");
        String twelve = "m1=2:1" + ",m1=2:1".repeat(10) + ",m3=4:1";
        right(1, twelve);
        wrongAt(1, twelve + ",|m1=2:1");
        DayBoy x = Due.with("7:4+");
        Due.head(x, twelve + ",o4");
        Due.is("the twelfth one counts", x.lacks(0, 1, 1, 3), 4095 - 4 - 8);
        Due.is("the twelfth one counts", x.holds(0, 0, 1, 11, 1, 2), 0);
        Due.is("there is no thirteenth", x.holds(0, 0, 1, 12, 1, 2), NONE);
    }

    private static void monthsKnown() {
        Due.part("o M (a month known; each once)");
        wrongAt(1, "o|0");
        right(1, "o1");
        right(1, "o12");
        wrongAt(1, "o1|3");
        wrongAt(1, "o3,o|3");
        wrongAt(1, "o12,o1,o1|2");
        right(1, "o12,o1,o2");
        DayBoy x = new DayBoy();
        Due.head(x, "o1,o2,o3,o4,o5,o6,o7,o8,o9,o10,o11,o12");
        Due.is("LACKS of all known", x.lacks(0, 1, 1, 3), 0);
    }

    private static void letters() {
        Due.part("s C, r C, b C, l C (0 .. 99; each once; 0 without)");
        String letters = "srbl";
        for (int i = 0; i < 4; i++) {
            char letter = letters.charAt(i);
            char other = letters.charAt((i + 1) % 4);
            right(1, letter + "0");
            right(1, letter + "99");
            wrongAt(1, letter + "10|0");
            wrongAt(1, letter + "0,|" + letter + "0");
            wrongAt(1, letter + "5," + other + "5,|" + letter + "100");
            right(1, letter + "5," + other + "5");
        }
        // the 9th in a leap year: one seven, one day left over
        DayBoy x = Due.with(Due.GREGORIAN);
        String[] texts = {"", ",s0", ",s99", ",r99", ",b99", ",l99", ",s99,r99,b99,l99"};
        int[] due = {0, 0, 99, 99, 99, 99, 4 * 99};
        for (int i = 0; i < texts.length; i++) {
            int head = Due.head(x, "k2000-2000" + texts[i]);
            Due.is("TENTHS by k2000-2000" + texts[i], x.answers(head, 0, 2000, 1, 9, 1), due[i]);
        }
    }

    private static void rows() {
        Due.part("A ROW: Y . M . D or ?, with ; between, one at least; from 0 on to 9,999");
        wrongAt(2, "|");
        wrongAt(2, "|;?");
        right(2, "?");
        wrongAt(2, "?;|");
        wrongAt(2, "?;|;?");
        wrongAt(2, "?|,?");
        wrongAt(2, "?|?");
        wrongAt(2, "?|.1.1");
        right(2, "0.0.0");
        right(2, "9999.9999.9999");
        wrongAt(2, "1.1.1|.1");
        wrongAt(2, "1|;?");
        wrongAt(2, "1.1|;?");
        DayBoy x = new DayBoy();
        Due.is("no ROW", x.count(7), 0);
        Due.is("80 things", Due.take(x, 2, "?;".repeat(79) + "?"), 80);
        Due.is("count(7)", x.count(7), 80);
        wrongAt(2, "?;".repeat(80) + "|");
        Due.is("one thing instead", Due.take(x, 2, "?"), 1);
        Due.is("count(7)", x.count(7), 1);
        Due.is("refused", Due.take(x, 2, ""), NONE);
        Due.is("count(7)", x.count(7), 1);
    }

    private static void faultsChangeNothing() {
        Due.part("if refused it stays; what is refused changes nothing");
        String[] texts = {"7:4+@1.1.1-31:4+", "k1-2,k2-1", "1.1.1;?;"};
        for (String text : texts) {
            DayBoy x = Due.with(Due.GREGORIAN);
            Due.head(x, "k1-9");
            Due.take(x, 2, "1.1.1;?");
            Due.feed(x, text);
            String before = State.of(x);
            for (int sort = -1; sort <= 3; sort++) {
                Due.is("text(" + sort + ") of \"" + text + "\"", x.text(sort), NONE);
                Due.holds("nothing has changed", before.equals(State.of(x)));
            }
            Due.fails("end beyond", x.end(text.length() + 1));
            Due.holds("nothing has changed", before.equals(State.of(x)));
        }
    }
}
