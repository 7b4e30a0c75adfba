/** Faults of texts: each text with its first wrong byte. */
public final class TextTest {
    public static void main(String[] args) {
        calendars();
        changes();
        heads();
        rows();
        blanks();
        bytes();
        Due.end();
    }

    private static void fault(int sort, String text, int due) {
        DayBoy x = new DayBoy();
        Due.feed(x, text);
        Due.is("fault(" + sort + ") of \"" + text + "\"", x.fault(sort), due);
        int kept = text.length();
        Due.is("the tape after fault()", x.count(5), kept);
        boolean taken = x.text(sort) != DayBoy.NONE;
        Due.is("text(" + sort + ") of \"" + text + "\" takes it", taken ? 1 : 0, due == DayBoy.NONE ? 1 : 0);
        Due.is("the tape after text()", x.count(5), taken ? 0 : kept);
    }

    private static void right(int sort, String text) {
        fault(sort, text, DayBoy.NONE);
    }

    private static void calendars() {
        Due.part("calendars");
        fault(0, "", 0);
        fault(0, "x", 0);
        fault(0, ":", 0);
        fault(0, "5", 1);
        fault(0, "5;", 1);
        fault(0, "5:", 2);
        fault(0, "5:+", 2);
        fault(0, "5:4", 3);
        fault(0, "5:4*", 3);
        right(0, "5:4+");
        right(0, "0:1-");
        right(0, "9:9999+");
        right(0, "0009:0001+");
        fault(0, "10:4+", 1);
        fault(0, "9999:4+", 3);
        fault(0, "99999:4+", 4);
        fault(0, "00001:4+", 4);
        fault(0, "5:0+", 2);
        fault(0, "5:0000+", 5);
        fault(0, "5:00000+", 6);
        fault(0, "5:10000+", 6);
        right(0, "5:1+2-3+4-5+6-7+8-");
        fault(0, "5:1+2-3+4-5+6-7+8-9+", 18);
        fault(0, "5:1+2-3+4-5+6-7+8-99999+", 18);
        fault(0, "5:4+,", 4);
        fault(0, "5:4++", 4);
        fault(0, "5:4+5", 5);
    }

    private static void changes() {
        Due.part("changes");
        fault(0, "5:4+@", 5);
        fault(0, "5:4+@.", 5);
        fault(0, "5:4+@1", 6);
        fault(0, "5:4+@1.", 7);
        fault(0, "5:4+@1.1", 8);
        fault(0, "5:4+@1.1.1", 10);
        fault(0, "5:4+@1.1.1-", 11);
        fault(0, "5:4+@1.1.1-0", 12);
        fault(0, "5:4+@1.1.1-0:", 13);
        fault(0, "5:4+@1.1.1-0:4", 14);
        right(0, "5:4+@1.1.1-0:4+");
        fault(0, "5:4+@0.1.1-0:4+", 5);
        fault(0, "5:4+@1.0.1-0:4+", 7);
        fault(0, "5:4+@1.13.1-0:4+", 8);
        fault(0, "5:4+@1.1.0-0:4+", 9);
        fault(0, "5:4+@1.1.32-0:4+", 10);
        fault(0, "5:4+@1.4.31-0:4+", 10);
        fault(0, "5:4+@1.4.031-0:4+", 11);
        fault(0, "5:4+@1.4.00031-0:4+", 13);
        right(0, "5:4+@1.4.0030-30:4+");
        fault(0, "5:4+@1.1.1-31:4+", 12);
        fault(0, "5:4+@1900.2.29-0:4+@1900.2.29-0:4+", 28);
        right(0, "5:4+@1900.2.29-0:4+100-");
        fault(0, "5:4+100-@1900.2.29-0:4+", 17);
        fault(0, "5:4+@1901.2.29-0:4+", 13);
        right(0, "5:4+@1.1.1-0:4+@1.1.2-0:4+@1.1.3-0:4+");
        fault(0, "5:4+@1.1.1-0:4+@1.1.2-0:4+@1.1.3-0:4+@1.1.4-0:4+", 37);
        fault(0, "5:4+@1.1.1-0:4+@1.1.1-0:4+", 20);
        // behind a change that leaves out the days 2 to 11 the first date is 12
        fault(0, "5:4+@1.1.1-10:4+@1.1.11-0:4+", 22);
        right(0, "5:4+@1.1.1-10:4+@1.1.12-0:4+");
        // the date is looked at ahead of what comes behind it
        fault(0, "5:4+@1.1.1-10:4+@1.1.11", 22);
        // the leaps between two changes are those that the second one's date must be of
        fault(0, "5:4+@1800.1.1-0:1-@1804.2.29-0:4+", 27);
        right(0, "5:4+@1800.1.1-0:1+@1803.2.29-0:4+");
        // 29 February counts as the 28th where there is none behind it
        fault(0, "5:4+@1900.2.29-1:1-@1900.3.1-0:4+", 27);
        right(0, "5:4+@1900.2.29-1:1-@1900.3.2-0:4+");
        fault(0, "5:1-@1900.2.28-1:1+@1900.2.29-0:1+", 28);
        right(0, "5:1-@1900.2.28-0:1+@1900.2.29-0:1+");
        // first dates in the year behind, and in none at all
        fault(0, "5:4+@1899.12.31-10:4+@1900.1.10-0:4+", 30);
        right(0, "5:4+@1899.12.31-10:4+@1900.1.11-0:4+");
        right(0, "5:4+@9999.12.31-30:4+");
        fault(0, "5:4+@9999.12.31-0:4+@9999.12.31-0:4+", 30);
        right(0, "5:4+@9999.12.01-29:4+@9999.12.31-0:4+");
        fault(0, "5:4+@9999.12.01-30:4+@9999.12.31-0:4+", 31);
        fault(0, "5:4+@0:4+", 5);
        fault(0, "5:4+@1.1.1:4+", 10);
    }

    private static void heads() {
        Due.part("heads");
        fault(1, "", 0);
        fault(1, ",", 0);
        fault(1, "5", 0);
        fault(1, "K1-2", 0);
        fault(1, "k", 1);
        fault(1, "k1", 2);
        fault(1, "k1-", 3);
        right(1, "k1-1");
        right(1, "k1-9999");
        fault(1, "k0-5", 1);
        fault(1, "k1-0", 3);
        fault(1, "k12-11", 5);
        fault(1, "k12-0009", 7);
        fault(1, "k1-10000", 7);
        fault(1, "k1-2,", 5);
        fault(1, "k1-2;", 4);
        fault(1, "k1-2k3-4", 4);
        right(1, "k1-1,k2-2,k3-3,k4-4,k5-5,k1-1");
        fault(1, "k1-1,k2-2,k3-3,k4-4,k5-5,k6-6,k7-7", 30);
        fault(1, "y", 1);
        fault(1, "y1", 2);
        fault(1, "y1:", 3);
        right(1, "y1:0");
        right(1, "y400:99");
        fault(1, "y0:1", 1);
        fault(1, "y401:1", 3);
        fault(1, "y1:100", 5);
        fault(1, "y1=1", 2);
        fault(1, "y12:1,y012:1", 9);
        fault(1, "y12:1,y12", 8);
        right(1, "y1:1,y2:1,y3:1,y4:1,y5:1,y6:1");
        fault(1, "y1:1,y2:1,y3:1,y4:1,y5:1,y6:1,y7:1", 30);
        fault(1, "m1", 2);
        fault(1, "m1=", 3);
        fault(1, "m1=2", 4);
        right(1, "m1=2:0");
        right(1, "m12=1:99");
        fault(1, "m0=1:1", 1);
        fault(1, "m13=1:1", 2);
        fault(1, "m1=13:1", 4);
        fault(1, "m1=0:1", 3);
        fault(1, "m1=1:1", 3);
        fault(1, "m1=01:1", 4);
        fault(1, "m1=2:100", 7);
        right(1, "m1=2:1,m1=2:1");
        right(1, "m1=2:1,m1=2:1,m1=2:1,m1=2:1,m1=2:1,m1=2:1,m1=2:1,m1=2:1,m1=2:1,m1=2:1,m1=2:1,m1=2:1");
        fault(1, "m1=2:1,m1=2:1,m1=2:1,m1=2:1,m1=2:1,m1=2:1,m1=2:1,m1=2:1,m1=2:1,m1=2:1,m1=2:1,m1=2:1,m1=2:1", 84);
        fault(1, "o", 1);
        right(1, "o1");
        right(1, "o12");
        fault(1, "o0", 1);
        fault(1, "o13", 2);
        fault(1, "o1,o01", 5);
        right(1, "o1,o2,o3,o4,o5,o6,o7,o8,o9,o10,o11,o12");
        fault(1, "o1,o2,o3,o4,o5,o6,o7,o8,o9,o10,o11,o12,o1", 40);
        for (char letter : "srbl".toCharArray()) {
            fault(1, letter + "", 1);
            right(1, letter + "0");
            right(1, letter + "99");
            fault(1, letter + "100", 3);
            fault(1, letter + "1," + letter + "1", 3);
            fault(1, letter + "0," + letter + "0", 3);
            fault(1, letter + ":1", 1);
        }
        right(1, "s1,r2,b3,l4,k1-2,y1:1,m1=2:1,o3");
        fault(1, "x1", 0);
        fault(1, "s1,x1", 3);
    }

    private static void rows() {
        Due.part("rows");
        fault(2, "", 0);
        fault(2, "x", 0);
        fault(2, ";", 0);
        right(2, "?");
        right(2, "0.0.0");
        right(2, "9999.9999.9999");
        fault(2, "10000.1.1", 4);
        fault(2, "1.10000.1", 6);
        fault(2, "1.1.10000", 8);
        fault(2, "1", 1);
        fault(2, "1.", 2);
        fault(2, "1.1", 3);
        fault(2, "1.1.", 4);
        fault(2, "1.1.1;", 6);
        fault(2, "1.1.1,", 5);
        fault(2, "??", 1);
        fault(2, "?;", 2);
        right(2, "?;1.2.3;?");
        fault(2, "?1.1.1", 1);
        StringBuilder most = new StringBuilder("?");
        for (int i = 1; i < 80; i++) {
            most.append(";?");
        }
        right(2, most.toString());
        fault(2, most + ";", 160);
    }

    private static void blanks() {
        Due.part("blanks");
        right(0, " 5 : 4 + 100 - @ 1 . 1 . 1 - 0 : 4 - ");
        fault(0, "5 ", 2);
        fault(0, "   ", 3);
        fault(0, "5 : 4 4 +", 6);
        fault(0, "5 : 4 + @ 1 . 4 . 3 1 - 0 : 4 +", 20);
        fault(0, "5 : 4 + x", 8);
        fault(0, "1 0:4+", 2);
        right(1, " k 1 - 2 , y 1 : 1 , m 1 = 2 : 1 , o 1 , s 0 , r 0 , b 0 , l 0 ");
        fault(1, "k 1 - 2 , ", 10);
        fault(1, "s 1 , s 1", 6);
        fault(1, "k 12 - 11 ", 8);
        fault(1, " ", 1);
        right(2, " ? ; 1 . 1 . 1 ");
        fault(2, "1 . 1 1 . 1", 6);
        fault(2, " ?; ", 4);
        fault(0, "5:4+\t", 4);
    }

    /** Bytes beyond those of the texts. */
    private static void bytes() {
        Due.part("bytes");
        for (int sort = 0; sort <= 2; sort++) {
            for (char sign : new char[] {1, 9, 10, 127, 128, 178, 255}) {
                fault(sort, sign + "", 0);
                fault(sort, " " + sign, 1);
            }
        }
        fault(0, "5\u00ff:", 1);
        fault(0, "5:4\u00b2+", 3);
    }
}
