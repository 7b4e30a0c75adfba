/** What README.md shows is what the class answers. */
public final class ReadmeTest {
    public static void main(String[] args) {
        Due.part("README");
        DayBoy x = new DayBoy();
        Due.is("feed", x.feed(0x353A342B, 0, 0, 0, 0), 4);
        int calendar = x.text(0);
        Due.is("calendar", calendar, 0);
        int day = x.day(calendar, 1900, 2, 29);
        Due.is("day", day, 693673);
        Due.is("week", x.date(calendar, day, 3), 1);

        Due.is("feed", x.feed(0x6B313936, 0x302D3139, 0x39392C79, 0x32383A32, 0), 16);
        int head = x.text(1);
        Due.is("head", head, 0);
        Due.is("year", x.way(head, calendar, 2024, 1, 20, 0, 1), 1996);
        Due.is("answer", x.answers(head, calendar, 2024, 1, 20, 0), 4);
        Due.is("tenths", x.answers(head, calendar, 2024, 1, 20, 1), 2);

        Due.is("ask", x.ask(0, calendar, 2024, 1, 20, 4, 5), 0);
        Due.is("fits within 3", x.fits(3), 1);
        Due.is("fits within 2", x.fits(2), 0);

        Due.is("feed", x.feed(0x353A342A, 0, 0, 0, 0), 4);
        Due.is("text", x.text(0), DayBoy.NONE);
        Due.is("fault", x.fault(0), 3);
        Due.holds("end", x.end(0));
        Due.end();
    }
}
