/** Promises 42 to 46. */
public final class TextsTest {
    private static final int BAD = CalendarReplicas.BAD_VALUE;
    private static final int NONE = CalendarReplicas.NONE;

    public static void main(String[] args) {
        append();
        clearText();
        textsWithoutFault();
        faultsInTheTime();
        faultsInTheOptions();
        faultPositionChangesNothing();
        print();
        printOutOfRange();
        printOfEveryPart();
        Check.end();
    }

    private static void append() {
        CalendarReplicas x = new CalendarReplicas();
        Check.due("append(31)", x.append(31), BAD);
        Check.due("append(127)", x.append(127), BAD);
        Check.due("append(-1)", x.append(-1), BAD);
        Check.due("append(largest int)", x.append(Integer.MAX_VALUE), BAD);
        Check.due("append(65536 + 32)", x.append(65536 + 32), BAD);
        Check.due("append(32)", x.append(32), 1);
        for (int i = 2; i <= 60; i++) {
            Check.due("append number " + i, x.append(126), i);
        }
        Check.due("a character too many", x.append(65), CalendarReplicas.FULL);
        Check.due("a wrong character too many", x.append(31), BAD);
        Check.due("the length", x.clearText(), 60);
    }

    private static void clearText() {
        CalendarReplicas x = new CalendarReplicas();
        Check.due("of an empty text", x.clearText(), 0);
        x.append('1');
        x.append('+');
        Check.due("of two characters", x.clearText(), 2);
        Check.due("again", x.clearText(), 0);
        Check.due("the first character then", x.append('5'), 1);
        Check.due("what was there before is gone", x.faultPosition(), 1);
    }

    private static void fault(String text, int want) {
        CalendarReplicas x = new CalendarReplicas();
        Check.type(x, text);
        Check.due("faultPosition() of '" + text + "'", x.faultPosition(), want);
    }

    private static void textsWithoutFault() {
        String[] texts = {"0+0", "1+1", "00+00", "99+99", "5+12", "10+2 r1 p03 w5 e24x2", "1+1 r0", "1+1 r3", "1+1 p0",
            "1+1 p5", "1+1 p012345", "1+1 p15", "1+1 w1", "1+1 w9", "1+1 e0x1", "1+1 e99x4", "1+1 e07x3",
            "1+1 e5x2 w1 p5 r0", "1+1 p24 r2", "1+1 w3 r1"};
        for (String text : texts) {
            fault(text, NONE);
        }
    }

    private static void faultsInTheTime() {
        fault("", 0);
        fault(" ", 0);
        fault("+", 0);
        fault("a", 0);
        fault("/", 0);
        fault(":", 0);
        fault("1", 1);
        fault("12", 2);
        fault("123+1", 2);
        fault("12-1", 2);
        fault("1 +1", 1);
        fault("12+", 3);
        fault("12+ 1", 3);
        fault("12+x", 3);
        fault("12+1x", 4);
        fault("12+123", 5);
        fault("12++1", 3);
        fault("-1+1", 0);
    }

    private static void faultsInTheOptions() {
        fault("1+1 ", 4);
        fault("1+1  r0", 4);
        fault("1+1r0", 3);
        fault("1+1 s", 4);
        fault("1+1 R0", 4);
        fault("1+1 r", 5);
        fault("1+1 r4", 5);
        fault("1+1 r/", 5);
        fault("1+1 r00", 6);
        fault("1+1 p", 5);
        fault("1+1 p ", 5);
        fault("1+1 p6", 5);
        fault("1+1 p10", 6);
        fault("1+1 p11", 6);
        fault("1+1 p056", 7);
        fault("1+1 p0123455", 11);
        fault("1+1 w", 5);
        fault("1+1 w0", 5);
        fault("1+1 w12", 6);
        fault("1+1 e", 5);
        fault("1+1 ex", 5);
        fault("1+1 e5", 6);
        fault("1+1 e5 x2", 6);
        fault("1+1 e123x1", 7);
        fault("1+1 e12", 7);
        fault("1+1 e12x", 8);
        fault("1+1 e12x0", 8);
        fault("1+1 e12x5", 8);
        fault("1+1 e12x11", 9);
        fault("1+1 r0 r0", 7);
        fault("1+1 p0 w1 p1", 10);
        fault("1+1 w1 w2", 7);
        fault("1+1 e1x1 e1x1", 9);
        fault("1+1 r0 ", 7);
        fault("1+1 x2", 4);
        fault("1+1 r0 p0 w1 e1x1 ", 17);
        fault("1+1 e1x1 w1 p0 r0 r", 17);
        fault("1+1 r0 p0 w1 e1x1x", 17);
    }

    private static void faultPositionChangesNothing() {
        CalendarReplicas x = new CalendarReplicas();
        Check.type(x, "1+");
        Check.due("too short", x.faultPosition(), 2);
        Check.due("the same again", x.faultPosition(), 2);
        Check.due("one more", x.append('1'), 3);
        Check.due("complete", x.faultPosition(), NONE);
        Check.due("no edit", x.edits(), 0);
    }

    private static void page(CalendarReplicas x, int meeting, String want) {
        Check.due("print of " + want, x.print(0, meeting), want.length());
        String page = Check.page(x);
        Check.isTrue("'" + page + "' is printed as '" + want + "'", page.equals(want));
    }

    private static void print() {
        CalendarReplicas x = new CalendarReplicas();
        Check.type(x, "07+01 w7 p135 r3");
        x.createFromText(0);
        page(x, 0, "7+1 r3 p135");
        x.create(0, 95, 1, 0, 1, 9);
        page(x, 1, "95+1 r0 p0");
        Check.type(x, "9+8 e25x4 r2 p012345");
        Check.due("createFromText", x.createFromText(0), 2);
        page(x, 2, "9+8 r2 p012345 e25x4");
        page(x, 0, "7+1 r3 p135");
        Check.type(x, "0+1 r1 p2 e03x1");
        Check.due("a series of one", x.createFromText(0), 3);
        page(x, 3, "0+1 r1 p2");
        Check.type(x, "2+1 r1 p4 e01x2");
        Check.due("a series of two", x.createFromText(0), 4);
        page(x, 4, "2+1 r1 p4 e1x2");
    }

    private static void printOutOfRange() {
        CalendarReplicas x = new CalendarReplicas();
        x.create(0, 10, 2, 0, 1, 1);
        Check.due("print(-1, 0)", x.print(-1, 0), BAD);
        Check.due("print(3, 0)", x.print(3, 0), BAD);
        Check.due("print(0, 1)", x.print(0, 1), BAD);
        Check.due("print(1, 0)", x.print(1, 0), BAD);
        Check.due("nothing is printed", x.printed(0), NONE);
        Check.due("print(0, 0)", x.print(0, 0), 10);
        Check.due("an error leaves the page", x.print(0, 1), BAD);
        Check.due("printed(0)", x.printed(0), '1');
        Check.due("printed(9)", x.printed(9), '0');
        Check.due("printed(10)", x.printed(10), NONE);
        Check.due("printed(largest int)", x.printed(Integer.MAX_VALUE), NONE);
        Check.due("printed(-1)", x.printed(-1), BAD);
        Check.due("printed(smallest int)", x.printed(Integer.MIN_VALUE), BAD);
        x.cancel(0, 0, 1);
        Check.due("the page stays when the meeting goes", x.printed(2), '+');
        x.clearText();
        Check.due("the page is not the text", x.printed(2), '+');
    }

    private static void printOfEveryPart() {
        CalendarReplicas x = new CalendarReplicas();
        x.create(0, 0, 8, 3, 63, 1);
        page(x, 0, "0+8 r3 p012345");
        x.leave(0, 0, 0, 1);
        x.leave(0, 0, 4, 1);
        x.move(0, 0, 9, 1);
        x.resize(0, 0, 2, 1);
        x.changeRoom(0, 0, 1, 1);
        page(x, 0, "9+2 r1 p1235");
    }
}
