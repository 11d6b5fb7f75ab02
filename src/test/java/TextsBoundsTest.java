import java.util.ArrayList;
import java.util.List;

/** Promises 42 to 46: the characters and the length of a text, which may follow which, and what is printed. */
public final class TextsBoundsTest {
    private static final int BAD = CalendarReplicas.BAD_VALUE;
    private static final int FULL = CalendarReplicas.FULL;
    private static final int NOT = CalendarReplicas.NOT_POSSIBLE;
    private static final int NONE = CalendarReplicas.NONE;
    private static final int MAX = Integer.MAX_VALUE;
    private static final int MIN = Integer.MIN_VALUE;
    private static final String DIGITS = "0123456789";

    public static void main(String[] args) {
        appendOfEachCharacter();
        appendRefused();
        appendFull();
        clearTextOfEachLength();
        whatCanFollowInTheTime();
        whatCanFollowInAnOption();
        whatCanFollowThePersons();
        whatCanFollowTheOptions();
        eachOrderOfOptions();
        valuesOutOfRangeAreNoFaults();
        theFirstFaultCounts();
        textsThatEndTooEarly();
        textsOfSixtyCharacters();
        printRefused();
        printOfTheShortest();
        printOfTheLongest();
        printInPlaceOfWhatWasThere();
        printOfPeriodAndCount();
        printOfEachPerson();
        printCanBeRead();
        printedBounds();
        printedOfNothing();
        Check.end();
    }

    private static CalendarReplicas with(String text) {
        CalendarReplicas x = new CalendarReplicas();
        for (int i = 0; i < text.length(); i++) {
            Check.due("append", x.append(text.charAt(i)), i + 1);
        }
        return x;
    }

    // ---- promises 42 and 43

    private static void appendOfEachCharacter() {
        for (int character = -2; character <= 300; character++) {
            int want = character < 32 || character > 126 ? BAD : 1;
            CalendarReplicas x = new CalendarReplicas();
            Check.due("append(" + character + ")", x.append(character), want);
            Check.due("the length", x.clearText(), Math.max(want, 0));
        }
    }

    private static void appendRefused() {
        for (int character : new int[] {31, 127, 0, -1, 256 + 48, 65536 + 48, MAX, MIN}) {
            for (Scene scene : new Scene[] {Scene.blank(), Scene.busy()}) {
                scene.refused("append(" + character + ")", x -> x.append(character), BAD);
            }
        }
    }

    private static void appendFull() {
        CalendarReplicas x = new CalendarReplicas();
        for (int i = 1; i <= 60; i++) {
            Check.due("append", x.append(i % 2 == 0 ? 32 : 126), i);
        }
        Check.due("the 61st", x.append(32), FULL);
        Check.due("the 61st again", x.append(126), FULL);
        Scene.full().refused("append", y -> y.append('1'), FULL);
        Scene.full().refused("append, BAD_VALUE and FULL", y -> y.append(31), BAD);
        Scene.full().refused("append, BAD_VALUE and FULL", y -> y.append(127), BAD);
        Check.due("all 60", x.clearText(), 60);
        Check.due("there is room again", x.append('1'), 1);
    }

    private static void clearTextOfEachLength() {
        for (int length = 0; length <= 60; length++) {
            CalendarReplicas x = with("1".repeat(length));
            Check.due("clearText", x.clearText(), length);
            Check.due("clearText again", x.clearText(), 0);
            Check.due("an empty text", x.faultPosition(), 0);
        }
    }

    // ---- promise 44

    /** Which characters can follow a text that has no fault but its end, and whether it may end there. */
    private static void canFollow(String text, String characters, boolean mayEnd) {
        Check.due("'" + text + "'", with(text).faultPosition(), mayEnd ? NONE : text.length());
        for (char c = 32; c <= 126; c++) {
            int position = with(text + c).faultPosition();
            if (characters.indexOf(c) < 0) {
                Check.due("'" + text + c + "'", position, text.length());
                Check.due("'" + text + c + "1'", with(text + c + "1").faultPosition(), text.length());
            } else {
                Check.isTrue("'" + text + c + "' has no fault there, but at " + position,
                        position == NONE || position == text.length() + 1);
            }
        }
    }

    private static void whatCanFollowInTheTime() {
        canFollow("", DIGITS, false);
        for (char digit : DIGITS.toCharArray()) {
            canFollow("" + digit, DIGITS + "+", false);
            canFollow("" + digit + (char) ('0' + '9' - digit), "+", false);
            canFollow("1+" + digit, DIGITS + " ", true);
            canFollow("1+" + digit + digit, " ", true);
        }
        canFollow("1+", DIGITS, false);
        canFollow("95+", DIGITS, false);
    }

    private static void whatCanFollowInAnOption() {
        canFollow("1+1 ", "rpwe", false);
        canFollow("1+1 r", "0123", false);
        for (char digit : "0123".toCharArray()) {
            canFollow("1+1 r" + digit, " ", true);
        }
        canFollow("1+1 w", "123456789", false);
        for (char digit : "123456789".toCharArray()) {
            canFollow("1+1 w" + digit, " ", true);
        }
        canFollow("1+1 e", DIGITS, false);
        for (char digit : DIGITS.toCharArray()) {
            canFollow("1+1 e" + digit, DIGITS + "x", false);
            canFollow("1+1 e" + digit + digit, "x", false);
        }
        canFollow("1+1 e1x", "1234", false);
        canFollow("1+1 e48x", "1234", false);
        for (char digit : "1234".toCharArray()) {
            canFollow("1+1 e1x" + digit, " ", true);
        }
    }

    /** All 63 sets of persons; after each, the digits above the last one can follow, and a space. */
    private static void whatCanFollowThePersons() {
        canFollow("1+1 p", "012345", false);
        for (int set = 1; set < 64; set++) {
            StringBuilder text = new StringBuilder("1+1 p");
            int last = 0;
            for (int person = 0; person < 6; person++) {
                if ((set >> person & 1) != 0) {
                    text.append(person);
                    last = person;
                }
            }
            canFollow(text.toString(), "012345".substring(last + 1) + " ", true);
        }
    }

    private static final String[] OPTIONS = {"r0", "p0", "w1", "e1x1"};

    /** After any options in any order, a space can follow if there is one left, and then the letters of those left. */
    private static void whatCanFollowTheOptions() {
        List<int[]> orders = new ArrayList<>();
        collect(orders, new int[0]);
        Check.due("orders of up to four options", orders.size(), 1 + 4 + 12 + 24 + 24);
        for (int[] order : orders) {
            StringBuilder text = new StringBuilder("1+1");
            String left = "rpwe";
            for (int option : order) {
                text.append(' ').append(OPTIONS[option]);
                left = left.replace(OPTIONS[option].substring(0, 1), "");
            }
            String more = order.length > 0 && order[order.length - 1] == 1 ? "12345" : "";
            more = order.length == 0 ? DIGITS : more;
            canFollow(text.toString(), left.isEmpty() ? more : more + " ", true);
            if (!left.isEmpty()) {
                canFollow(text + " ", left, false);
            }
        }
    }

    private static void collect(List<int[]> orders, int[] order) {
        orders.add(order);
        for (int option = 0; option < 4; option++) {
            boolean used = false;
            for (int before : order) {
                used |= before == option;
            }
            if (!used) {
                int[] longer = new int[order.length + 1];
                System.arraycopy(order, 0, longer, 0, order.length);
                longer[order.length] = option;
                collect(orders, longer);
            }
        }
    }

    private static void eachOrderOfOptions() {
        List<int[]> orders = new ArrayList<>();
        collect(orders, new int[0]);
        for (int[] order : orders) {
            StringBuilder text = new StringBuilder("10+2");
            String[] options = {"r2", "p15", "w8", "e24x3"};
            boolean[] used = new boolean[4];
            for (int option : order) {
                text.append(' ').append(options[option]);
                used[option] = true;
            }
            CalendarReplicas x = with(text.toString());
            Check.due("createFromText of " + text, x.createFromText(0), 0);
            Check.due("roomOf", x.roomOf(0, 0), used[0] ? 2 : 0);
            Check.due("personsOf", x.personsOf(0, 0), used[1] ? 34 : 1);
            Check.due("weightOf", x.weightOf(0), used[2] ? 8 : 1);
            Check.due("periodOf", x.periodOf(0, 0), used[3] ? 24 : 0);
            Check.due("countOf", x.countOf(0, 0), used[3] ? 3 : 1);
        }
    }

    private static void valuesOutOfRangeAreNoFaults() {
        for (int value = 0; value <= 99; value++) {
            boolean fits = value >= 1 && value <= 8;
            CalendarReplicas x = with(value + "+1");
            Check.due("start " + value + ": faultPosition", x.faultPosition(), NONE);
            Check.due("start " + value + ": createFromText", x.createFromText(0), value > 95 ? BAD : 0);
            CalendarReplicas y = with("1+" + value);
            Check.due("duration " + value + ": faultPosition", y.faultPosition(), NONE);
            Check.due("duration " + value + ": createFromText", y.createFromText(0), fits ? 0 : BAD);
            CalendarReplicas z = with("1+1 e" + value + "x1");
            Check.due("period " + value + ": faultPosition", z.faultPosition(), NONE);
            Check.due("period " + value + ": createFromText", z.createFromText(0), value > 48 ? BAD : 0);
            CalendarReplicas v = with("1+1 e" + value + "x2");
            Check.due("period " + value + ", twice: faultPosition", v.faultPosition(), NONE);
            int want = value > 48 ? BAD : value == 0 ? NOT : 0;
            Check.due("period " + value + ", twice: createFromText", v.createFromText(0), want);
        }
    }

    private static void theFirstFaultCounts() {
        Check.due("a fault at 1, others later", with("1r0 r0 z").faultPosition(), 1);
        Check.due("a fault at 5, others later", with("1+1 r9 r9 p").faultPosition(), 5);
        Check.due("a fault at 0", with("x1+1").faultPosition(), 0);
        Check.due("a value out of range is none, the fault is later", with("99+9 r0 r").faultPosition(), 8);
    }

    /** Each beginning of a text without fault: where it may not end, the fault is at its length. */
    private static void textsThatEndTooEarly() {
        String text = "10+2 r1 p03 w5 e24x2";
        List<Integer> mayEnd = List.of(4, 7, 10, 11, 14, 20);
        for (int length = 0; length <= text.length(); length++) {
            int want = mayEnd.contains(length) ? NONE : length;
            Check.due("the first " + length, with(text.substring(0, length)).faultPosition(), want);
        }
    }

    private static void textsOfSixtyCharacters() {
        Check.due("60 digits", with("1".repeat(60)).faultPosition(), 2);
        Check.due("60 spaces", with(" ".repeat(60)).faultPosition(), 0);
        String longest = "10+02 r1 p012345 w5 e24x2";
        Check.due("the longest text", with(longest).faultPosition(), NONE);
        String filled = longest + " ".repeat(60 - longest.length());
        Check.due("the longest text and spaces up to 60", with(filled).faultPosition(), longest.length());
    }

    // ---- promise 45

    private static void printRefused() {
        for (Scene scene : new Scene[] {Scene.blank(), Scene.busy()}) {
            for (int replica : new int[] {-1, 3, MAX, MIN}) {
                scene.refused("print(" + replica + ", 0)", x -> x.print(replica, 0), BAD);
            }
            for (int meeting : new int[] {-1, 3, 4, 8, 9, MAX, MIN}) {
                scene.refused("print(1, " + meeting + ")", x -> x.print(1, meeting), BAD);
            }
        }
        Scene.busy().refused("print of the meeting of a blocked edit", x -> x.print(2, 2), BAD);
        Scene.busy().refused("print of a meeting that another replica has", x -> x.print(0, 7), BAD);
    }

    private static void page(CalendarReplicas x, int replica, int meeting, String want) {
        Check.due("print of " + want, x.print(replica, meeting), want.length());
        for (int i = 0; i < want.length(); i++) {
            Check.due("printed(" + i + ") of " + want, x.printed(i), want.charAt(i));
        }
        Check.due("printed behind " + want, x.printed(want.length()), NONE);
    }

    private static void printOfTheShortest() {
        CalendarReplicas x = new CalendarReplicas();
        x.create(0, 0, 1, 0, 1, 9);
        page(x, 0, 0, "0+1 r0 p0");
        x.move(0, 0, 9, 1);
        page(x, 0, 0, "9+1 r0 p0");
        x.move(0, 0, 10, 1);
        page(x, 0, 0, "10+1 r0 p0");
    }

    private static void printOfTheLongest() {
        CalendarReplicas x = with("39+8 e48x2 r3 w9 p012345");
        x.createFromText(2);
        page(x, 2, 0, "39+8 r3 p012345 e48x2");
        CalendarReplicas y = with("63+8 e08x4 r3 w9 p012345");
        y.createFromText(1);
        page(y, 1, 0, "63+8 r3 p012345 e8x4");
    }

    private static void printInPlaceOfWhatWasThere() {
        CalendarReplicas x = with("39+8 e48x2 r3 w9 p012345");
        x.createFromText(0);
        x.create(0, 5, 1, 0, 2, 1);
        page(x, 0, 0, "39+8 r3 p012345 e48x2");
        page(x, 0, 1, "5+1 r0 p1");
        for (int i = 9; i < 24; i++) {
            Check.due("nothing is left of the longer one", x.printed(i), NONE);
        }
        x.cancel(0, 1, 1);
        Check.due("print of what is gone", x.print(0, 1), BAD);
        Check.due("the page stays", x.printed(8), '1');
    }

    private static void printOfPeriodAndCount() {
        String[][] texts = {{"1+1 e0x1", "1+1 r0 p0"}, {"1+1 e48x1", "1+1 r0 p0"}, {"1+1 e1x2", "1+1 r0 p0 e1x2"},
            {"1+1 e9x3", "1+1 r0 p0 e9x3"}, {"1+1 e10x4", "1+1 r0 p0 e10x4"}, {"01+01 e09x4", "1+1 r0 p0 e9x4"}};
        for (String[] pair : texts) {
            CalendarReplicas x = with(pair[0]);
            x.createFromText(0);
            page(x, 0, 0, pair[1]);
        }
    }

    private static void printOfEachPerson() {
        for (int set = 1; set < 64; set++) {
            CalendarReplicas x = new CalendarReplicas();
            x.create(0, 20, 3, 1, set, 2);
            StringBuilder want = new StringBuilder("20+3 r1 p");
            for (int person = 0; person < 6; person++) {
                want.append((set >> person & 1) != 0 ? "" + person : "");
            }
            page(x, 0, 0, want.toString());
        }
    }

    /** What is printed has the form of the text: read again, it is the same meeting, with the weight 1. */
    private static void printCanBeRead() {
        for (String text : new String[] {"39+8 e48x2 r3 w9 p012345", "0+1", "95+1 p4 r2 w5", "7+2 e03x4 p24"}) {
            CalendarReplicas x = with(text);
            x.createFromText(0);
            x.print(0, 0);
            CalendarReplicas y = with(Check.page(x));
            Check.due("faultPosition of " + Check.page(x), y.faultPosition(), NONE);
            Check.due("createFromText", y.createFromText(0), 0);
            Check.due("weightOf", y.weightOf(0), 1);
            y.print(0, 0);
            Check.isTrue("the same page", Check.page(y).equals(Check.page(x)));
        }
    }

    // ---- promise 46

    private static void printedBounds() {
        CalendarReplicas x = with("39+8 e48x2 r3 w9 p012345");
        x.createFromText(0);
        int length = x.print(0, 0);
        Check.due("the first character", x.printed(0), '3');
        Check.due("the last character", x.printed(length - 1), '2');
        Check.due("behind the last one", x.printed(length), NONE);
        Check.due("far behind", x.printed(MAX), NONE);
        Check.due("before the first one", x.printed(-1), BAD);
        Check.due("far before", x.printed(MIN), BAD);
        Scene.busy().refused("printed(-1)", y -> y.printed(-1), BAD);
        Scene.busy().refused("printed behind", y -> y.printed(60), NONE);
    }

    private static void printedOfNothing() {
        CalendarReplicas x = new CalendarReplicas();
        Check.due("printed(0)", x.printed(0), NONE);
        Check.due("printed(-1), BAD_VALUE and NONE", x.printed(-1), BAD);
        Check.due("printed(smallest)", x.printed(MIN), BAD);
        Check.due("printed(largest)", x.printed(MAX), NONE);
        x.append('1');
        Check.due("the text is not printed", x.printed(0), NONE);
    }
}
