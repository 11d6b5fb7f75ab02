/** Counts and prints the answers that are not as due, and ends a test. */
final class Check {
    private static int calls = 0;
    private static int wrong = 0;

    private Check() {
    }

    static void due(String call, long got, long want) {
        calls++;
        if (got != want) {
            wrong++;
            System.out.println(call + " answered " + got + ", due is " + want);
        }
    }

    static void isTrue(String what, boolean holds) {
        due(what, holds ? 1 : 0, 1);
    }

    /** How many answers were looked at. */
    static int calls() {
        return calls;
    }

    static boolean hasFailed() {
        return wrong > 0;
    }

    /** Puts a text in place of the one in the buffer. */
    static void type(CalendarReplicas x, String text) {
        x.clearText();
        for (int i = 0; i < text.length(); i++) {
            x.append(text.charAt(i));
        }
    }

    /** Sends until all replicas know all edits; replica 1 passes on what 0 has, and 2 what both have. */
    static void tellAll(CalendarReplicas x) {
        x.send(0, 1);
        x.send(1, 2);
        x.send(2, 1);
        x.send(2, 0);
    }

    /** What was printed, up to the first index at which there is nothing. */
    static String page(CalendarReplicas x) {
        StringBuilder page = new StringBuilder();
        for (int i = 0; x.printed(i) >= 0; i++) {
            page.append((char) x.printed(i));
        }
        return page.toString();
    }

    static void end() {
        System.out.println(calls + " answers, " + wrong + " not as due");
        if (wrong != 0) {
            System.exit(1);
        }
    }
}
