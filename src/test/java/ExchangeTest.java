/** Promises 14 to 16. */
public final class ExchangeTest {
    private static final int BAD = CalendarReplicas.BAD_VALUE;
    private static final int NOT = CalendarReplicas.NOT_POSSIBLE;

    public static void main(String[] args) {
        sendOutOfRange();
        send();
        sendPassesOn();
        sendOne();
        sendOneWithoutItsCreate();
        compact();
        compactKeepsWhatIsAccepted();
        compactFull();
        compactNeedsEachReplica();
        editsAfterCompactAreNew();
        Check.end();
    }

    private static void sendOutOfRange() {
        CalendarReplicas x = new CalendarReplicas();
        x.create(0, 0, 1, 0, 1, 1);
        int[][] wrong = {{-1, 0}, {0, -1}, {3, 0}, {0, 3}, {0, 0}, {2, 2}, {Integer.MAX_VALUE, Integer.MIN_VALUE}};
        for (int[] pair : wrong) {
            String tail = "(" + pair[0] + ", " + pair[1] + ")";
            Check.due("send" + tail, x.send(pair[0], pair[1]), BAD);
            Check.due("sendOne" + tail, x.sendOne(pair[0], pair[1], 0), BAD);
        }
    }

    private static void send() {
        CalendarReplicas x = new CalendarReplicas();
        Check.due("send of nothing", x.send(0, 1), 0);
        x.create(0, 0, 1, 0, 1, 1);
        x.create(0, 1, 1, 0, 1, 1);
        x.create(1, 5, 1, 1, 1, 1);
        Check.due("send of two", x.send(0, 1), 2);
        Check.due("send of them again", x.send(0, 1), 0);
        Check.due("replica 1 has all", x.meetings(1), 3);
        Check.due("replica 0 has not", x.meetings(0), 2);
        Check.due("send back", x.send(1, 0), 1);
        Check.due("now it has", x.meetings(0), 3);
    }

    private static void sendPassesOn() {
        CalendarReplicas x = new CalendarReplicas();
        x.create(0, 0, 1, 0, 1, 9);
        x.create(1, 0, 1, 0, 1, 1);
        x.send(0, 1);
        Check.due("rejected and accepted ones go on", x.send(1, 2), 2);
        Check.due("the same calendar", x.meetingAt(2, 0), 0);
        Check.due("the same weights", x.rejectedWeight(2), 1);
    }

    private static void sendOne() {
        CalendarReplicas x = new CalendarReplicas();
        x.create(0, 0, 1, 0, 1, 1);
        x.create(0, 1, 1, 0, 1, 1);
        Check.due("an edit that there is not", x.sendOne(0, 1, 2), BAD);
        Check.due("a negative edit", x.sendOne(0, 1, -1), BAD);
        Check.due("an edit that the sender does not know", x.sendOne(2, 1, 0), BAD);
        Check.due("the second edit", x.sendOne(0, 1, 1), 1);
        Check.due("the second edit again", x.sendOne(0, 1, 1), 0);
        Check.due("its meeting", x.meetingAt(1, 0), 1);
        Check.due("only that one", x.meetings(1), 1);
        Check.due("on to the third replica", x.sendOne(1, 2, 1), 1);
        Check.due("one that came is known", x.sendOne(2, 0, 1), 0);
    }

    private static void sendOneWithoutItsCreate() {
        CalendarReplicas x = new CalendarReplicas();
        x.create(0, 0, 1, 0, 1, 1);
        x.move(0, 0, 5, 2);
        Check.due("the move alone", x.sendOne(0, 1, 1), 1);
        Check.due("it is blocked", x.state(1, 1), CalendarReplicas.BLOCKED);
        Check.due("no meeting", x.meetings(1), 0);
        Check.due("no weight", x.acceptedWeight(1) + x.rejectedWeight(1), 0);
        Check.due("a blocked edit goes on", x.sendOne(1, 2, 1), 1);
        Check.due("its create", x.sendOne(0, 1, 0), 1);
        Check.due("it is accepted now", x.state(1, 1), CalendarReplicas.ACCEPTED);
        Check.due("both count", x.startOf(1, 0), 5);
    }

    private static void compact() {
        CalendarReplicas x = new CalendarReplicas();
        Check.due("of nothing", x.compact(), 0);
        x.create(0, 0, 1, 0, 1, 1);
        Check.due("nobody else knows the edit", x.compact(), NOT);
        x.send(0, 1);
        Check.due("replica 2 does not know it", x.compact(), NOT);
        Check.due("nothing has changed", x.edits(), 1);
        x.send(1, 2);
        Check.due("all know it", x.compact(), 1);
        Check.due("no edits", x.edits(), 0);
        Check.due("the edit is gone", x.kindOf(0), BAD);
        Check.due("the meeting is not", x.startOf(1, 0), 0);
        Check.due("no weight", x.acceptedWeight(0), 0);
        Check.due("again", x.compact(), 1);
        Check.due("numbers go on", x.create(2, 8, 1, 0, 1, 1), 1);
        Check.due("an edit of the base", x.move(1, 0, 3, 1), 2);
        Check.due("is not blocked elsewhere", x.sendOne(1, 0, 2) + x.state(0, 2), 1 + CalendarReplicas.ACCEPTED);
    }

    private static void compactKeepsWhatIsAccepted() {
        CalendarReplicas x = new CalendarReplicas();
        x.create(0, 0, 1, 0, 1, 5);
        x.create(1, 0, 1, 0, 1, 6);
        x.create(2, 3, 1, 0, 1, 6);
        x.cancel(2, 2, 1);
        x.join(1, 1, 4, 1);
        Check.tellAll(x);
        Check.due("one of three", x.compact(), 1);
        Check.due("the heavier one", x.meetingAt(0, 0), 1);
        Check.due("with its joining person", x.personsOf(2, 1), 17);
        Check.due("numbers go on after rejected ones", x.cancel(0, 1, 1), 5);
        x.send(0, 1);
        x.send(0, 2);
        Check.due("cancelled in the base", x.compact(), 0);
    }

    private static void compactNeedsEachReplica() {
        for (int lacking = 0; lacking < 3; lacking++) {
            CalendarReplicas x = new CalendarReplicas();
            int author = (lacking + 1) % 3;
            x.create(author, 0, 1, 0, 1, 1);
            x.send(author, (lacking + 2) % 3);
            Check.due("replica " + lacking + " lacks an edit", x.compact(), NOT);
        }
    }

    /** Clashes and needed creates are those of the new edits, not of those that were there before compact. */
    private static void editsAfterCompactAreNew() {
        CalendarReplicas x = new CalendarReplicas();
        x.create(0, 0, 1, 0, 1, 1);
        x.send(0, 1);
        x.move(0, 0, 5, 1);
        x.move(1, 0, 6, 1);
        Check.due("a clash", x.clash(1, 2), 1);
        x.send(0, 1);
        x.send(1, 0);
        x.send(1, 2);
        Check.due("compact", x.compact(), 1);
        x.create(0, 20, 1, 0, 1, 1);
        x.move(0, 0, 8, 1);
        x.resize(0, 0, 2, 1);
        Check.due("no clash", x.clash(4, 5), 0);
        Check.due("all accepted", x.acceptedWeight(0), 3);
        x.sendOne(0, 1, 4);
        x.sendOne(0, 1, 5);
        Check.due("edits of the base need no create", x.acceptedWeight(1), 2);
    }

    private static void compactFull() {
        CalendarReplicas x = new CalendarReplicas();
        for (int i = 0; i < 12; i++) {
            x.create(0, i, 1, 0, 1, 1);
        }
        x.send(0, 1);
        x.send(0, 2);
        Check.due("12 meetings", x.compact(), 12);
        for (int i = 0; i < 12; i++) {
            Check.due("12 more", x.create(1, 20 + i, 1, 0, 1, 1), 12 + i);
        }
        Check.due("24 meetings in a calendar", x.meetings(1), 24);
        Check.due("the last one", x.meetingAt(1, 23), 23);
        Check.due("NOT_POSSIBLE before FULL", x.compact(), NOT);
        x.send(1, 0);
        x.send(1, 2);
        Check.due("more than 12 meetings", x.compact(), CalendarReplicas.FULL);
        Check.due("nothing has changed", x.edits(), 12);
        Check.due("nothing has changed", x.meetings(2), 24);
        Check.due("nor the base", x.meetingOf(12), 12);
    }
}
