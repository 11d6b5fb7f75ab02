/** Promises 17 to 24. */
public final class CalendarsTest {
    private static final int BAD = CalendarReplicas.BAD_VALUE;

    public static void main(String[] args) {
        outOfRange();
        eachReplicaHasItsOwn();
        ascendingNumbers();
        valuesOfTheBaseAndOfEdits();
        Check.end();
    }

    private static CalendarReplicas oneMeeting() {
        CalendarReplicas x = new CalendarReplicas();
        Check.type(x, "12+3 r2 p14 e20x4");
        x.createFromText(1);
        return x;
    }

    private static void outOfRange() {
        CalendarReplicas x = oneMeeting();
        int[] replicas = {-1, 3, 0, 2, 1, 1, 1, Integer.MAX_VALUE, Integer.MIN_VALUE};
        int[] meetings = {0, 0, 0, 0, -1, 1, Integer.MIN_VALUE, 0, 0};
        for (int i = 0; i < replicas.length; i++) {
            String tail = "(" + replicas[i] + ", " + meetings[i] + ")";
            Check.due("meetingAt" + tail, x.meetingAt(replicas[i], meetings[i]), BAD);
            Check.due("startOf" + tail, x.startOf(replicas[i], meetings[i]), BAD);
            Check.due("durationOf" + tail, x.durationOf(replicas[i], meetings[i]), BAD);
            Check.due("roomOf" + tail, x.roomOf(replicas[i], meetings[i]), BAD);
            Check.due("personsOf" + tail, x.personsOf(replicas[i], meetings[i]), BAD);
            Check.due("periodOf" + tail, x.periodOf(replicas[i], meetings[i]), BAD);
            Check.due("countOf" + tail, x.countOf(replicas[i], meetings[i]), BAD);
        }
        Check.due("meetings(-1)", x.meetings(-1), BAD);
        Check.due("meetings(3)", x.meetings(3), BAD);
    }

    private static void eachReplicaHasItsOwn() {
        CalendarReplicas x = oneMeeting();
        Check.due("meetings(0)", x.meetings(0), 0);
        Check.due("meetings(1)", x.meetings(1), 1);
        Check.due("meetings(2)", x.meetings(2), 0);
        Check.due("meetingAt(1, 0)", x.meetingAt(1, 0), 0);
        Check.due("startOf", x.startOf(1, 0), 12);
        Check.due("durationOf", x.durationOf(1, 0), 3);
        Check.due("roomOf", x.roomOf(1, 0), 2);
        Check.due("personsOf", x.personsOf(1, 0), 18);
        Check.due("periodOf", x.periodOf(1, 0), 20);
        Check.due("countOf", x.countOf(1, 0), 4);
        x.send(1, 2);
        x.move(2, 0, 13, 1);
        Check.due("moved at 2", x.startOf(2, 0), 13);
        Check.due("not at 1", x.startOf(1, 0), 12);
    }

    private static void ascendingNumbers() {
        CalendarReplicas x = new CalendarReplicas();
        x.create(0, 90, 1, 0, 1, 1);
        x.create(1, 50, 1, 0, 1, 1);
        x.create(2, 10, 1, 0, 1, 1);
        x.create(1, 5, 1, 0, 1, 1);
        x.send(2, 1);
        x.send(0, 1);
        x.cancel(1, 1, 1);
        Check.due("meetings", x.meetings(1), 3);
        Check.due("first", x.meetingAt(1, 0), 0);
        Check.due("second", x.meetingAt(1, 1), 2);
        Check.due("third", x.meetingAt(1, 2), 3);
        Check.due("no fourth", x.meetingAt(1, 3), BAD);
        Check.due("the cancelled one", x.startOf(1, 1), BAD);
        Check.due("the one behind it", x.startOf(1, 2), 10);
    }

    private static void valuesOfTheBaseAndOfEdits() {
        CalendarReplicas x = oneMeeting();
        x.send(1, 0);
        x.send(1, 2);
        x.compact();
        x.move(0, 0, 30, 1);
        x.changeRoom(0, 0, 3, 1);
        x.resize(0, 0, 5, 1);
        x.join(0, 0, 0, 1);
        x.leave(0, 0, 4, 1);
        Check.due("start", x.startOf(0, 0), 30);
        Check.due("room", x.roomOf(0, 0), 3);
        Check.due("duration", x.durationOf(0, 0), 5);
        Check.due("persons", x.personsOf(0, 0), 3);
        Check.due("period", x.periodOf(0, 0), 20);
        Check.due("count", x.countOf(0, 0), 4);
        Check.due("start in the base", x.startOf(1, 0), 12);
        Check.due("room in the base", x.roomOf(1, 0), 2);
        Check.due("duration in the base", x.durationOf(1, 0), 3);
        Check.due("persons in the base", x.personsOf(1, 0), 18);
        Check.due("period in the base", x.periodOf(1, 0), 20);
        Check.due("count in the base", x.countOf(1, 0), 4);
    }
}
