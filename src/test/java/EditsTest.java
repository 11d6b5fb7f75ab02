/** Promises 6 to 13. */
public final class EditsTest {
    private static final int BAD = CalendarReplicas.BAD_VALUE;
    private static final int FULL = CalendarReplicas.FULL;
    private static final int NOT = CalendarReplicas.NOT_POSSIBLE;
    private static final int MAX = Integer.MAX_VALUE;
    private static final int MIN = Integer.MIN_VALUE;

    public static void main(String[] args) {
        createOutOfRange();
        create();
        createInvalid();
        createFromText();
        createFromTextWithFaults();
        createFromTextInvalid();
        wrongArguments();
        move();
        changeRoom();
        resize();
        joinAndLeave();
        cancel();
        full();
        fullComesBeforeNotPossible();
        editThatWouldChangeTheRest();
        Check.end();
    }

    /** Meeting 0 at 10 to 13 in room 1 with the persons 0 and 1, meeting 1 at 20 to 21 in room 0 with person 0. */
    private static CalendarReplicas twoMeetings() {
        CalendarReplicas x = new CalendarReplicas();
        x.setRoom(2, 1, 30, 40);
        x.create(0, 10, 4, 1, 3, 4);
        x.create(0, 20, 2, 0, 1, 4);
        return x;
    }

    private static void createOutOfRange() {
        CalendarReplicas x = new CalendarReplicas();
        Check.due("create(replica -1)", x.create(-1, 0, 1, 0, 1, 1), BAD);
        Check.due("create(replica 3)", x.create(3, 0, 1, 0, 1, 1), BAD);
        Check.due("create(start -1)", x.create(0, -1, 1, 0, 1, 1), BAD);
        Check.due("create(start 96)", x.create(0, 96, 1, 0, 1, 1), BAD);
        Check.due("create(duration 0)", x.create(0, 0, 0, 0, 1, 1), BAD);
        Check.due("create(duration 9)", x.create(0, 0, 9, 0, 1, 1), BAD);
        Check.due("create(room -1)", x.create(0, 0, 1, -1, 1, 1), BAD);
        Check.due("create(room 4)", x.create(0, 0, 1, 4, 1, 1), BAD);
        Check.due("create(persons 0)", x.create(0, 0, 1, 0, 0, 1), BAD);
        Check.due("create(persons 64)", x.create(0, 0, 1, 0, 64, 1), BAD);
        Check.due("create(weight 0)", x.create(0, 0, 1, 0, 1, 0), BAD);
        Check.due("create(weight 10)", x.create(0, 0, 1, 0, 1, 10), BAD);
        Check.due("create(extreme)", x.create(MAX, MIN, MAX, MIN, MAX, MIN), BAD);
        Check.due("nothing was made", x.edits(), 0);
    }

    private static void create() {
        CalendarReplicas x = new CalendarReplicas();
        Check.due("create 0", x.create(2, 95, 1, 3, 63, 9), 0);
        Check.due("create 1", x.create(1, 0, 8, 0, 1, 1), 1);
        Check.due("replica 0 has none", x.meetings(0), 0);
        Check.due("the number of the meeting", x.meetingAt(2, 0), 0);
        Check.due("start", x.startOf(2, 0), 95);
        Check.due("duration", x.durationOf(2, 0), 1);
        Check.due("room", x.roomOf(2, 0), 3);
        Check.due("persons", x.personsOf(2, 0), 63);
        Check.due("period", x.periodOf(2, 0), 0);
        Check.due("count", x.countOf(2, 0), 1);
        Check.due("kind", x.kindOf(1), CalendarReplicas.CREATE);
        Check.due("meeting of the edit", x.meetingOf(1), 1);
        Check.due("author", x.authorOf(1), 1);
        Check.due("weight", x.weightOf(0), 9);
    }

    private static void createInvalid() {
        CalendarReplicas x = new CalendarReplicas();
        Check.due("over the end", x.create(0, 89, 8, 0, 1, 1), NOT);
        Check.due("up to the end", x.create(0, 88, 8, 0, 1, 1), 0);
        Check.due("the same room", x.create(0, 95, 1, 0, 2, 1), NOT);
        Check.due("the same person", x.create(0, 88, 1, 1, 3, 1), NOT);
        Check.due("another room, other persons", x.create(0, 88, 8, 1, 62, 1), 1);
        Check.due("the same room just before", x.create(0, 87, 1, 0, 63, 1), 2);
        Check.due("across the middle", x.create(0, 44, 8, 2, 4, 1), 3);
        Check.due("in the middle", x.create(0, 47, 2, 2, 8, 1), NOT);
        Check.due("a refused number is not used", x.create(1, 0, 1, 0, 1, 1), 4);
    }

    private static void createFromText() {
        CalendarReplicas x = new CalendarReplicas();
        Check.type(x, "5+2");
        Check.due("5+2", x.createFromText(1), 0);
        Check.due("room without option", x.roomOf(1, 0), 0);
        Check.due("persons without option", x.personsOf(1, 0), 1);
        Check.due("weight without option", x.weightOf(0), 1);
        Check.due("period without option", x.periodOf(1, 0), 0);
        Check.due("count without option", x.countOf(1, 0), 1);
        Check.due("start", x.startOf(1, 0), 5);
        Check.due("duration", x.durationOf(1, 0), 2);
        Check.due("the text stays", x.clearText(), 3);
        Check.type(x, "07+08 w7 e24x3 p135 r3");
        Check.due("all options", x.createFromText(1), 1);
        Check.due("start", x.startOf(1, 1), 7);
        Check.due("duration", x.durationOf(1, 1), 8);
        Check.due("room", x.roomOf(1, 1), 3);
        Check.due("persons", x.personsOf(1, 1), 42);
        Check.due("weight", x.weightOf(1), 7);
        Check.due("period", x.periodOf(1, 1), 24);
        Check.due("count", x.countOf(1, 1), 3);
        Check.due("author", x.authorOf(1), 1);
        Check.due("kind", x.kindOf(1), CalendarReplicas.CREATE);
        Check.type(x, "0+1 r1 p2 e48x1");
        Check.due("a period with the count 1", x.createFromText(0), 2);
        Check.due("the period is kept", x.periodOf(0, 2), 48);
        Check.type(x, "95+1 e0x1");
        Check.due("a start of 95", x.createFromText(0), 3);
    }

    private static void createFromTextWithFaults() {
        CalendarReplicas x = new CalendarReplicas();
        Check.due("an empty text", x.createFromText(0), BAD);
        Check.type(x, "10+2 ");
        Check.due("a fault", x.createFromText(0), BAD);
        Check.type(x, "96+1");
        Check.due("start 96", x.createFromText(0), BAD);
        Check.type(x, "10+0");
        Check.due("duration 0", x.createFromText(0), BAD);
        Check.type(x, "10+9");
        Check.due("duration 9", x.createFromText(0), BAD);
        Check.type(x, "10+1 e49x1");
        Check.due("period 49", x.createFromText(0), BAD);
        Check.type(x, "10+1");
        Check.due("replica -1", x.createFromText(-1), BAD);
        Check.due("replica 3", x.createFromText(3), BAD);
        Check.due("nothing was made", x.edits(), 0);
        for (int i = 0; i < 12; i++) {
            x.create(0, 2 * i, 1, 0, 1, 1);
        }
        Check.due("12 edits", x.createFromText(0), FULL);
        Check.type(x, "10+9");
        Check.due("a wrong value before FULL", x.createFromText(0), BAD);
    }

    private static void createFromTextInvalid() {
        CalendarReplicas x = new CalendarReplicas();
        Check.type(x, "10+3 e2x2");
        Check.due("a period below the duration", x.createFromText(0), NOT);
        Check.type(x, "10+3 e3x2");
        Check.due("a period of the duration", x.createFromText(0), 0);
        Check.type(x, "10+3 r1 p1 e2x1");
        Check.due("a short period with the count 1", x.createFromText(0), 1);
        Check.type(x, "47+1 r2 p2 e48x2");
        Check.due("the last time in slot 95", x.createFromText(0), 2);
        Check.type(x, "48+1 r2 p2 e48x2");
        Check.due("the last time after slot 95", x.createFromText(1), NOT);
        Check.type(x, "95+1 r2 p3 w9");
        Check.due("the room is booked by the second time", x.createFromText(0), NOT);
        Check.type(x, "94+1 r2 p3 w9");
        Check.due("before the second time", x.createFromText(0), 3);
        Check.type(x, "96+1 r2 p3 w9");
        Check.due("BAD_VALUE before NOT_POSSIBLE", x.createFromText(0), BAD);
    }

    private static void wrongArguments() {
        CalendarReplicas x = twoMeetings();
        int[] replicas = {-1, 3, 1, MAX, MIN, 0, 0, 0, 0, 0, 0};
        int[] meetings = {0, 0, 0, 0, 0, -1, 2, MAX, MIN, 0, 0};
        int[] weights = {1, 1, 1, 1, 1, 1, 1, 1, 1, 0, 10};
        for (int i = 0; i < replicas.length; i++) {
            String tail = "(" + replicas[i] + ", " + meetings[i] + ", .., " + weights[i] + ")";
            Check.due("move" + tail, x.move(replicas[i], meetings[i], 50, weights[i]), BAD);
            Check.due("changeRoom" + tail, x.changeRoom(replicas[i], meetings[i], 3, weights[i]), BAD);
            Check.due("resize" + tail, x.resize(replicas[i], meetings[i], 2, weights[i]), BAD);
            Check.due("join" + tail, x.join(replicas[i], meetings[i], 5, weights[i]), BAD);
            Check.due("leave" + tail, x.leave(replicas[i], meetings[i], 5, weights[i]), BAD);
            Check.due("cancel" + tail, x.cancel(replicas[i], meetings[i], weights[i]), BAD);
        }
        Check.due("move to -1", x.move(0, 0, -1, 1), BAD);
        Check.due("move to 96", x.move(0, 0, 96, 1), BAD);
        Check.due("changeRoom to -1", x.changeRoom(0, 0, -1, 1), BAD);
        Check.due("changeRoom to 4", x.changeRoom(0, 0, 4, 1), BAD);
        Check.due("resize to 0", x.resize(0, 0, 0, 1), BAD);
        Check.due("resize to 9", x.resize(0, 0, 9, 1), BAD);
        Check.due("join of -1", x.join(0, 0, -1, 1), BAD);
        Check.due("join of 6", x.join(0, 0, 6, 1), BAD);
        Check.due("leave of -1", x.leave(0, 0, -1, 1), BAD);
        Check.due("leave of 6", x.leave(0, 0, 6, 1), BAD);
        Check.due("nothing was made", x.edits(), 2);
    }

    private static void move() {
        CalendarReplicas x = twoMeetings();
        Check.due("onto the other meeting", x.move(0, 0, 18, 9), NOT);
        Check.due("over the end", x.move(0, 0, 93, 9), NOT);
        Check.due("beside the other meeting", x.move(0, 0, 16, 9), 2);
        Check.due("startOf", x.startOf(0, 0), 16);
        Check.due("kindOf", x.kindOf(2), CalendarReplicas.MOVE);
        Check.due("meetingOf", x.meetingOf(2), 0);
        Check.due("weightOf", x.weightOf(2), 9);
        Check.due("to where it is", x.move(0, 0, 16, 1), 3);
        Check.due("to slot 92", x.move(0, 0, 92, 1), 4);
        Check.due("the latest one counts", x.startOf(0, 0), 92);
        Check.due("to slot 0", x.move(0, 1, 0, 1), 5);
    }

    private static void changeRoom() {
        CalendarReplicas x = twoMeetings();
        Check.due("too small a room", x.changeRoom(0, 0, 2, 1), NOT);
        Check.due("a room that is free", x.changeRoom(0, 0, 0, 2), 2);
        Check.due("roomOf", x.roomOf(0, 0), 0);
        Check.due("kindOf", x.kindOf(2), CalendarReplicas.ROOM);
        Check.due("a small room for one person", x.changeRoom(0, 1, 2, 1), 3);
        Check.due("to the highest room", x.changeRoom(0, 1, 3, 1), 4);
        Check.due("another meeting there", x.create(0, 20, 2, 0, 2, 1), 5);
        Check.due("a room that is booked", x.changeRoom(0, 1, 0, 1), NOT);
    }

    private static void resize() {
        CalendarReplicas x = twoMeetings();
        Check.due("up to 8", x.resize(0, 0, 8, 2), 2);
        Check.due("durationOf", x.durationOf(0, 0), 8);
        Check.due("kindOf", x.kindOf(2), CalendarReplicas.DURATION);
        Check.due("down to 1", x.resize(0, 0, 1, 2), 3);
        Check.due("move beside the other", x.move(0, 0, 19, 2), 4);
        Check.due("over the other", x.resize(0, 0, 2, 2), NOT);
        Check.type(x, "40+2 r3 p5 e4x2");
        Check.due("a series", x.createFromText(0), 5);
        Check.due("up to its period", x.resize(0, 5, 4, 1), 6);
        Check.due("over its period", x.resize(0, 5, 5, 1), NOT);
    }

    private static void joinAndLeave() {
        CalendarReplicas x = twoMeetings();
        Check.due("a person joins", x.join(0, 0, 5, 2), 2);
        Check.due("personsOf", x.personsOf(0, 0), 35);
        Check.due("kindOf", x.kindOf(2), CalendarReplicas.JOIN);
        Check.due("one who is in it", x.join(0, 0, 5, 2), 3);
        Check.due("personsOf", x.personsOf(0, 0), 35);
        Check.due("a person leaves", x.leave(0, 0, 0, 2), 4);
        Check.due("personsOf", x.personsOf(0, 0), 34);
        Check.due("kindOf", x.kindOf(4), CalendarReplicas.LEAVE);
        Check.due("one who is not in it", x.leave(0, 0, 2, 2), 5);
        Check.due("personsOf", x.personsOf(0, 0), 34);
        Check.due("the highest person leaves and joins", x.leave(0, 0, 5, 2), 6);
        Check.due("personsOf", x.personsOf(0, 0), 2);
        x.join(0, 0, 5, 2);
        Check.due("the last person", x.leave(0, 1, 0, 1), NOT);
        Check.due("the small room", x.changeRoom(0, 1, 2, 1), 8);
        Check.due("beyond its capacity", x.join(0, 1, 1, 1), NOT);
        Check.due("a second meeting at the time", x.create(0, 10, 1, 0, 8, 1), 9);
        Check.due("a person who is elsewhere", x.join(0, 9, 5, 1), NOT);
        Check.due("the one who left", x.join(0, 9, 0, 1), 10);
    }

    private static void cancel() {
        CalendarReplicas x = twoMeetings();
        Check.due("cancel", x.cancel(0, 0, 9), 2);
        Check.due("meetings", x.meetings(0), 1);
        Check.due("the other one stays", x.meetingAt(0, 0), 1);
        Check.due("kindOf", x.kindOf(2), CalendarReplicas.CANCEL);
        Check.due("meetingOf", x.meetingOf(2), 0);
        Check.due("again", x.cancel(0, 0, 9), BAD);
        Check.due("move of it", x.move(0, 0, 1, 1), BAD);
        Check.due("its time is free", x.create(0, 10, 4, 1, 3, 4), 3);
    }

    private static void full() {
        CalendarReplicas x = twoMeetings();
        for (int i = 2; i < 12; i++) {
            Check.due("edit " + i, x.move(0, 0, 2 * i + 20, 1), i);
        }
        Check.due("create", x.create(0, 70, 1, 3, 1, 1), FULL);
        Check.due("move", x.move(0, 0, 70, 1), FULL);
        Check.due("changeRoom", x.changeRoom(0, 0, 3, 1), FULL);
        Check.due("resize", x.resize(0, 0, 1, 1), FULL);
        Check.due("join", x.join(0, 0, 4, 1), FULL);
        Check.due("leave", x.leave(0, 0, 0, 1), FULL);
        Check.due("cancel", x.cancel(0, 0, 1), FULL);
        Check.due("create, a wrong value", x.create(0, 70, 0, 3, 1, 1), BAD);
        Check.due("move, a wrong meeting", x.move(0, 5, 70, 1), BAD);
        Check.due("cancel, a wrong weight", x.cancel(0, 0, 0), BAD);
        Check.due("edits", x.edits(), 12);
    }

    private static void fullComesBeforeNotPossible() {
        CalendarReplicas x = new CalendarReplicas();
        for (int i = 0; i < 12; i++) {
            x.create(i % 3, 2 * i, 1, 0, 1, 1);
        }
        Check.due("create", x.create(0, 0, 1, 0, 1, 1), FULL);
        Check.due("leave of the only person", x.leave(0, 0, 0, 1), FULL);
    }

    /** With the move, the rejected meeting could be accepted; so the set would not be the one before and the move. */
    private static void editThatWouldChangeTheRest() {
        CalendarReplicas x = new CalendarReplicas();
        x.create(0, 0, 2, 0, 1, 5);
        x.create(1, 1, 2, 0, 2, 4);
        x.send(1, 0);
        Check.due("rejected", x.state(0, 1), CalendarReplicas.REJECTED);
        Check.due("out of the way of the rejected one", x.move(0, 0, 10, 1), NOT);
        Check.due("where it still is in the way", x.move(0, 0, 2, 1), 2);
        Check.due("cancel lets the rejected one in as well", x.cancel(0, 0, 1), NOT);
        Check.due("the calendar is as before", x.startOf(0, 0), 2);
    }
}
