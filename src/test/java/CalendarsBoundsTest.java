import java.util.function.ToIntFunction;

/** Promises 17 to 24: which replicas, indices and numbers of meetings are allowed, and which are not. */
public final class CalendarsBoundsTest {
    private static final int BAD = CalendarReplicas.BAD_VALUE;
    private static final int MAX = Integer.MAX_VALUE;
    private static final int MIN = Integer.MIN_VALUE;

    private interface Asked {
        int of(CalendarReplicas x, int replica, int meeting);
    }

    private record Value(String name, Asked asked) {
    }

    private static final Value[] VALUES = {
        new Value("startOf", (x, r, m) -> x.startOf(r, m)), new Value("durationOf", (x, r, m) -> x.durationOf(r, m)),
        new Value("roomOf", (x, r, m) -> x.roomOf(r, m)), new Value("personsOf", (x, r, m) -> x.personsOf(r, m)),
        new Value("periodOf", (x, r, m) -> x.periodOf(r, m)), new Value("countOf", (x, r, m) -> x.countOf(r, m))};

    public static void main(String[] args) {
        meetingsOfEachReplica();
        meetingsOfNone();
        meetingsOfMost();
        meetingAtBounds();
        meetingAtOfNone();
        ascendingNumbers();
        for (Value value : VALUES) {
            refused(value);
            meetingsThatAreNotThere(value);
        }
        lowestAndHighestValues();
        valuesOfEachKindOfEdit();
        Check.end();
    }

    private static void meetingsOfEachReplica() {
        Scene scene = Scene.busy();
        for (int replica : new int[] {-1, 3, MAX, MIN}) {
            scene.refused("meetings(" + replica + ")", x -> x.meetings(replica), BAD);
        }
        scene.answers("meetings(0)", x -> x.meetings(0), 3);
        scene.answers("meetings(1)", x -> x.meetings(1), 4);
        scene.answers("meetings(2)", x -> x.meetings(2), 4);
    }

    private static void meetingsOfNone() {
        CalendarReplicas x = new CalendarReplicas();
        Check.due("at first", x.meetings(0), 0);
        x.create(0, 0, 1, 0, 1, 1);
        Check.due("one", x.meetings(0), 1);
        Check.due("none at another replica", x.meetings(1), 0);
        x.cancel(0, 0, 1);
        Check.due("none when it is cancelled", x.meetings(0), 0);
    }

    private static void meetingsOfMost() {
        CalendarReplicas x = Scene.makeFull();
        for (int replica = 0; replica < 3; replica++) {
            Check.due("12 in the base and 12 of edits", x.meetings(replica), 24);
            for (int i = 0; i < 24; i++) {
                Check.due("meetingAt(" + i + ")", x.meetingAt(replica, i), i);
            }
            Check.due("meetingAt(24)", x.meetingAt(replica, 24), BAD);
        }
    }

    private static void meetingAtBounds() {
        Scene scene = Scene.busy();
        for (int replica : new int[] {-1, 3, MAX, MIN}) {
            scene.refused("meetingAt(" + replica + ", 0)", x -> x.meetingAt(replica, 0), BAD);
        }
        for (int index : new int[] {-1, 3, 24, MAX, MIN}) {
            scene.refused("meetingAt(0, " + index + ")", x -> x.meetingAt(0, index), BAD);
        }
        scene.answers("the first one", x -> x.meetingAt(0, 0), 0);
        scene.answers("the last one", x -> x.meetingAt(0, 2), 2);
        scene.answers("the last one of replica 1", x -> x.meetingAt(1, 3), 7);
        scene.refused("one behind it", x -> x.meetingAt(1, 4), BAD);
    }

    private static void meetingAtOfNone() {
        Scene.blank().refused("meetingAt(0, 0)", x -> x.meetingAt(0, 0), BAD);
        Scene.blank().refused("meetingAt(0, -1)", x -> x.meetingAt(0, -1), BAD);
    }

    /** Neither the order of their starts nor the order in which the replica got to know them. */
    private static void ascendingNumbers() {
        CalendarReplicas x = new CalendarReplicas();
        for (int i = 0; i < 6; i++) {
            x.create(i % 2, 90 - 10 * i, 1, i % 4, 1, 1);
        }
        for (int edit : new int[] {5, 2, 4, 0, 3, 1}) {
            x.sendOne(edit % 2, 2, edit);
        }
        for (int i = 0; i < 6; i++) {
            Check.due("meetingAt(2, " + i + ")", x.meetingAt(2, i), i);
            Check.due("its start", x.startOf(2, i), 90 - 10 * i);
        }
        x.cancel(2, 2, 1);
        int[] rest = {0, 1, 3, 4, 5, BAD};
        for (int i = 0; i < 6; i++) {
            Check.due("meetingAt(2, " + i + ") without 2", x.meetingAt(2, i), rest[i]);
        }
    }

    private static void refused(Value value) {
        Scene scene = Scene.busy();
        for (int replica : new int[] {-1, 3, MAX, MIN}) {
            scene.refused(value.name + "(" + replica + ", 0)", x -> value.asked.of(x, replica, 0), BAD);
        }
        for (int meeting : new int[] {-1, 3, 9, 24, MAX, MIN}) {
            scene.refused(value.name + "(1, " + meeting + ")", x -> value.asked.of(x, 1, meeting), BAD);
        }
        Scene.blank().refused(value.name + "(0, 0)", x -> value.asked.of(x, 0, 0), BAD);
    }

    private static void meetingsThatAreNotThere(Value value) {
        Scene scene = Scene.busy();
        scene.refused(value.name + " of a rejected one", x -> value.asked.of(x, 1, 3), BAD);
        scene.refused(value.name + " of the number of a move", x -> value.asked.of(x, 1, 4), BAD);
        scene.refused(value.name + " of one that only another replica has", x -> value.asked.of(x, 0, 8), BAD);
        scene.refused(value.name + " of a blocked one", x -> value.asked.of(x, 2, 2), BAD);
        CalendarReplicas x = new CalendarReplicas();
        x.create(0, 0, 1, 0, 1, 1);
        Check.isTrue(value.name + " of one that is there", value.asked.of(x, 0, 0) >= 0);
        x.cancel(0, 0, 1);
        Check.due(value.name + " of a cancelled one", value.asked.of(x, 0, 0), BAD);
    }

    private static void made(String text, ToIntFunction<CalendarReplicas> asked, int want) {
        CalendarReplicas x = new CalendarReplicas();
        Check.type(x, text);
        Check.due("createFromText of " + text, x.createFromText(0), 0);
        Check.due("of " + text, asked.applyAsInt(x), want);
        x.send(0, 1);
        x.send(0, 2);
        x.compact();
        Check.due("in the base, of " + text, asked.applyAsInt(x), want);
    }

    private static void lowestAndHighestValues() {
        made("0+1", x -> x.startOf(0, 0), 0);
        made("95+1", x -> x.startOf(0, 0), 95);
        made("0+1", x -> x.durationOf(0, 0), 1);
        made("0+8", x -> x.durationOf(0, 0), 8);
        made("0+1 r0", x -> x.roomOf(0, 0), 0);
        made("0+1 r3", x -> x.roomOf(0, 0), 3);
        made("0+1 p0", x -> x.personsOf(0, 0), 1);
        made("0+1 p5", x -> x.personsOf(0, 0), 32);
        made("0+1 p012345", x -> x.personsOf(0, 0), 63);
        made("0+1", x -> x.periodOf(0, 0), 0);
        made("0+1 e48x1", x -> x.periodOf(0, 0), 48);
        made("0+1 e48x2", x -> x.periodOf(0, 0), 48);
        made("0+1", x -> x.countOf(0, 0), 1);
        made("0+1 e1x4", x -> x.countOf(0, 0), 4);
    }

    private static void valuesOfEachKindOfEdit() {
        CalendarReplicas x = new CalendarReplicas();
        Check.type(x, "10+2 r1 p01 e9x2");
        x.createFromText(0);
        Check.due("move", x.move(0, 0, 0, 1), 1);
        Check.due("startOf", x.startOf(0, 0), 0);
        Check.due("move", x.move(0, 0, 85, 1), 2);
        Check.due("startOf", x.startOf(0, 0), 85);
        Check.due("resize", x.resize(0, 0, 1, 1), 3);
        Check.due("durationOf", x.durationOf(0, 0), 1);
        Check.due("move", x.move(0, 0, 10, 1), 4);
        Check.due("resize", x.resize(0, 0, 8, 1), 5);
        Check.due("durationOf", x.durationOf(0, 0), 8);
        Check.due("changeRoom", x.changeRoom(0, 0, 0, 1), 6);
        Check.due("roomOf", x.roomOf(0, 0), 0);
        Check.due("changeRoom", x.changeRoom(0, 0, 3, 1), 7);
        Check.due("roomOf", x.roomOf(0, 0), 3);
        Check.due("join", x.join(0, 0, 5, 1), 8);
        Check.due("personsOf", x.personsOf(0, 0), 35);
        Check.due("leave", x.leave(0, 0, 0, 1), 9);
        Check.due("personsOf", x.personsOf(0, 0), 34);
        Check.due("periodOf stays", x.periodOf(0, 0), 9);
        Check.due("countOf stays", x.countOf(0, 0), 2);
    }
}
