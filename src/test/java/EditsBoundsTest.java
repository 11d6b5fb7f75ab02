/** Promises 6 to 13: the bounds of the arguments of edits, the 12 edits, and the edits that a replica cannot make. */
public final class EditsBoundsTest {
    private static final int BAD = CalendarReplicas.BAD_VALUE;
    private static final int FULL = CalendarReplicas.FULL;
    private static final int NOT = CalendarReplicas.NOT_POSSIBLE;
    private static final int REJECTED = CalendarReplicas.REJECTED;
    private static final int MAX = Integer.MAX_VALUE;
    private static final int MIN = Integer.MIN_VALUE;

    private interface Made {
        int on(CalendarReplicas x, int replica, int meeting, int value, int weight);
    }

    /** An edit of a meeting that there is, with the bounds of its value. */
    private record Change(String name, Made made, int kind, int low, int high, int plain) {
    }

    private static final Change[] CHANGES = {
        new Change("move", (x, r, m, v, w) -> x.move(r, m, v, w), CalendarReplicas.MOVE, 0, 95, 45),
        new Change("changeRoom", (x, r, m, v, w) -> x.changeRoom(r, m, v, w), CalendarReplicas.ROOM, 0, 3, 1),
        new Change("resize", (x, r, m, v, w) -> x.resize(r, m, v, w), CalendarReplicas.DURATION, 1, 8, 3),
        new Change("join", (x, r, m, v, w) -> x.join(r, m, v, w), CalendarReplicas.JOIN, 0, 5, 5),
        new Change("leave", (x, r, m, v, w) -> x.leave(r, m, v, w), CalendarReplicas.LEAVE, 0, 5, 5),
        new Change("cancel", (x, r, m, v, w) -> x.cancel(r, m, w), CalendarReplicas.CANCEL, 0, 0, 0)};

    public static void main(String[] args) {
        createAllowed();
        createRefused();
        createReturnsTheNumber();
        createFull();
        createNotPossible();
        createErrorsInTheirOrder();
        textAllowed();
        textRefused();
        textFull();
        textNotPossible();
        textErrorsInTheirOrder();
        theTextStays();
        withoutAnOptionAfterATextWithIt();
        for (Change change : CHANGES) {
            changeAllowed(change);
            changeRefused(change);
            changeOfMeetingsThatAreNotThere(change);
            changeFull(change);
        }
        moveNotPossible();
        changeRoomNotPossible();
        resizeNotPossible();
        joinNotPossible();
        leaveNotPossible();
        cancelNotPossible();
        heavyEditsPushNothingOut();
        changesErrorsInTheirOrder();
        joinAndLeaveThatDoNothing();
        Check.end();
    }

    // ---- promise 6

    private static void createAllowed() {
        for (int replica = 0; replica < 3; replica++) {
            Check.due("replica " + replica, new CalendarReplicas().create(replica, 1, 1, 1, 1, 1), 0);
        }
        Check.due("start 0", new CalendarReplicas().create(0, 0, 1, 1, 1, 1), 0);
        Check.due("start 95", new CalendarReplicas().create(0, 95, 1, 1, 1, 1), 0);
        Check.due("duration 1", new CalendarReplicas().create(0, 1, 1, 1, 1, 1), 0);
        Check.due("duration 8", new CalendarReplicas().create(0, 88, 8, 1, 1, 1), 0);
        Check.due("room 0", new CalendarReplicas().create(0, 1, 1, 0, 1, 1), 0);
        Check.due("room 3", new CalendarReplicas().create(0, 1, 1, 3, 1, 1), 0);
        for (int persons = 1; persons <= 63; persons++) {
            CalendarReplicas x = new CalendarReplicas();
            Check.due("persons " + persons, x.create(0, 1, 1, 1, persons, 1), 0);
            Check.due("personsOf", x.personsOf(0, 0), persons);
        }
        Check.due("weight 1", new CalendarReplicas().create(0, 1, 1, 1, 1, 1), 0);
        Check.due("weight 9", new CalendarReplicas().create(0, 1, 1, 1, 1, 9), 0);
    }

    private static void createRefused() {
        Scene scene = Scene.busy();
        for (int replica : new int[] {-1, 3, MAX, MIN}) {
            scene.refused("create(replica " + replica + ")", x -> x.create(replica, 44, 1, 1, 16, 1), BAD);
        }
        for (int start : new int[] {-1, 96, MAX, MIN}) {
            scene.refused("create(start " + start + ")", x -> x.create(0, start, 1, 1, 16, 1), BAD);
        }
        for (int duration : new int[] {0, -1, 9, MAX, MIN}) {
            scene.refused("create(duration " + duration + ")", x -> x.create(0, 44, duration, 1, 16, 1), BAD);
        }
        for (int room : new int[] {-1, 4, MAX, MIN}) {
            scene.refused("create(room " + room + ")", x -> x.create(0, 44, 1, room, 16, 1), BAD);
        }
        for (int persons : new int[] {0, -1, 64, 65, MAX, MIN}) {
            scene.refused("create(persons " + persons + ")", x -> x.create(0, 44, 1, 1, persons, 1), BAD);
        }
        for (int weight : new int[] {0, -1, 10, MAX, MIN}) {
            scene.refused("create(weight " + weight + ")", x -> x.create(0, 44, 1, 1, 16, weight), BAD);
        }
        scene.answers("create with none of these", x -> x.create(0, 44, 1, 1, 16, 1), 9);
    }

    private static void createReturnsTheNumber() {
        CalendarReplicas x = new CalendarReplicas();
        for (int i = 0; i < 12; i++) {
            Check.due("the number", x.create(i % 3, 8 * i, 8, 3, 32, 9), i);
            Check.due("its meeting", x.meetingOf(i), i);
            Check.due("its period", x.periodOf(i % 3, i), 0);
            Check.due("its count", x.countOf(i % 3, i), 1);
        }
        Check.due("the last one ends in slot 95", x.startOf(2, 11) + x.durationOf(2, 11), 96);
    }

    private static void createFull() {
        Scene.full().refused("create of what would be possible", x -> x.create(0, 80, 1, 1, 1, 1), FULL);
        CalendarReplicas x = new CalendarReplicas();
        for (int i = 0; i < 11; i++) {
            x.create(i % 3, i, 1, 0, 1, 1);
        }
        Check.due("the twelfth, though its replica knows few", x.create(2, 90, 1, 0, 1, 1), 11);
        Check.due("the thirteenth", x.create(2, 91, 1, 0, 1, 1), FULL);
    }

    private static void createNotPossible() {
        Scene scene = Scene.busy();
        scene.refused("create in the room of the base", x -> x.create(0, 62, 1, 3, 32, 9), NOT);
        scene.answers("create behind it", x -> x.create(0, 63, 1, 3, 32, 9), 9);
        scene.refused("create in the room of an edit", x -> x.create(1, 15, 1, 0, 32, 9), NOT);
        scene.answers("create behind it", x -> x.create(1, 16, 1, 0, 32, 9), 9);
        scene.refused("create for a person who is elsewhere", x -> x.create(1, 12, 1, 2, 2, 9), NOT);
        scene.answers("create before it", x -> x.create(1, 11, 1, 2, 2, 9), 9);
        scene.refused("create over the end", x -> x.create(0, 95, 2, 0, 1, 1), NOT);
        scene.refused("create far over the end", x -> x.create(0, 95, 8, 0, 1, 1), NOT);
        scene.refused("create in a closed room", x -> x.create(0, 19, 1, 1, 16, 1), NOT);
        scene.answers("create when it opens", x -> x.create(0, 20, 1, 1, 16, 1), 9);
        scene.refused("create in an absence", x -> x.create(0, 30, 1, 1, 4, 1), NOT);
        scene.answers("create before it", x -> x.create(0, 29, 1, 1, 4, 1), 9);
        scene.refused("create with too many persons", x -> x.create(0, 44, 1, 1, 15, 1), NOT);
        scene.answers("create with as many as may be", x -> x.create(0, 44, 1, 1, 7, 1), 9);
        Scene order = new Scene("a number that comes after meeting 0", () -> {
            CalendarReplicas x = new CalendarReplicas();
            x.addOrder(0, 1);
            x.create(0, 10, 2, 0, 1, 1);
            return x;
        });
        order.refused("create in its last slot", x -> x.create(0, 11, 1, 1, 2, 1), NOT);
        order.answers("create behind it", x -> x.create(0, 12, 1, 1, 2, 1), 1);
        order.answers("create of a replica that does not know it", x -> x.create(1, 5, 1, 1, 2, 1), 1);
    }

    private static void createErrorsInTheirOrder() {
        Scene full = Scene.full();
        full.refused("create, BAD_VALUE and FULL", x -> x.create(3, 80, 1, 1, 1, 1), BAD);
        full.refused("create, BAD_VALUE and FULL", x -> x.create(0, 80, 1, 1, 1, 10), BAD);
        full.refused("create, BAD_VALUE, FULL and NOT_POSSIBLE", x -> x.create(0, 0, 9, 0, 1, 1), BAD);
        full.refused("create, FULL and NOT_POSSIBLE", x -> x.create(0, 0, 1, 0, 1, 1), FULL);
        full.refused("create, FULL and over the end", x -> x.create(0, 95, 2, 3, 1, 1), FULL);
        Scene.busy().refused("create, BAD_VALUE and NOT_POSSIBLE", x -> x.create(0, 0, 9, 0, 1, 1), BAD);
        Scene.busy().refused("create, BAD_VALUE and NOT_POSSIBLE", x -> x.create(0, 0, 1, 0, 64, 1), BAD);
    }

    // ---- promise 7

    private static CalendarReplicas with(String text) {
        CalendarReplicas x = new CalendarReplicas();
        Check.type(x, text);
        return x;
    }

    private static void textAllowed() {
        String[] texts = {"0+1", "95+1", "88+8", "1+8", "01+08", "1+1 r0", "1+1 r3", "1+1 p0", "1+1 p5", "1+1 p012345",
            "1+1 w1", "1+1 w9", "1+1 e0x1", "1+1 e48x1", "47+1 e48x2", "1+1 e1x4", "1+8 e8x4", "95+1 e48x1",
            "1+8 e00x1", "1+1 e01x2"};
        for (String text : texts) {
            for (int replica = 0; replica < 3; replica++) {
                int of = replica;
                new Scene("'" + text + "'", () -> with(text)).answers("createFromText", x -> x.createFromText(of), 0);
            }
        }
        CalendarReplicas x = with("1+8 w9 p5 r3 e8x4");
        x.createFromText(2);
        Check.due("start", x.startOf(2, 0), 1);
        Check.due("duration", x.durationOf(2, 0), 8);
        Check.due("room", x.roomOf(2, 0), 3);
        Check.due("persons", x.personsOf(2, 0), 32);
        Check.due("weight", x.weightOf(0), 9);
        Check.due("period", x.periodOf(2, 0), 8);
        Check.due("count", x.countOf(2, 0), 4);
    }

    private static void textRefused() {
        Scene busy = Scene.busy();
        for (int replica : new int[] {-1, 3, MAX, MIN}) {
            busy.refused("createFromText(" + replica + ")", x -> x.createFromText(replica), BAD);
        }
        String[] outOfRange = {"96+1", "99+1", "1+0", "1+00", "1+9", "1+99", "1+1 e49x1", "1+1 e99x1", "1+1 e49x2",
            "96+0 e49x1"};
        String[] faulty = {"", "1", "1+", "1+1 ", "1+1 r4", "1+1 p", "1+1 p6", "1+1 w0", "1+1 e1", "1+1 e1x0",
            "1+1 e1x5", "1+1 r0 r0", "1+1x", "100+1", "1+100", " 1+1", "1+1 r0 p0 w1 e1x1 "};
        for (String[] texts : new String[][] {outOfRange, faulty}) {
            for (String text : texts) {
                new Scene("'" + text + "'", () -> {
                    CalendarReplicas x = Scene.makeBusy();
                    Check.type(x, text);
                    return x;
                }).refused("createFromText", x -> x.createFromText(1), BAD);
            }
        }
    }

    private static void textFull() {
        Scene scene = new Scene("12 edits", () -> {
            CalendarReplicas x = Scene.makeFull();
            Check.type(x, "80+1");
            return x;
        });
        scene.refused("createFromText of what would be possible", x -> x.createFromText(0), FULL);
        CalendarReplicas x = new CalendarReplicas();
        for (int i = 0; i < 11; i++) {
            x.create(0, i, 1, 0, 1, 1);
        }
        Check.type(x, "80+1");
        Check.due("the twelfth", x.createFromText(1), 11);
        Check.due("the thirteenth", x.createFromText(2), FULL);
    }

    private static void textNotPossible() {
        String[] texts = {"95+2", "89+8", "48+1 e48x2", "0+8 e2x2", "0+2 e1x2", "0+1 e0x2", "0+1 e48x3", "20+1 r1 p0123",
            "10+1 r1", "0+1 p5 r1 e10x2", "30+1 p2", "20+1 p2 e10x2", "0+1 p5 r0", "60+1 r3 p5", "0+1 r2 p0"};
        for (String text : texts) {
            new Scene("'" + text + "'", () -> {
                CalendarReplicas x = Scene.makeBusy();
                Check.type(x, text);
                return x;
            }).refused("createFromText", x -> x.createFromText(0), NOT);
        }
        new Scene("a text whose meeting is accepted already", () -> {
            CalendarReplicas x = with("10+2");
            x.createFromText(0);
            return x;
        }).refused("createFromText again", x -> x.createFromText(0), NOT);
    }

    private static void textErrorsInTheirOrder() {
        for (String text : new String[] {"0+9", "96+1", "0+1 e49x1", "0+1 ", ""}) {
            new Scene("12 edits and '" + text + "'", () -> {
                CalendarReplicas x = Scene.makeFull();
                Check.type(x, text);
                return x;
            }).refused("createFromText, BAD_VALUE before FULL and NOT_POSSIBLE", x -> x.createFromText(0), BAD);
        }
        Scene possible = new Scene("12 edits and a time that is booked", () -> {
            CalendarReplicas x = Scene.makeFull();
            Check.type(x, "0+1");
            return x;
        });
        possible.refused("createFromText, FULL before NOT_POSSIBLE", x -> x.createFromText(0), FULL);
        possible.refused("createFromText, BAD_VALUE before FULL", x -> x.createFromText(3), BAD);
        Scene booked = new Scene("a time that is booked", () -> {
            CalendarReplicas x = Scene.makeBusy();
            Check.type(x, "0+1");
            return x;
        });
        booked.refused("createFromText, BAD_VALUE before NOT_POSSIBLE", x -> x.createFromText(-1), BAD);
        booked.refused("createFromText, NOT_POSSIBLE", x -> x.createFromText(0), NOT);
    }

    private static void theTextStays() {
        CalendarReplicas x = with("10+2 e5x2");
        Check.due("createFromText", x.createFromText(0), 0);
        Check.due("the same text for another replica", x.createFromText(1), 1);
        Check.due("the same time", x.startOf(1, 1), 10);
        Check.due("the length that it has", x.append('1'), 10);
        Check.due("with a fault now", x.createFromText(2), BAD);
        Check.due("its length", x.clearText(), 10);
    }

    /** What a text does not say is as at first, whatever the texts before it said, with a fault or without one. */
    private static void withoutAnOptionAfterATextWithIt() {
        String[] before = {"10+2 r3 p45 w9 e20x3", "10+2 r3 p45 w9 e20x3 ", "10+2 e20x3 w9 p45 r3x",
            "10+2 r3 p45 w9 e49x3"};
        String[] after = {"50+1", "50+1 r1", "50+1 p1", "50+1 w2", "50+1 e7x2"};
        for (String first : before) {
            for (int i = 0; i < after.length; i++) {
                CalendarReplicas x = with(first);
                int fault = x.faultPosition();
                x.createFromText(1);
                Check.type(x, after[i]);
                int made = x.createFromText(0);
                String what = after[i] + " after " + first;
                Check.due(what + ": the number", made, fault < 0 && !first.contains("e49") ? 1 : 0);
                Check.due(what + ": roomOf", x.roomOf(0, made), i == 1 ? 1 : 0);
                Check.due(what + ": personsOf", x.personsOf(0, made), i == 2 ? 2 : 1);
                Check.due(what + ": weightOf", x.weightOf(made), i == 3 ? 2 : 1);
                Check.due(what + ": periodOf", x.periodOf(0, made), i == 4 ? 7 : 0);
                Check.due(what + ": countOf", x.countOf(0, made), i == 4 ? 2 : 1);
            }
            CalendarReplicas x = with(first);
            x.createFromText(1);
            int made = x.create(0, 50, 1, 2, 8, 3);
            Check.due("create after " + first + ": periodOf", x.periodOf(0, made), 0);
            Check.due("create after " + first + ": countOf", x.countOf(0, made), 1);
            Check.due("create after " + first + ": weightOf", x.weightOf(made), 3);
        }
    }

    // ---- promises 8 to 13

    /** Meeting 0 at 30 and 31 in room 2 with person 1, known to the replicas 0 and 1. */
    private static CalendarReplicas oneMeeting() {
        CalendarReplicas x = new CalendarReplicas();
        x.create(0, 30, 2, 2, 2, 4);
        x.send(0, 1);
        return x;
    }

    private static void changeAllowed(Change c) {
        Scene scene = new Scene(c.name, EditsBoundsTest::oneMeeting);
        for (int replica = 0; replica < 2; replica++) {
            int of = replica;
            scene.answers("replica " + of, x -> c.made.on(x, of, 0, c.plain, 1), 1);
        }
        Scene third = new Scene(c.name + " by replica 2", () -> {
            CalendarReplicas x = oneMeeting();
            x.send(1, 2);
            return x;
        });
        third.answers("when it knows the meeting", x -> c.made.on(x, 2, 0, c.plain, 1), 1);
        scene.answers("weight 1", x -> c.made.on(x, 0, 0, c.plain, 1), 1);
        scene.answers("weight 9", x -> c.made.on(x, 0, 0, c.plain, 9), 1);
        for (int value = c.low; value <= c.high; value++) {
            int v = value;
            boolean fits = (c.kind != CalendarReplicas.MOVE || v <= 94) && (c.kind != CalendarReplicas.LEAVE || v != 1);
            if (!fits) {
                scene.refused(v + ", which is in its range", x -> c.made.on(x, 0, 0, v, 1), NOT);
                continue;
            }
            CalendarReplicas x = oneMeeting();
            Check.due(c.name + " " + v, c.made.on(x, 0, 0, v, 9), 1);
            Check.due("its kind", x.kindOf(1), c.kind);
            Check.due("its meeting", x.meetingOf(1), 0);
            Check.due("its weight", x.weightOf(1), 9);
            Check.due("its author", x.authorOf(1), 0);
            Check.due("meetings", x.meetings(0), c.kind == CalendarReplicas.CANCEL ? 0 : 1);
            if (c.kind != CalendarReplicas.CANCEL) {
                Check.due("startOf", x.startOf(0, 0), c.kind == CalendarReplicas.MOVE ? v : 30);
                Check.due("roomOf", x.roomOf(0, 0), c.kind == CalendarReplicas.ROOM ? v : 2);
                Check.due("durationOf", x.durationOf(0, 0), c.kind == CalendarReplicas.DURATION ? v : 2);
                Check.due("personsOf", x.personsOf(0, 0), c.kind == CalendarReplicas.JOIN ? 2 | 1 << v : 2);
            }
            Check.due("the other replica still has it", x.startOf(1, 0), 30);
        }
    }

    private static void changeRefused(Change c) {
        Scene scene = Scene.busy();
        for (int replica : new int[] {-1, 3, MAX, MIN}) {
            scene.refused(c.name + "(replica " + replica + ")", x -> c.made.on(x, replica, 0, c.plain, 1), BAD);
        }
        for (int weight : new int[] {0, -1, 10, MAX, MIN}) {
            scene.refused(c.name + "(weight " + weight + ")", x -> c.made.on(x, 0, 0, c.plain, weight), BAD);
        }
        if (c.kind != CalendarReplicas.CANCEL) {
            for (int value : new int[] {c.low - 1, c.high + 1, MAX, MIN}) {
                scene.refused(c.name + "(.., " + value + ")", x -> c.made.on(x, 0, 0, value, 1), BAD);
            }
        }
    }

    /** In this state the replica 0 has the meetings 0, 1 and 2, the replica 1 also 7, and the replica 2 0, 1, 7 and 8. */
    private static void changeOfMeetingsThatAreNotThere(Change c) {
        Scene scene = Scene.busy();
        for (int meeting : new int[] {-1, 3, 4, 5, 6, 7, 8, 9, 12, MAX, MIN}) {
            scene.refused(c.name + "(0, " + meeting + ", ..)", x -> c.made.on(x, 0, meeting, c.plain, 1), BAD);
        }
        scene.refused(c.name + " of a rejected meeting", x -> c.made.on(x, 1, 3, c.plain, 1), BAD);
        scene.refused(c.name + " of the number of a move", x -> c.made.on(x, 1, 4, c.plain, 1), BAD);
        scene.refused(c.name + " of an unknown meeting", x -> c.made.on(x, 1, 8, c.plain, 1), BAD);
        scene.refused(c.name + " of the meeting of a blocked edit", x -> c.made.on(x, 2, 2, c.plain, 1), BAD);
        new Scene("a cancelled meeting", () -> {
            CalendarReplicas x = oneMeeting();
            x.cancel(0, 0, 1);
            return x;
        }).refused(c.name, x -> c.made.on(x, 0, 0, c.plain, 1), BAD);
        scene.answers(c.name + " of a meeting of the base", x -> c.made.on(x, 2, 0, c.plain, 1), 9);
    }

    private static void changeFull(Change c) {
        Scene full = Scene.full();
        full.refused(c.name + " of what would be possible", x -> c.made.on(x, 0, 4, c.plain, 1), FULL);
        full.refused(c.name + ", BAD_VALUE and FULL", x -> c.made.on(x, 3, 4, c.plain, 1), BAD);
        full.refused(c.name + ", BAD_VALUE and FULL", x -> c.made.on(x, 0, 24, c.plain, 1), BAD);
        full.refused(c.name + ", BAD_VALUE and FULL", x -> c.made.on(x, 0, 4, c.plain, 10), BAD);
        if (c.kind != CalendarReplicas.CANCEL) {
            full.refused(c.name + ", BAD_VALUE and FULL", x -> c.made.on(x, 0, 4, c.high + 1, 1), BAD);
        }
        CalendarReplicas x = oneMeeting();
        for (int i = 1; i < 11; i++) {
            x.create(2, i, 1, 0, 1, 1);
        }
        Check.due(c.name + " as the twelfth edit", c.made.on(x, 0, 0, c.plain, 1), 11);
        Check.due(c.name + " as the thirteenth edit", c.made.on(x, 1, 0, c.plain, 1), FULL);
    }

    /**
     * Meeting 0 at 10 and 11 with the persons 0 and 1 in room 0; 1 beside it with person 2 in room 2; a third one that
     * is rejected for 1; and single slots from 40 on. Room 1 is for one person.
     */
    private static CalendarReplicas tight(int edits) {
        CalendarReplicas x = new CalendarReplicas();
        x.setRoom(1, 1, 0, 0);
        x.create(0, 10, 2, 0, 3, 5);
        x.create(0, 10, 2, 2, 4, 5);
        x.create(1, 11, 1, 2, 8, 4);
        x.send(1, 0);
        for (int i = 3; i < edits; i++) {
            x.create(0, 40 + i, 1, 3, 1, 1);
        }
        return x;
    }

    private static void changesErrorsInTheirOrder() {
        Scene eleven = new Scene("11 edits", () -> tight(11));
        Scene twelve = new Scene("12 edits", () -> tight(12));
        int[][] impossible = {{0, 0, 50}, {1, 0, 1}, {2, 9, 2}, {3, 0, 2}, {4, 1, 2}, {5, 1, 0}};
        for (int[] row : impossible) {
            Change c = CHANGES[row[0]];
            int meeting = row[1];
            int value = row[2];
            eleven.refused(c.name + " alone", x -> c.made.on(x, 0, meeting, value, 1), NOT);
            eleven.refused(c.name + ", BAD_VALUE and NOT_POSSIBLE", x -> c.made.on(x, 0, meeting, value, 10), BAD);
            eleven.refused(c.name + ", BAD_VALUE and NOT_POSSIBLE", x -> c.made.on(x, 0, meeting, value, 0), BAD);
            twelve.refused(c.name + ", FULL and NOT_POSSIBLE", x -> c.made.on(x, 0, meeting, value, 1), FULL);
            twelve.refused(c.name + ", BAD_VALUE, FULL and NOT_POSSIBLE",
                    x -> c.made.on(x, 0, meeting, value, 10), BAD);
        }
    }

    /** Meeting 0 at 30 to 33 in room 0 with persons 0 and 1; 1 at 40 and 41 in room 1 with person 0; 2 is a series. */
    private static CalendarReplicas three() {
        CalendarReplicas x = new CalendarReplicas();
        x.setRoom(2, 1, 0, 0);
        x.setRoom(3, 6, 33, 36);
        x.setAbsence(1, 50, 60);
        x.setAbsence(3, 30, 31);
        x.setAbsence(4, 33, 34);
        x.setAbsence(5, 29, 30);
        x.create(0, 30, 4, 0, 3, 4);
        x.create(0, 40, 2, 1, 1, 4);
        Check.type(x, "80+2 r1 p2 e6x3 w4");
        x.createFromText(0);
        x.addOrder(0, 1);
        return x;
    }

    private static final Scene THREE = new Scene("three meetings", EditsBoundsTest::three);

    private static void moveNotPossible() {
        THREE.refused("move 0 into the slot of person 0", x -> x.move(0, 0, 37, 9), NOT);
        THREE.answers("move 0 just before", x -> x.move(0, 0, 36, 9), 3);
        THREE.refused("move 0 behind 1, against the order", x -> x.move(0, 0, 42, 9), NOT);
        THREE.refused("move 1 into the slot of person 0", x -> x.move(0, 1, 33, 9), NOT);
        THREE.answers("move 1 just behind", x -> x.move(0, 1, 34, 9), 3);
        THREE.refused("move 1 before 0, against the order", x -> x.move(0, 1, 28, 9), NOT);
        THREE.refused("move 1 over the end", x -> x.move(0, 1, 95, 9), NOT);
        THREE.answers("move 1 to the end", x -> x.move(0, 1, 94, 9), 3);
        THREE.refused("move the series over the end", x -> x.move(0, 2, 83, 9), NOT);
        THREE.answers("move the series to the end", x -> x.move(0, 2, 82, 9), 3);
        THREE.refused("move 1 into the series", x -> x.move(0, 1, 87, 9), NOT);
        THREE.answers("move 1 between two times of the series", x -> x.move(0, 1, 88, 9), 3);
        THREE.answers("move to where it is", x -> x.move(0, 0, 30, 9), 3);
    }

    private static void changeRoomNotPossible() {
        THREE.refused("changeRoom of 0 to a room for one", x -> x.changeRoom(0, 0, 2, 9), NOT);
        THREE.answers("changeRoom of 1 to a room for one", x -> x.changeRoom(0, 1, 2, 9), 3);
        THREE.refused("changeRoom of 0 to a room that is closed in its last slot", x -> x.changeRoom(0, 0, 3, 9), NOT);
        THREE.answers("changeRoom of 0 to a room that is free", x -> x.changeRoom(0, 0, 1, 9), 3);
        THREE.answers("changeRoom to where it is", x -> x.changeRoom(0, 0, 0, 9), 3);
        new Scene("another meeting in the last slot of the series", () -> {
            CalendarReplicas x = three();
            x.create(0, 93, 1, 0, 8, 1);
            return x;
        }).refused("changeRoom of the series to its room", x -> x.changeRoom(0, 2, 0, 9), NOT);
        new Scene("another meeting behind the last slot of the series", () -> {
            CalendarReplicas x = three();
            x.create(0, 94, 1, 0, 8, 1);
            return x;
        }).answers("changeRoom of the series to its room", x -> x.changeRoom(0, 2, 0, 9), 4);
    }

    private static void resizeNotPossible() {
        THREE.refused("resize of the series over its period", x -> x.resize(0, 2, 7, 9), NOT);
        THREE.refused("resize of the series over the end", x -> x.resize(0, 2, 5, 9), NOT);
        THREE.answers("resize of the series up to the end", x -> x.resize(0, 2, 4, 9), 3);
        THREE.answers("resize to what it is", x -> x.resize(0, 2, 2, 9), 3);
        THREE.answers("resize of 0 to 8", x -> x.resize(0, 0, 8, 9), 3);
        new Scene("person 0 is elsewhere from 37 on", () -> {
            CalendarReplicas x = three();
            x.move(0, 1, 37, 1);
            return x;
        }).refused("resize of 0 to 8", x -> x.resize(0, 0, 8, 9), NOT);
        new Scene("person 0 is elsewhere from 38 on", () -> {
            CalendarReplicas x = three();
            x.move(0, 1, 38, 1);
            return x;
        }).answers("resize of 0 to 8", x -> x.resize(0, 0, 8, 9), 4);
    }

    private static void joinNotPossible() {
        THREE.refused("join of one who is absent in its first slot", x -> x.join(0, 0, 3, 9), NOT);
        THREE.refused("join of one who is absent in its last slot", x -> x.join(0, 0, 4, 9), NOT);
        THREE.answers("join of one who is absent before", x -> x.join(0, 0, 5, 9), 3);
        THREE.answers("join of one who is in another meeting later", x -> x.join(0, 0, 2, 9), 3);
        new Scene("a meeting in the room for one", () -> {
            CalendarReplicas x = three();
            x.changeRoom(0, 1, 2, 1);
            return x;
        }).refused("join of a second one", x -> x.join(0, 1, 5, 9), NOT);
        new Scene("a meeting in the room for one", () -> {
            CalendarReplicas x = three();
            x.changeRoom(0, 1, 2, 1);
            return x;
        }).answers("join of the one who is in it", x -> x.join(0, 1, 0, 9), 4);
        new Scene("person 2 is elsewhere in the last slot", () -> {
            CalendarReplicas x = three();
            x.create(0, 33, 1, 1, 4, 1);
            return x;
        }).refused("join", x -> x.join(0, 0, 2, 9), NOT);
    }

    private static void leaveNotPossible() {
        THREE.refused("leave of the only person", x -> x.leave(0, 1, 0, 9), NOT);
        THREE.answers("leave of one who is not in it", x -> x.leave(0, 1, 5, 9), 3);
        THREE.answers("leave of one of two", x -> x.leave(0, 0, 0, 9), 3);
        new Scene("one of two has left", () -> {
            CalendarReplicas x = three();
            x.leave(0, 0, 0, 1);
            return x;
        }).refused("leave of the other one", x -> x.leave(0, 0, 1, 9), NOT);
    }

    /** A meeting that is rejected for the one that would be cancelled; so the set would have it and not only the cancel. */
    private static void cancelNotPossible() {
        Scene scene = new Scene("a rejected meeting", () -> {
            CalendarReplicas x = new CalendarReplicas();
            x.create(0, 10, 2, 0, 1, 5);
            x.create(0, 50, 2, 0, 1, 5);
            x.create(1, 11, 2, 0, 2, 4);
            x.send(1, 0);
            return x;
        });
        scene.refused("cancel of what it is rejected for", x -> x.cancel(0, 0, 1), NOT);
        scene.refused("move of what it is rejected for", x -> x.move(0, 0, 20, 1), NOT);
        scene.refused("resize of what it is rejected for", x -> x.resize(0, 0, 1, 1), NOT);
        scene.refused("changeRoom of what it is rejected for", x -> x.changeRoom(0, 0, 1, 1), NOT);
        scene.answers("cancel of another one", x -> x.cancel(0, 1, 1), 3);
        scene.answers("move that leaves it rejected", x -> x.move(0, 0, 12, 1), 3);
    }

    /** The new edit would be accepted for its weight, but an accepted one would not be any more. */
    private static void heavyEditsPushNothingOut() {
        for (int weight : new int[] {1, 4, 9}) {
            new Scene("a light meeting", () -> {
                CalendarReplicas x = new CalendarReplicas();
                x.create(0, 10, 2, 0, 1, 1);
                x.create(0, 20, 2, 0, 1, 1);
                return x;
            }).refused("create in its place with the weight " + weight, x -> x.create(0, 10, 2, 0, 1, weight), NOT);
            THREE.refused("move onto it with the weight " + weight, x -> x.move(0, 0, 39, weight), NOT);
        }
        CalendarReplicas x = new CalendarReplicas();
        x.create(0, 10, 2, 0, 1, 9);
        x.create(1, 10, 2, 0, 2, 1);
        x.send(0, 1);
        Check.due("the light one is rejected", x.state(1, 1), REJECTED);
        Check.due("a rejected one does not hinder another one", x.create(1, 12, 2, 0, 2, 1), 2);
    }

    private static void joinAndLeaveThatDoNothing() {
        CalendarReplicas x = oneMeeting();
        long persons = x.personsOf(0, 0);
        Check.due("join of one who is in it", x.join(0, 0, 1, 1), 1);
        Check.due("nobody more", x.personsOf(0, 0), persons);
        Check.due("leave of one who is not in it", x.leave(0, 0, 0, 1), 2);
        Check.due("nobody less", x.personsOf(0, 0), persons);
        Check.due("both are edits", x.edits(), 3);
        Check.due("both are accepted", x.acceptedWeight(0), 6);
        Check.due("join at the other replica", x.join(1, 0, 1, 1), 3);
        Check.due("they clash though they do nothing", x.clash(1, 3), 1);
    }
}
