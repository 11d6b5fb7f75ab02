/** Promises 1 to 5: what is at the bounds of rooms, persons and orders, and what is refused. */
public final class RulesBoundsTest {
    private static final int BAD = CalendarReplicas.BAD_VALUE;
    private static final int FULL = CalendarReplicas.FULL;
    private static final int NOT = CalendarReplicas.NOT_POSSIBLE;
    private static final int NONE = CalendarReplicas.NONE;
    private static final int MAX = Integer.MAX_VALUE;
    private static final int MIN = Integer.MIN_VALUE;

    public static void main(String[] args) {
        looksAreSharp();
        newObjectHasThreeReplicas();
        newObjectHasRoomsAsAtFirst();
        newObjectHasPersonsAsAtFirst();
        newObjectHasNoOrders();
        newObjectHasAnEmptyTextAndPage();
        newObjectHasEmptySlots();
        newObjectsAreApart();
        setRoomAllowed();
        setRoomRefused();
        setRoomReturnsThePrevious();
        setRoomWithEdits();
        setRoomWithBase();
        setRoomWhenAllIsGone();
        setAbsenceAllowed();
        setAbsenceRefused();
        setAbsenceReturnsThePrevious();
        setAbsenceWithEditsOrBase();
        addOrderAllowed();
        addOrderRefused();
        addOrderFull();
        addOrderAgainstTheBase();
        addOrderErrorsInTheirOrder();
        addOrderRejectsEdits();
        clearOrdersOfEachNumber();
        clearOrdersRemovesAll();
        Check.end();
    }

    /** A look that saw nothing would let every refused call pass. */
    private static void looksAreSharp() {
        Scene blank = Scene.blank();
        Check.isTrue("a capacity is seen", blank.isChangedBy(x -> x.setRoom(3, 5, 0, 0)));
        Check.isTrue("a closing time is seen", blank.isChangedBy(x -> x.setRoom(3, 6, 50, 51)));
        Check.isTrue("an absence is seen", blank.isChangedBy(x -> x.setAbsence(5, 50, 51)));
        Check.isTrue("an order is seen", blank.isChangedBy(x -> x.addOrder(70, 71)));
        Check.isTrue("a lost order is seen", blank.isChangedBy(x -> x.clearOrders()));
        Scene busy = Scene.busy();
        Check.isTrue("an edit is seen", busy.isChangedBy(x -> x.leave(0, 2, 5, 1)));
        Check.isTrue("a known edit is seen", busy.isChangedBy(x -> x.sendOne(1, 0, 3)));
        Check.isTrue("a character is seen", busy.isChangedBy(x -> x.append(' ')));
        Check.isTrue("a lost text is seen", busy.isChangedBy(x -> x.clearText()));
        Check.isTrue("a page is seen", busy.isChangedBy(x -> x.print(0, 0)));
        Check.isTrue("slot 0 is seen", busy.isChangedBy(x -> x.keep(0)));
        Check.isTrue("slot 1 is seen", busy.isChangedBy(x -> x.keep(1)));
        Check.isTrue("a restored slot is seen", busy.isChangedBy(x -> x.restore(1)));
        Check.isTrue("a base is seen", Scene.full().isChangedBy(x -> x.restore(0)));
        Check.isTrue("what only reads is not seen", !busy.isChangedBy(x -> x.cost(1, 3)));
    }

    // ---- promise 1

    private static void newObjectHasThreeReplicas() {
        CalendarReplicas x = new CalendarReplicas();
        for (int replica = 0; replica < 3; replica++) {
            Check.due("new: meetings", x.meetings(replica), 0);
            Check.due("new: meetingAt(0)", x.meetingAt(replica, 0), BAD);
            Check.due("new: acceptedWeight", x.acceptedWeight(replica), 0);
            Check.due("new: rejectedWeight", x.rejectedWeight(replica), 0);
            Check.due("new: agree", x.agree(replica, (replica + 1) % 3), 1);
        }
        Check.due("new: there is no replica -1", x.meetings(-1), BAD);
        Check.due("new: there is no replica 3", x.meetings(3), BAD);
        Check.due("new: edits", x.edits(), 0);
        Check.due("new: editAt(0)", x.editAt(0), BAD);
        Check.due("new: kindOf(0)", x.kindOf(0), BAD);
        Check.due("new: compact", x.compact(), 0);
        Check.due("new: the first number", x.create(0, 0, 1, 0, 1, 1), 0);
    }

    private static void newObjectHasRoomsAsAtFirst() {
        for (int room = 0; room < 4; room++) {
            CalendarReplicas x = new CalendarReplicas();
            for (int slot = 0; slot < 96; slot++) {
                Check.due("new: room " + room + " at " + slot, x.freeStart(0, room, 1, slot), slot);
            }
            Check.due("new: six persons in room " + room, x.create(0, 95, 1, room, 63, 1), 0);
            CalendarReplicas y = new CalendarReplicas();
            Check.due("new: capacity of room " + room, y.setRoom(room, 1, 0, 0), 6);
        }
    }

    private static void newObjectHasPersonsAsAtFirst() {
        for (int person = 0; person < 6; person++) {
            CalendarReplicas x = new CalendarReplicas();
            for (int slot = 0; slot < 96; slot++) {
                Check.due("new: person " + person + " at " + slot, x.commonStart(0, 1 << person, 1, slot), 10 * slot);
            }
            Check.due("new: absence of person " + person, x.setAbsence(person, 0, 0), 0);
            Check.due("new: busySlots of person " + person, x.busySlots(1, person), 0);
        }
    }

    private static void newObjectHasNoOrders() {
        Check.due("new: clearOrders", new CalendarReplicas().clearOrders(), 0);
        Check.due("new: the first order", new CalendarReplicas().addOrder(0, 1), 1);
    }

    private static void newObjectHasAnEmptyTextAndPage() {
        Check.due("new: clearText", new CalendarReplicas().clearText(), 0);
        Check.due("new: faultPosition", new CalendarReplicas().faultPosition(), 0);
        Check.due("new: the first character", new CalendarReplicas().append('1'), 1);
        Check.due("new: printed(0)", new CalendarReplicas().printed(0), NONE);
    }

    private static void newObjectHasEmptySlots() {
        Check.due("new: restore(0)", new CalendarReplicas().restore(0), NOT);
        Check.due("new: restore(1)", new CalendarReplicas().restore(1), NOT);
    }

    private static void newObjectsAreApart() {
        CalendarReplicas x = Scene.makeBusy();
        CalendarReplicas y = new CalendarReplicas();
        Check.due("a new one beside another: checksum", y.checksum(), new CalendarReplicas().checksum());
        Check.due("a new one beside another: text", y.clearText(), 0);
        Check.due("a new one beside another: orders", y.clearOrders(), 0);
        Check.due("a new one beside another: page", y.printed(0), NONE);
        Check.due("a new one beside another: slot", y.restore(0), NOT);
        Check.due("a new one beside another: number", y.create(0, 0, 1, 0, 1, 1), 0);
        Check.due("the other one", x.checksum(), Scene.makeBusy().checksum());
    }

    // ---- promise 2

    private static void setRoomAllowed() {
        Check.due("room 0", new CalendarReplicas().setRoom(0, 6, 0, 0), 6);
        Check.due("room 3", new CalendarReplicas().setRoom(3, 6, 0, 0), 6);
        Check.due("capacity 1", new CalendarReplicas().setRoom(0, 1, 0, 0), 6);
        Check.due("capacity 6", new CalendarReplicas().setRoom(0, 6, 0, 0), 6);
        Check.due("from 0, to 0", new CalendarReplicas().setRoom(0, 6, 0, 0), 6);
        Check.due("from 0, to 96", new CalendarReplicas().setRoom(0, 6, 0, 96), 6);
        Check.due("from 96, to 96", new CalendarReplicas().setRoom(0, 6, 96, 96), 6);
        Check.due("from 95, to 96", new CalendarReplicas().setRoom(0, 6, 95, 96), 6);
        Check.due("to as from", new CalendarReplicas().setRoom(0, 6, 50, 50), 6);
    }

    private static void setRoomRefused() {
        Scene scene = Scene.blank();
        for (int room : new int[] {-1, 4, MAX, MIN}) {
            scene.refused("setRoom(room " + room + ")", x -> x.setRoom(room, 4, 50, 60), BAD);
        }
        for (int capacity : new int[] {0, -1, 7, MAX, MIN}) {
            scene.refused("setRoom(capacity " + capacity + ")", x -> x.setRoom(0, capacity, 50, 60), BAD);
        }
        for (int from : new int[] {-1, 97, MAX, MIN}) {
            scene.refused("setRoom(from " + from + ")", x -> x.setRoom(0, 4, from, 96), BAD);
            scene.refused("setRoom(from and to " + from + ")", x -> x.setRoom(0, 4, from, from), BAD);
        }
        for (int to : new int[] {49, 97, -1, MAX, MIN}) {
            scene.refused("setRoom(from 50, to " + to + ")", x -> x.setRoom(0, 4, 50, to), BAD);
        }
        scene.refused("setRoom(from 96, to 95)", x -> x.setRoom(0, 4, 96, 95), BAD);
    }

    private static void setRoomReturnsThePrevious() {
        for (int room = 0; room < 4; room++) {
            CalendarReplicas x = new CalendarReplicas();
            Check.due("at first", x.setRoom(room, 1, 0, 96), 6);
            for (int capacity = 2; capacity <= 6; capacity++) {
                Check.due("the previous capacity", x.setRoom(room, capacity, 0, 0), capacity - 1);
            }
            Check.due("the last one", x.setRoom(room, 6, 0, 0), 6);
            for (int other = 0; other < 4; other++) {
                Check.due("room " + other + " when " + room + " was set", x.setRoom(other, 6, 0, 0), 6);
            }
        }
        CalendarReplicas x = new CalendarReplicas();
        x.setRoom(2, 3, 94, 96);
        Check.due("the closing time is in place of the previous one", x.setRoom(2, 3, 0, 2), 3);
        Check.due("its first free slot", x.freeStart(0, 2, 1, 0), 2);
        Check.due("what was closed before", x.freeStart(0, 2, 2, 94), 94);
    }

    private static void setRoomWithEdits() {
        Scene own = new Scene("one edit", () -> {
            CalendarReplicas x = new CalendarReplicas();
            x.create(2, 0, 1, 0, 1, 1);
            return x;
        });
        own.refused("setRoom", x -> x.setRoom(1, 3, 50, 60), NOT);
        own.refused("setRoom to what it is", x -> x.setRoom(1, 6, 0, 0), NOT);
        own.refused("setRoom, BAD_VALUE first", x -> x.setRoom(4, 3, 50, 60), BAD);
        own.refused("setRoom, BAD_VALUE first", x -> x.setRoom(1, 7, 50, 60), BAD);
        own.refused("setRoom, BAD_VALUE first", x -> x.setRoom(1, 3, 97, 97), BAD);
        own.refused("setRoom, BAD_VALUE first", x -> x.setRoom(1, 3, 50, 49), BAD);
        Scene cancelled = new Scene("a meeting that is cancelled", () -> {
            CalendarReplicas x = new CalendarReplicas();
            x.create(2, 0, 1, 0, 1, 1);
            x.cancel(2, 0, 1);
            return x;
        });
        cancelled.refused("setRoom", x -> x.setRoom(1, 3, 50, 60), NOT);
        Scene.busy().refused("setRoom", x -> x.setRoom(1, 5, 50, 60), NOT);
    }

    /** Meeting 0 at 10 in room 0 with person 0, in the base, and no edits. */
    private static CalendarReplicas base() {
        CalendarReplicas x = new CalendarReplicas();
        x.create(0, 10, 2, 0, 1, 1);
        x.send(0, 1);
        x.send(0, 2);
        x.compact();
        return x;
    }

    private static void setRoomWithBase() {
        Scene scene = new Scene("a base without edits", RulesBoundsTest::base);
        scene.refused("setRoom", x -> x.setRoom(1, 3, 50, 60), NOT);
        scene.refused("setRoom, BAD_VALUE first", x -> x.setRoom(-1, 3, 50, 60), BAD);
        scene.refused("setRoom, BAD_VALUE first", x -> x.setRoom(0, 0, 50, 60), BAD);
        scene.refused("setRoom, BAD_VALUE first", x -> x.setRoom(0, 6, -1, 60), BAD);
        scene.refused("setRoom, BAD_VALUE first", x -> x.setRoom(0, 6, 50, 97), BAD);
    }

    private static void setRoomWhenAllIsGone() {
        CalendarReplicas x = base();
        x.cancel(0, 0, 1);
        Check.due("with the CANCEL as an edit", x.setRoom(0, 3, 0, 0), NOT);
        x.send(0, 1);
        x.send(0, 2);
        Check.due("compact", x.compact(), 0);
        Check.due("without base and edits", x.setRoom(0, 3, 0, 0), 6);
        Check.due("again", x.setRoom(0, 6, 0, 0), 3);
    }

    // ---- promise 3

    private static void setAbsenceAllowed() {
        Check.due("person 0", new CalendarReplicas().setAbsence(0, 0, 1), 0);
        Check.due("person 5", new CalendarReplicas().setAbsence(5, 0, 1), 0);
        Check.due("from 0, to 96", new CalendarReplicas().setAbsence(5, 0, 96), 0);
        Check.due("from 96, to 96", new CalendarReplicas().setAbsence(5, 96, 96), 0);
        Check.due("to as from", new CalendarReplicas().setAbsence(5, 50, 50), 0);
    }

    private static void setAbsenceRefused() {
        Scene scene = Scene.blank();
        for (int person : new int[] {-1, 6, MAX, MIN}) {
            scene.refused("setAbsence(person " + person + ")", x -> x.setAbsence(person, 50, 60), BAD);
        }
        for (int from : new int[] {-1, 97, MAX, MIN}) {
            scene.refused("setAbsence(from " + from + ")", x -> x.setAbsence(0, from, 96), BAD);
            scene.refused("setAbsence(from and to " + from + ")", x -> x.setAbsence(0, from, from), BAD);
        }
        for (int to : new int[] {49, 97, -1, MAX, MIN}) {
            scene.refused("setAbsence(from 50, to " + to + ")", x -> x.setAbsence(0, 50, to), BAD);
        }
    }

    private static void setAbsenceReturnsThePrevious() {
        for (int person = 0; person < 6; person++) {
            CalendarReplicas x = new CalendarReplicas();
            Check.due("at first", x.setAbsence(person, 0, 96), 0);
            Check.due("all 96 slots", x.setAbsence(person, 95, 96), 96);
            Check.due("one slot", x.setAbsence(person, 96, 96), 1);
            Check.due("none", x.setAbsence(person, 20, 27), 0);
            Check.due("7 slots", x.setAbsence(person, 20, 20), 7);
            Check.due("none again", x.setAbsence(person, 0, 0), 0);
            for (int other = 0; other < 6; other++) {
                Check.due("person " + other + " when " + person + " was set", x.setAbsence(other, 0, 0), 0);
            }
        }
        CalendarReplicas x = new CalendarReplicas();
        x.setAbsence(3, 94, 96);
        Check.due("an absence in place of the previous one", x.setAbsence(3, 0, 2), 2);
        Check.due("its first free slot", x.commonStart(0, 8, 1, 0), 20);
        Check.due("where the absence was before", x.commonStart(0, 8, 2, 94), 940);
    }

    private static void setAbsenceWithEditsOrBase() {
        Scene edit = new Scene("one edit", () -> {
            CalendarReplicas x = new CalendarReplicas();
            x.create(1, 0, 1, 0, 1, 1);
            return x;
        });
        Scene base = new Scene("a base without edits", RulesBoundsTest::base);
        for (Scene scene : new Scene[] {edit, base, Scene.busy()}) {
            scene.refused("setAbsence", x -> x.setAbsence(3, 50, 60), NOT);
            scene.refused("setAbsence to nothing", x -> x.setAbsence(3, 0, 0), NOT);
            scene.refused("setAbsence, BAD_VALUE first", x -> x.setAbsence(6, 50, 60), BAD);
            scene.refused("setAbsence, BAD_VALUE first", x -> x.setAbsence(3, -1, 60), BAD);
            scene.refused("setAbsence, BAD_VALUE first", x -> x.setAbsence(3, 50, 49), BAD);
        }
        CalendarReplicas x = base();
        x.cancel(0, 0, 1);
        Check.due("with the CANCEL as an edit", x.setAbsence(0, 0, 5), NOT);
        x.send(0, 1);
        x.send(0, 2);
        x.compact();
        Check.due("without base and edits", x.setAbsence(0, 0, 5), 0);
        Check.due("again", x.setAbsence(0, 0, 0), 5);
    }

    // ---- promise 4

    private static void addOrderAllowed() {
        Check.due("first 0", new CalendarReplicas().addOrder(0, 1), 1);
        Check.due("second 0", new CalendarReplicas().addOrder(1, 0), 1);
        Check.due("largest first", new CalendarReplicas().addOrder(MAX, 0), 1);
        Check.due("largest second", new CalendarReplicas().addOrder(0, MAX), 1);
        Check.due("both large", new CalendarReplicas().addOrder(MAX, MAX - 1), 1);
    }

    private static void addOrderRefused() {
        for (Scene scene : new Scene[] {Scene.blank(), Scene.busy()}) {
            scene.refused("addOrder(-1, 5)", x -> x.addOrder(-1, 5), BAD);
            scene.refused("addOrder(5, -1)", x -> x.addOrder(5, -1), BAD);
            scene.refused("addOrder(-1, -2)", x -> x.addOrder(-1, -2), BAD);
            scene.refused("addOrder(smallest, 5)", x -> x.addOrder(MIN, 5), BAD);
            scene.refused("addOrder(5, smallest)", x -> x.addOrder(5, MIN), BAD);
            scene.refused("addOrder(0, 0)", x -> x.addOrder(0, 0), BAD);
            scene.refused("addOrder(5, 5)", x -> x.addOrder(5, 5), BAD);
            scene.refused("addOrder(largest, largest)", x -> x.addOrder(MAX, MAX), BAD);
        }
    }

    private static void addOrderFull() {
        CalendarReplicas x = new CalendarReplicas();
        for (int i = 1; i <= 4; i++) {
            Check.due("order " + i, x.addOrder(20 + i, 30), i);
        }
        Check.due("a fifth one", x.addOrder(25, 30), FULL);
        Scene.full().refused("addOrder", y -> y.addOrder(25, 30), FULL);
        Scene.full().refused("addOrder of one that there is", y -> y.addOrder(0, 12), FULL);
        Check.due("clearOrders", x.clearOrders(), 4);
        Check.due("the first one again", x.addOrder(25, 30), 1);
    }

    /** Meeting 0 at 10 and 11, 1 at 12, 2 at 11, and 3 at 20, 30 and 40, in the base. */
    private static CalendarReplicas fourInTheBase() {
        CalendarReplicas x = new CalendarReplicas();
        x.create(0, 10, 2, 0, 1, 1);
        x.create(0, 12, 1, 1, 2, 1);
        x.create(0, 11, 1, 2, 4, 1);
        Check.type(x, "20+1 r3 p3 e10x3");
        x.createFromText(0);
        x.create(0, 40, 1, 1, 2, 1);
        x.create(0, 41, 1, 1, 2, 1);
        x.send(0, 1);
        x.send(0, 2);
        x.compact();
        return x;
    }

    private static void addOrderAgainstTheBase() {
        Scene scene = new Scene("meetings in the base", RulesBoundsTest::fourInTheBase);
        scene.answers("the last slot just before the first one", x -> x.addOrder(0, 1), 1);
        scene.refused("the last slot is the first one", x -> x.addOrder(0, 2), NOT);
        scene.refused("the last slot is after the first one", x -> x.addOrder(1, 0), NOT);
        scene.refused("later by one slot", x -> x.addOrder(1, 2), NOT);
        scene.answers("earlier by one slot", x -> x.addOrder(2, 1), 1);
        scene.refused("the last slot of a series is the first one", x -> x.addOrder(3, 4), NOT);
        scene.answers("the last slot of a series just before", x -> x.addOrder(3, 5), 1);
        scene.answers("the first slot of a series", x -> x.addOrder(1, 3), 1);
        scene.refused("after the first slot of a series", x -> x.addOrder(4, 3), NOT);
        scene.answers("only the first one is there", x -> x.addOrder(1, 6), 1);
        scene.answers("only the second one is there", x -> x.addOrder(6, 1), 1);
        Scene edits = new Scene("edits against the order, none in the base", () -> {
            CalendarReplicas x = new CalendarReplicas();
            x.create(0, 10, 2, 0, 1, 1);
            x.create(0, 12, 1, 0, 1, 1);
            return x;
        });
        edits.answers("edits do not hinder it", x -> x.addOrder(1, 0), 1);
        CalendarReplicas x = base();
        x.cancel(0, 0, 1);
        x.create(0, 5, 1, 0, 1, 1);
        Check.due("a meeting in the base that is cancelled, and one that is new", x.addOrder(0, 2), 1);
    }

    private static void addOrderErrorsInTheirOrder() {
        Scene full = new Scene("four orders, and a base", () -> {
            CalendarReplicas x = fourInTheBase();
            for (int i = 0; i < 4; i++) {
                x.addOrder(50, 51 + i);
            }
            return x;
        });
        full.refused("FULL and NOT_POSSIBLE", x -> x.addOrder(1, 0), FULL);
        full.refused("BAD_VALUE and FULL", x -> x.addOrder(-1, 0), BAD);
        full.refused("BAD_VALUE and FULL", x -> x.addOrder(0, -1), BAD);
        full.refused("BAD_VALUE, FULL and NOT_POSSIBLE", x -> x.addOrder(0, 0), BAD);
        Scene three = new Scene("three orders, and a base", () -> {
            CalendarReplicas x = fourInTheBase();
            for (int i = 0; i < 3; i++) {
                x.addOrder(50, 51 + i);
            }
            return x;
        });
        three.refused("BAD_VALUE and NOT_POSSIBLE", x -> x.addOrder(0, 0), BAD);
        three.refused("NOT_POSSIBLE alone", x -> x.addOrder(1, 0), NOT);
        three.answers("the fourth order", x -> x.addOrder(0, 1), 4);
    }

    private static void addOrderRejectsEdits() {
        CalendarReplicas x = new CalendarReplicas();
        x.create(0, 10, 2, 0, 1, 5);
        x.create(0, 11, 1, 1, 2, 4);
        x.create(0, 12, 1, 2, 4, 3);
        x.send(0, 2);
        Check.due("addOrder(0, 2)", x.addOrder(0, 2), 1);
        Check.due("the last slot before the first one", x.state(0, 2), CalendarReplicas.ACCEPTED);
        Check.due("addOrder(0, 1)", x.addOrder(0, 1), 2);
        Check.due("the last slot is the first one", x.state(0, 1), CalendarReplicas.REJECTED);
        Check.due("at another replica too", x.state(2, 1), CalendarReplicas.REJECTED);
        Check.due("rejectedWeight", x.rejectedWeight(2), 4);
        Check.due("meetings", x.meetings(0), 2);
    }

    // ---- promise 5

    private static void clearOrdersOfEachNumber() {
        for (int orders = 0; orders <= 4; orders++) {
            CalendarReplicas x = new CalendarReplicas();
            for (int i = 0; i < orders; i++) {
                x.addOrder(i, 9);
            }
            Check.due("clearOrders", x.clearOrders(), orders);
            Check.due("clearOrders again", x.clearOrders(), 0);
            Check.due("the next order", x.addOrder(0, 1), 1);
        }
        Scene.busy().answers("clearOrders", x -> x.clearOrders(), 2);
        Scene.full().answers("clearOrders", x -> x.clearOrders(), 4);
    }

    private static void clearOrdersRemovesAll() {
        CalendarReplicas x = new CalendarReplicas();
        for (int i = 1; i < 5; i++) {
            x.addOrder(0, i);
        }
        x.create(0, 50, 1, 0, 1, 1);
        for (int i = 1; i < 5; i++) {
            Check.due("against order " + i, x.create(0, 50 - i, 1, 0, 1, 1), NOT);
            Check.due("with order " + i, x.create(0, 50 + i, 1, 0, 1, 1), i);
        }
        Check.due("clearOrders", x.clearOrders(), 4);
        for (int i = 1; i < 5; i++) {
            Check.due("when order " + i + " is gone", x.move(0, i, 50 - i, 1), 4 + i);
        }
        Check.due("an order against a move", x.addOrder(0, 1), 1);
        Check.due("the move is rejected", x.state(0, 5), CalendarReplicas.REJECTED);
        Check.due("clearOrders of one", x.clearOrders(), 1);
        Check.due("the move is accepted again", x.state(0, 5), CalendarReplicas.ACCEPTED);
    }
}
