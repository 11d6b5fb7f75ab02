/** Promises 1 to 5. */
public final class RoomsPersonsOrdersTest {
    private static final int BAD = CalendarReplicas.BAD_VALUE;
    private static final int FULL = CalendarReplicas.FULL;
    private static final int NOT = CalendarReplicas.NOT_POSSIBLE;

    public static void main(String[] args) {
        newObject();
        setRoom();
        setRoomKeepsMeetingsOut();
        setAbsence();
        rulesOnlyForBlankCalendars();
        addOrder();
        ordersBindEdits();
        ordersBindTheBase();
        clearOrders();
        Check.end();
    }

    private static void newObject() {
        CalendarReplicas x = new CalendarReplicas();
        for (int r = 0; r < 3; r++) {
            Check.due("new: meetings(" + r + ")", x.meetings(r), 0);
            Check.due("new: acceptedWeight(" + r + ")", x.acceptedWeight(r), 0);
            Check.due("new: rejectedWeight(" + r + ")", x.rejectedWeight(r), 0);
        }
        Check.due("new: edits()", x.edits(), 0);
        Check.due("new: clearOrders()", x.clearOrders(), 0);
        Check.due("new: clearText()", x.clearText(), 0);
        Check.due("new: printed(0)", x.printed(0), CalendarReplicas.NONE);
        Check.due("new: restore(0)", x.restore(0), NOT);
        Check.due("new: restore(1)", x.restore(1), NOT);
        for (int room = 0; room < 4; room++) {
            Check.due("new: freeStart in room " + room, x.freeStart(0, room, 8, 0), 0);
            Check.due("new: capacity of room " + room, x.setRoom(room, 1, 0, 0), 6);
        }
        for (int person = 0; person < 6; person++) {
            Check.due("new: absence of person " + person, x.setAbsence(person, 0, 0), 0);
        }
        Check.due("new: the first edit", x.create(2, 0, 8, 3, 32, 9), 0);
    }

    private static void setRoom() {
        CalendarReplicas x = new CalendarReplicas();
        Check.due("setRoom(-1, ..)", x.setRoom(-1, 1, 0, 0), BAD);
        Check.due("setRoom(4, ..)", x.setRoom(4, 1, 0, 0), BAD);
        Check.due("setRoom(capacity 0)", x.setRoom(0, 0, 0, 0), BAD);
        Check.due("setRoom(capacity 7)", x.setRoom(0, 7, 0, 0), BAD);
        Check.due("setRoom(from -1)", x.setRoom(0, 1, -1, 0), BAD);
        Check.due("setRoom(from 97)", x.setRoom(0, 1, 97, 97), BAD);
        Check.due("setRoom(to below from)", x.setRoom(0, 1, 10, 9), BAD);
        Check.due("setRoom(to 97)", x.setRoom(0, 1, 10, 97), BAD);
        Check.due("setRoom(largest int)", x.setRoom(Integer.MAX_VALUE, 1, 0, 0), BAD);
        Check.due("setRoom(smallest int)", x.setRoom(0, 1, 0, Integer.MIN_VALUE), BAD);
        Check.due("setRoom(0, 3, 0, 96)", x.setRoom(0, 3, 0, 96), 6);
        Check.due("setRoom(0, 4, 96, 96)", x.setRoom(0, 4, 96, 96), 3);
        Check.due("setRoom(0, 6, 5, 5)", x.setRoom(0, 6, 5, 5), 4);
        Check.due("setRoom(3, 1, 0, 1)", x.setRoom(3, 1, 0, 1), 6);
        Check.due("an empty closing time closes nothing", x.freeStart(0, 0, 8, 0), 0);
        Check.due("the closing time is of its room", x.freeStart(0, 3, 8, 0), 1);
    }

    private static void setRoomKeepsMeetingsOut() {
        CalendarReplicas x = new CalendarReplicas();
        x.setRoom(1, 2, 47, 49);
        Check.due("up to the closing time", x.create(0, 46, 1, 1, 1, 1), 0);
        Check.due("in its first slot", x.create(1, 47, 1, 1, 1, 1), NOT);
        Check.due("in its last slot", x.create(1, 48, 1, 1, 1, 1), NOT);
        Check.due("over all of it", x.create(1, 45, 8, 1, 1, 1), NOT);
        Check.due("from its end on", x.create(1, 49, 1, 1, 1, 1), 1);
        Check.due("in another room", x.create(2, 47, 2, 0, 63, 1), 2);
        Check.due("more persons than the capacity", x.create(0, 60, 1, 1, 7, 1), NOT);
        Check.due("as many persons as the capacity", x.create(0, 60, 1, 1, 6, 1), 3);
        CalendarReplicas whole = new CalendarReplicas();
        whole.setRoom(0, 6, 0, 96);
        Check.due("closed all the time", whole.create(0, 95, 1, 0, 1, 1), NOT);
        Check.due("closed all the time: no free start", whole.freeStart(0, 0, 1, 0), CalendarReplicas.NONE);
    }

    private static void setAbsence() {
        CalendarReplicas x = new CalendarReplicas();
        Check.due("setAbsence(-1, ..)", x.setAbsence(-1, 0, 0), BAD);
        Check.due("setAbsence(6, ..)", x.setAbsence(6, 0, 0), BAD);
        Check.due("setAbsence(from -1)", x.setAbsence(0, -1, 5), BAD);
        Check.due("setAbsence(from 97)", x.setAbsence(0, 97, 97), BAD);
        Check.due("setAbsence(to below from)", x.setAbsence(0, 6, 5), BAD);
        Check.due("setAbsence(to 97)", x.setAbsence(0, 0, 97), BAD);
        Check.due("setAbsence(5, 10, 13)", x.setAbsence(5, 10, 13), 0);
        Check.due("setAbsence(5, 0, 96)", x.setAbsence(5, 0, 96), 3);
        Check.due("setAbsence(5, 20, 20)", x.setAbsence(5, 20, 20), 96);
        Check.due("setAbsence(5, 10, 13)", x.setAbsence(5, 10, 13), 0);
        Check.due("up to the absence", x.create(0, 8, 2, 0, 33, 1), 0);
        Check.due("in its first slot", x.create(1, 9, 2, 1, 33, 1), NOT);
        Check.due("in its last slot", x.create(1, 12, 2, 1, 33, 1), NOT);
        Check.due("after it", x.create(1, 13, 2, 1, 33, 1), 1);
        Check.due("without the person", x.create(2, 10, 3, 1, 31, 1), 2);
    }

    private static void rulesOnlyForBlankCalendars() {
        CalendarReplicas x = new CalendarReplicas();
        x.create(0, 0, 1, 0, 1, 1);
        Check.due("setRoom with an edit", x.setRoom(0, 1, 0, 0), NOT);
        Check.due("setAbsence with an edit", x.setAbsence(0, 0, 1), NOT);
        Check.due("setRoom, a wrong value first", x.setRoom(0, 7, 0, 0), BAD);
        Check.due("setAbsence, a wrong value first", x.setAbsence(6, 0, 0), BAD);
        x.send(0, 1);
        x.send(0, 2);
        x.compact();
        Check.due("setRoom with a base", x.setRoom(0, 1, 0, 0), NOT);
        Check.due("setAbsence with a base", x.setAbsence(0, 0, 1), NOT);
        x.cancel(1, 0, 1);
        x.send(1, 0);
        x.send(1, 2);
        Check.due("the base is empty again", x.compact(), 0);
        Check.due("setRoom without base and edits", x.setRoom(0, 1, 0, 0), 6);
        Check.due("setAbsence without base and edits", x.setAbsence(0, 0, 1), 0);
    }

    private static void addOrder() {
        CalendarReplicas x = new CalendarReplicas();
        Check.due("addOrder(-1, 0)", x.addOrder(-1, 0), BAD);
        Check.due("addOrder(0, -1)", x.addOrder(0, -1), BAD);
        Check.due("addOrder(3, 3)", x.addOrder(3, 3), BAD);
        Check.due("addOrder(5, 6)", x.addOrder(5, 6), 1);
        Check.due("addOrder(5, 6) again", x.addOrder(5, 6), 2);
        Check.due("addOrder(6, 5)", x.addOrder(6, 5), 3);
        Check.due("addOrder(0, largest int)", x.addOrder(0, Integer.MAX_VALUE), 4);
        Check.due("a fifth order", x.addOrder(1, 2), FULL);
        Check.due("a fifth order, wrong", x.addOrder(1, 1), BAD);
    }

    private static void ordersBindEdits() {
        CalendarReplicas x = new CalendarReplicas();
        Check.due("create 0", x.create(0, 10, 2, 0, 1, 5), 0);
        Check.due("create 1", x.create(0, 12, 2, 0, 1, 4), 1);
        Check.due("addOrder(0, 1)", x.addOrder(0, 1), 1);
        Check.due("one ends as the other begins", x.state(0, 1), CalendarReplicas.ACCEPTED);
        Check.due("addOrder(1, 0)", x.addOrder(1, 0), 2);
        Check.due("an accepted edit is rejected then", x.state(0, 1), CalendarReplicas.REJECTED);
        Check.due("the heavier one stays", x.state(0, 0), CalendarReplicas.ACCEPTED);
        Check.due("clearOrders()", x.clearOrders(), 2);
        Check.due("it is accepted again", x.state(0, 1), CalendarReplicas.ACCEPTED);
        Check.type(x, "20+1 p2 e10x3");
        Check.due("create 2 at 20, 30 and 40", x.createFromText(0), 2);
        Check.due("addOrder(2, 3)", x.addOrder(2, 3), 1);
        Check.due("before its last slot", x.create(0, 35, 1, 1, 2, 1), NOT);
        Check.due("in its last slot", x.create(0, 40, 1, 1, 2, 1), NOT);
        Check.due("after its last slot", x.create(0, 41, 1, 1, 2, 1), 3);
    }

    private static void ordersBindTheBase() {
        CalendarReplicas x = new CalendarReplicas();
        x.create(0, 10, 2, 0, 1, 5);
        x.create(0, 11, 2, 1, 2, 4);
        x.create(0, 12, 2, 2, 4, 4);
        x.send(0, 1);
        x.send(0, 2);
        x.compact();
        Check.due("against the base", x.addOrder(1, 0), NOT);
        Check.due("the base overlaps", x.addOrder(0, 1), NOT);
        Check.due("nothing was added", x.clearOrders(), 0);
        Check.due("with the base", x.addOrder(0, 2), 1);
        Check.due("one meeting in the base", x.addOrder(2, 77), 2);
        Check.due("a move against the order", x.move(0, 0, 20, 1), NOT);
        Check.due("a move with the order", x.move(0, 2, 20, 1), 3);
        Check.due("later than the base allows", x.addOrder(2, 1), NOT);
        x.addOrder(50, 51);
        x.addOrder(50, 51);
        Check.due("FULL before NOT_POSSIBLE", x.addOrder(1, 0), FULL);
    }

    private static void clearOrders() {
        CalendarReplicas x = new CalendarReplicas();
        for (int i = 0; i < 4; i++) {
            x.addOrder(i, i + 1);
        }
        Check.due("clearOrders() of four", x.clearOrders(), 4);
        Check.due("clearOrders() of none", x.clearOrders(), 0);
        Check.due("there is room again", x.addOrder(1, 2), 1);
    }
}
