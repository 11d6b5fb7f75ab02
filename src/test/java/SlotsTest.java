/** Promises 47 to 49. */
public final class SlotsTest {
    private static final int BAD = CalendarReplicas.BAD_VALUE;
    private static final int NOT = CalendarReplicas.NOT_POSSIBLE;

    public static void main(String[] args) {
        outOfRange();
        keepAndRestore();
        theSlotKeepsIt();
        twoSlots();
        rulesAndOrders();
        otherOrders();
        otherEdits();
        baseAndNumbers();
        textAndPageStay();
        checksum();
        checksumOfOneEdit();
        Check.end();
    }

    private static void outOfRange() {
        CalendarReplicas x = new CalendarReplicas();
        for (int slot : new int[] {-1, 2, Integer.MAX_VALUE, Integer.MIN_VALUE}) {
            Check.due("keep(" + slot + ")", x.keep(slot), BAD);
            Check.due("restore(" + slot + ")", x.restore(slot), BAD);
        }
        Check.due("restore(0) of nothing", x.restore(0), NOT);
        Check.due("restore(1) of nothing", x.restore(1), NOT);
        Check.due("keep(1) of an empty calendar", x.keep(1), 0);
        Check.due("restore(1)", x.restore(1), 0);
        Check.due("restore(0) still", x.restore(0), NOT);
    }

    private static void keepAndRestore() {
        CalendarReplicas x = new CalendarReplicas();
        x.create(0, 10, 2, 0, 1, 3);
        x.create(1, 11, 2, 0, 2, 4);
        x.move(1, 1, 12, 1);
        x.sendOne(1, 2, 2);
        x.send(1, 0);
        long kept = x.checksum();
        Check.due("keep", x.keep(0), 3);
        Check.due("keep changes nothing", x.checksum(), kept);
        x.cancel(0, 0, 9);
        x.send(0, 2);
        x.leave(1, 1, 0, 1);
        Check.isTrue("changed", x.checksum() != kept);
        Check.due("restore", x.restore(0), 3);
        Check.due("as it was", x.checksum(), kept);
        Check.due("a blocked edit", x.state(2, 2), CalendarReplicas.BLOCKED);
        Check.due("a clash is as it was", x.clash(0, 1), 0);
        Check.due("the next number is as it was", x.cancel(0, 0, 9), 3);
    }

    private static void theSlotKeepsIt() {
        CalendarReplicas x = new CalendarReplicas();
        x.create(0, 10, 2, 0, 1, 3);
        x.keep(0);
        x.move(0, 0, 20, 1);
        Check.due("restore", x.restore(0), 1);
        Check.due("move after it", x.move(0, 0, 30, 1), 1);
        Check.due("restore again", x.restore(0), 1);
        Check.due("the start", x.startOf(0, 0), 10);
        x.move(0, 0, 40, 1);
        Check.due("keep in its place", x.keep(0), 2);
        x.cancel(0, 0, 1);
        Check.due("restore the new one", x.restore(0), 2);
        Check.due("the start", x.startOf(0, 0), 40);
    }

    private static void twoSlots() {
        CalendarReplicas x = new CalendarReplicas();
        x.keep(0);
        x.create(0, 10, 2, 0, 1, 3);
        x.keep(1);
        x.create(0, 20, 2, 0, 1, 3);
        Check.due("restore(0)", x.restore(0), 0);
        Check.due("restore(1)", x.restore(1), 1);
        Check.due("restore(0)", x.restore(0), 0);
        Check.due("meetings", x.meetings(0), 0);
        Check.due("numbers", x.create(2, 0, 1, 0, 1, 1), 0);
        Check.due("restore(1) again", x.restore(1), 1);
        Check.due("its author", x.authorOf(0), 0);
    }

    private static void rulesAndOrders() {
        CalendarReplicas x = new CalendarReplicas();
        x.setRoom(1, 2, 5, 9);
        x.setAbsence(4, 20, 26);
        x.addOrder(0, 1);
        x.keep(0);
        x.setRoom(1, 5, 0, 0);
        x.setAbsence(4, 0, 1);
        x.addOrder(1, 0);
        Check.due("restore", x.restore(0), 0);
        Check.due("closing time", x.freeStart(0, 1, 8, 0), 9);
        Check.due("before the closing time", x.freeStart(0, 1, 5, 0), 0);
        Check.due("absence", x.commonStart(0, 16, 1, 20), 260);
        Check.due("capacity", x.commonStart(0, 63, 1, 0), 0);
        Check.due("capacity of the room", x.create(0, 40, 1, 1, 7, 1), NOT);
        Check.due("orders", x.create(0, 40, 1, 0, 1, 1), 0);
        Check.due("the order", x.create(0, 39, 1, 0, 1, 1), NOT);
        Check.due("not the other order", x.create(0, 41, 1, 0, 1, 1), 1);
        Check.due("how many orders", x.clearOrders(), 1);
        Check.due("restore", x.restore(0), 0);
        Check.due("the previous capacity", x.setRoom(1, 1, 0, 0), 2);
        Check.due("the previous absence", x.setAbsence(4, 0, 0), 6);
    }

    private static void otherOrders() {
        CalendarReplicas x = new CalendarReplicas();
        x.addOrder(1, 0);
        x.keep(0);
        x.clearOrders();
        x.addOrder(0, 1);
        x.addOrder(5, 6);
        x.create(0, 10, 1, 0, 1, 1);
        Check.due("against the new order", x.create(0, 9, 1, 0, 1, 1), NOT);
        x.restore(0);
        x.create(0, 10, 1, 0, 1, 1);
        Check.due("against the kept order", x.create(0, 11, 1, 0, 1, 1), NOT);
        Check.due("with the kept order", x.create(0, 9, 1, 0, 1, 1), 1);
        Check.due("one order", x.clearOrders(), 1);
    }

    /** Meanwhile there are other edits in the places of those that the slot keeps. */
    private static void otherEdits() {
        CalendarReplicas x = new CalendarReplicas();
        x.create(0, 0, 1, 0, 1, 1);
        x.sendOne(0, 1, 0);
        x.move(0, 0, 5, 4);
        x.move(1, 0, 6, 3);
        x.sendOne(0, 2, 1);
        x.keep(1);
        x.send(0, 1);
        x.send(1, 0);
        x.send(1, 2);
        x.compact();
        x.cancel(1, 0, 9);
        x.create(1, 60, 3, 1, 6, 8);
        x.create(1, 70, 3, 1, 6, 8);
        Check.due("restore", x.restore(1), 3);
        Check.due("the created meeting", x.startOf(0, 0), 5);
        Check.due("its duration", x.durationOf(0, 0), 1);
        Check.due("a clash", x.clash(1, 2), 1);
        Check.due("a blocked edit", x.state(2, 1), CalendarReplicas.BLOCKED);
        x.send(0, 1);
        Check.due("the heavier move", x.startOf(1, 0), 5);
        Check.due("the lighter move", x.state(1, 2), CalendarReplicas.REJECTED);
        Check.due("send", x.send(1, 2), 2);
        Check.due("no more blocked", x.state(2, 1), CalendarReplicas.ACCEPTED);
    }

    private static void baseAndNumbers() {
        CalendarReplicas x = new CalendarReplicas();
        x.create(0, 10, 2, 0, 1, 3);
        x.create(0, 20, 2, 0, 1, 3);
        x.send(0, 1);
        x.send(0, 2);
        x.keep(0);
        x.compact();
        x.cancel(1, 0, 1);
        x.keep(1);
        Check.due("restore before compact", x.restore(0), 2);
        Check.due("the edits are there", x.kindOf(1), CalendarReplicas.CREATE);
        Check.due("the number of the next one", x.cancel(2, 1, 1), 2);
        Check.due("restore after compact", x.restore(1), 1);
        Check.due("the base at replica 0", x.meetings(0), 2);
        Check.due("without the cancelled one at replica 1", x.meetings(1), 1);
        Check.due("the number of the next one", x.move(0, 1, 30, 1), 3);
        Check.due("rooms cannot be set", x.setRoom(0, 1, 0, 0), NOT);
    }

    private static void textAndPageStay() {
        CalendarReplicas x = new CalendarReplicas();
        Check.type(x, "1+1");
        x.createFromText(0);
        x.print(0, 0);
        x.keep(0);
        Check.type(x, "22+2");
        x.createFromText(0);
        x.print(0, 1);
        x.keep(1);
        Check.due("restore", x.restore(0), 1);
        Check.isTrue("the page stays", Check.page(x).equals("22+2 r0 p0"));
        Check.due("the text stays", x.createFromText(0), 1);
        Check.due("the start of the text", x.startOf(0, 1), 22);
        Check.due("its length", x.clearText(), 4);
        Check.due("the other slot stays", x.restore(1), 2);
    }

    private static long sum(long... values) {
        long h = 37;
        for (long value : values) {
            h = 31 * h + value;
        }
        return h;
    }

    private static void checksum() {
        CalendarReplicas x = new CalendarReplicas();
        Check.due("of a new object", x.checksum(), sum(0, 0, 0, 0, 0, 0, 0, 0, 0, 0));
        x.create(0, 10, 2, 1, 3, 4);
        x.create(1, 11, 3, 1, 4, 5);
        x.send(0, 1);
        Check.due("of two edits", x.checksum(), sum(2, 0, 0, 0, 0, 4, 3, 2, 0, 1, 0, 1, 1, 5, 0, 3, 0,
                1, 4, 0, 0, 10, 2, 1, 3, 0, 1,
                1, 5, 4, 1, 11, 3, 1, 4, 0, 1,
                0, 0, 0));
        x.setRoom(0, 1, 0, 0);
        x.addOrder(7, 8);
        x.append('1');
        Check.due("orders and the text are not in it", x.checksum(), sum(2, 0, 0, 0, 0, 4, 3, 2, 0, 1, 0, 1, 1, 5, 0, 3,
                0, 1, 4, 0, 0, 10, 2, 1, 3, 0, 1, 1, 5, 4, 1, 11, 3, 1, 4, 0, 1, 0, 0, 0));
    }

    private static void checksumOfOneEdit() {
        CalendarReplicas x = new CalendarReplicas();
        Check.type(x, "5+2 p05 r3 w8 e10x3");
        x.createFromText(2);
        x.send(2, 0);
        x.send(2, 1);
        x.compact();
        x.changeRoom(1, 0, 2, 6);
        Check.due("of a base and an edit", x.checksum(), sum(1, 1, 2, 0, 1, 6, 0, 3, 0,
                1, 0, 0, 0, 5, 2, 3, 33, 10, 3,
                1, 6, 0, 0, 5, 2, 2, 33, 10, 3,
                1, 0, 0, 0, 5, 2, 3, 33, 10, 3));
    }
}
