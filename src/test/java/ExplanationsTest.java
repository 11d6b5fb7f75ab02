/** Promises 36 to 41. */
public final class ExplanationsTest {
    private static final int BAD = CalendarReplicas.BAD_VALUE;
    private static final int NOT = CalendarReplicas.NOT_POSSIBLE;
    private static final int NONE = CalendarReplicas.NONE;

    public static void main(String[] args) {
        outOfRange();
        notRejected();
        obstacle();
        cost();
        costNone();
        alternativeOfCreate();
        alternativeOfMove();
        alternativeNone();
        nothingIsChanged();
        freeStart();
        commonStart();
        commonStartAndRules();
        busySlots();
        Check.end();
    }

    private static void outOfRange() {
        CalendarReplicas x = new CalendarReplicas();
        x.create(0, 0, 1, 0, 1, 1);
        for (int replica : new int[] {-1, 3, Integer.MAX_VALUE, Integer.MIN_VALUE}) {
            Check.due("obstacle(" + replica + ", 0)", x.obstacle(replica, 0), BAD);
            Check.due("cost(" + replica + ", 0)", x.cost(replica, 0), BAD);
            Check.due("alternative(" + replica + ", 0)", x.alternative(replica, 0), BAD);
            Check.due("freeStart(" + replica + ", ..)", x.freeStart(replica, 0, 1, 0), BAD);
            Check.due("commonStart(" + replica + ", ..)", x.commonStart(replica, 1, 1, 0), BAD);
            Check.due("busySlots(" + replica + ", 0)", x.busySlots(replica, 0), BAD);
        }
        for (int edit : new int[] {-1, 1, 12, Integer.MAX_VALUE, Integer.MIN_VALUE}) {
            Check.due("obstacle(0, " + edit + ")", x.obstacle(0, edit), BAD);
            Check.due("cost(0, " + edit + ")", x.cost(0, edit), BAD);
            Check.due("alternative(0, " + edit + ")", x.alternative(0, edit), BAD);
        }
        Check.due("freeStart(room -1)", x.freeStart(0, -1, 1, 0), BAD);
        Check.due("freeStart(room 4)", x.freeStart(0, 4, 1, 0), BAD);
        Check.due("commonStart(persons 0)", x.commonStart(0, 0, 1, 0), BAD);
        Check.due("commonStart(persons 64)", x.commonStart(0, 64, 1, 0), BAD);
        for (int duration : new int[] {0, 9, Integer.MAX_VALUE, Integer.MIN_VALUE}) {
            Check.due("freeStart(duration " + duration + ")", x.freeStart(0, 0, duration, 0), BAD);
            Check.due("commonStart(duration " + duration + ")", x.commonStart(0, 1, duration, 0), BAD);
        }
        for (int from : new int[] {-1, 96, Integer.MAX_VALUE, Integer.MIN_VALUE}) {
            Check.due("freeStart(from " + from + ")", x.freeStart(0, 0, 1, from), BAD);
            Check.due("commonStart(from " + from + ")", x.commonStart(0, 1, 1, from), BAD);
        }
        Check.due("busySlots(person -1)", x.busySlots(0, -1), BAD);
        Check.due("busySlots(person 6)", x.busySlots(0, 6), BAD);
    }

    private static void notRejected() {
        CalendarReplicas x = new CalendarReplicas();
        x.create(0, 0, 1, 0, 1, 1);
        x.move(0, 0, 5, 1);
        x.sendOne(0, 1, 1);
        Check.due("obstacle of an accepted edit", x.obstacle(0, 0), NOT);
        Check.due("obstacle of a blocked edit", x.obstacle(1, 1), NOT);
        Check.due("obstacle of an unknown edit", x.obstacle(1, 0), NOT);
        Check.due("cost of an accepted edit", x.cost(0, 0), 0);
        Check.due("cost of a blocked edit", x.cost(1, 1), NOT);
        Check.due("cost of an unknown edit", x.cost(1, 0), NOT);
        Check.due("alternative of an accepted edit", x.alternative(0, 1), NOT);
        Check.due("alternative of a blocked edit", x.alternative(1, 1), NOT);
        Check.due("alternative of an unknown edit", x.alternative(1, 0), NOT);
    }

    private static void obstacle() {
        CalendarReplicas x = new CalendarReplicas();
        x.create(1, 20, 2, 1, 4, 1);
        x.create(1, 0, 2, 0, 1, 5);
        x.create(1, 4, 2, 0, 1, 5);
        x.create(0, 1, 2, 0, 2, 4);
        x.create(0, 3, 2, 0, 2, 4);
        x.create(2, 0, 6, 0, 8, 4);
        x.send(0, 1);
        x.send(2, 1);
        Check.due("one is in the way", x.obstacle(1, 3), 1);
        Check.due("the other one is in the way", x.obstacle(1, 4), 2);
        Check.due("two are in the way", x.obstacle(1, 5), NONE);
        CalendarReplicas y = new CalendarReplicas();
        y.create(0, 0, 2, 0, 1, 2);
        y.send(0, 1);
        y.move(1, 0, 8, 3);
        y.move(0, 0, 4, 2);
        y.resize(0, 0, 3, 2);
        y.send(0, 1);
        Check.due("not the create, which it needs itself", y.obstacle(1, 2), 1);
        CalendarReplicas z = new CalendarReplicas();
        z.create(0, 0, 2, 0, 1, 1);
        z.join(0, 0, 1, 9);
        z.create(1, 0, 2, 1, 2, 5);
        z.send(1, 0);
        Check.due("the join alone is in the way", z.obstacle(0, 2), 1);
        CalendarReplicas v = new CalendarReplicas();
        v.create(1, 50, 1, 3, 32, 1);
        v.create(0, 0, 2, 0, 1, 9);
        v.create(1, 0, 2, 0, 2, 1);
        v.move(1, 2, 8, 1);
        v.send(0, 1);
        Check.due("all of them fit", v.rejectedWeight(1), 0);
        v.create(0, 8, 2, 0, 2, 9);
        v.send(0, 1);
        Check.due("a rejected move of a rejected meeting", v.obstacle(1, 3), NONE);
        Check.due("one whose meeting is in the way twice", v.obstacle(1, 2), 1);
    }

    private static void cost() {
        CalendarReplicas x = new CalendarReplicas();
        x.create(1, 0, 2, 0, 1, 5);
        x.create(1, 2, 2, 0, 1, 6);
        x.create(0, 1, 2, 0, 2, 4);
        x.create(0, 50, 1, 1, 2, 3);
        x.send(0, 1);
        Check.due("without both of the others", x.cost(1, 2), 14 - 7);
        Check.due("accepted", x.cost(1, 0), 0);
        Check.due("at a replica where it is accepted", x.cost(0, 2), 0);
        x.create(2, 0, 2, 0, 4, 5);
        x.send(2, 1);
        Check.due("an even sum costs nothing", x.cost(1, 4), 0);
        Check.due("though it is rejected", x.state(1, 4), CalendarReplicas.REJECTED);
        Check.due("its obstacle", x.obstacle(1, 4), 0);
    }

    private static void costNone() {
        CalendarReplicas x = new CalendarReplicas();
        x.create(0, 0, 2, 0, 1, 1);
        x.create(0, 10, 2, 0, 1, 1);
        x.send(0, 1);
        x.send(0, 2);
        x.compact();
        x.move(1, 0, 20, 5);
        Check.due("an order that the base keeps", x.addOrder(0, 1), 1);
        Check.due("no set can have the move", x.cost(1, 2), NONE);
        Check.due("it has no obstacle", x.obstacle(1, 2), NONE);
        Check.due("it could be nearer", x.alternative(1, 2), 8);
    }

    private static void alternativeOfCreate() {
        CalendarReplicas x = new CalendarReplicas();
        x.create(0, 10, 4, 0, 1, 9);
        x.create(1, 11, 2, 0, 2, 1);
        x.send(0, 1);
        Check.due("earlier is nearer", x.alternative(1, 1), 8);
        CalendarReplicas y = new CalendarReplicas();
        y.create(0, 10, 4, 0, 1, 9);
        y.create(1, 12, 2, 0, 2, 1);
        y.send(0, 1);
        Check.due("later is nearer", y.alternative(1, 1), 14);
        CalendarReplicas z = new CalendarReplicas();
        z.create(0, 10, 4, 0, 1, 9);
        z.create(1, 12, 4, 0, 2, 1);
        z.create(1, 11, 3, 1, 1, 1);
        z.send(0, 1);
        Check.due("later, from 12", z.alternative(1, 1), 14);
        Check.due("equally far: 7 and 15 are not, 14 is", z.alternative(1, 2), 14);
        CalendarReplicas w = new CalendarReplicas();
        w.create(0, 10, 3, 0, 1, 9);
        w.create(1, 10, 3, 0, 2, 1);
        w.send(0, 1);
        Check.due("of two the lower one", w.alternative(1, 1), 7);
        CalendarReplicas v = new CalendarReplicas();
        v.create(0, 0, 2, 0, 1, 9);
        v.create(1, 1, 2, 0, 2, 1);
        v.send(0, 1);
        Check.due("none below 0", v.alternative(1, 1), 2);
        CalendarReplicas u = new CalendarReplicas();
        u.create(0, 92, 4, 0, 1, 9);
        u.create(1, 95, 1, 0, 2, 1);
        u.send(0, 1);
        Check.due("none above 95", u.alternative(1, 1), 91);
    }

    private static void alternativeOfMove() {
        CalendarReplicas x = new CalendarReplicas();
        x.create(0, 10, 4, 0, 1, 9);
        x.create(0, 30, 4, 0, 1, 9);
        x.send(0, 1);
        x.move(1, 0, 50, 1);
        x.create(0, 51, 2, 0, 4, 9);
        x.send(0, 1);
        Check.due("before the new meeting, as 53 is as far", x.alternative(1, 2), 47);
        Check.due("the one of the move", x.obstacle(1, 2), 3);
        x.join(1, 1, 5, 1);
        x.create(0, 30, 4, 1, 32, 9);
        x.send(0, 1);
        Check.due("neither CREATE nor MOVE", x.state(1, 4), CalendarReplicas.REJECTED);
        Check.due("alternative of a JOIN", x.alternative(1, 4), NOT);
    }

    private static void alternativeNone() {
        CalendarReplicas x = new CalendarReplicas();
        x.create(0, 10, 4, 0, 1, 9);
        x.send(0, 1);
        x.move(0, 0, 20, 5);
        x.move(1, 0, 30, 4);
        x.send(0, 1);
        Check.due("two moves clash wherever they go", x.alternative(1, 2), NONE);
        CalendarReplicas y = new CalendarReplicas();
        y.setRoom(0, 6, 0, 90);
        y.create(0, 90, 6, 0, 1, 9);
        y.create(1, 93, 1, 0, 2, 1);
        y.send(0, 1);
        Check.due("no time left", y.alternative(1, 1), NONE);
        CalendarReplicas z = new CalendarReplicas();
        z.create(0, 0, 2, 0, 1, 9);
        z.create(1, 0, 2, 0, 2, 1);
        z.move(1, 1, 8, 1);
        z.create(0, 8, 2, 0, 2, 9);
        z.send(0, 1);
        Check.due("a move without its meeting", z.alternative(1, 2), NONE);
    }

    private static void nothingIsChanged() {
        CalendarReplicas x = new CalendarReplicas();
        x.create(0, 10, 4, 0, 1, 5);
        x.create(1, 11, 2, 0, 2, 4);
        x.create(2, 10, 4, 0, 4, 3);
        x.send(0, 1);
        x.send(2, 1);
        long before = x.checksum();
        x.obstacle(1, 1);
        x.cost(1, 1);
        Check.due("alternative", x.alternative(1, 1), 14 - 6);
        Check.due("alternative again", x.alternative(1, 1), 8);
        Check.due("the checksum", x.checksum(), before);
        Check.due("the edit still begins where it did", x.startOf(2, 2), 10);
        x.send(1, 2);
        x.send(1, 0);
        Check.due("it is still rejected", x.state(2, 1), CalendarReplicas.REJECTED);
    }

    private static void freeStart() {
        CalendarReplicas x = new CalendarReplicas();
        x.setRoom(0, 6, 46, 50);
        x.create(0, 2, 3, 0, 1, 1);
        x.create(0, 8, 3, 0, 1, 1);
        x.create(0, 0, 1, 1, 2, 1);
        Check.due("before all", x.freeStart(0, 0, 2, 0), 0);
        Check.due("between", x.freeStart(0, 0, 3, 0), 5);
        Check.due("between, later", x.freeStart(0, 0, 3, 6), 11);
        Check.due("after all", x.freeStart(0, 0, 4, 0), 11);
        Check.due("up to the closing time", x.freeStart(0, 0, 6, 40), 40);
        Check.due("behind the closing time", x.freeStart(0, 0, 7, 40), 50);
        Check.due("another room", x.freeStart(0, 1, 8, 0), 1);
        Check.due("another replica", x.freeStart(1, 0, 8, 0), 0);
        Check.due("the last start", x.freeStart(0, 0, 8, 88), 88);
        Check.due("over the end", x.freeStart(0, 0, 8, 89), NONE);
        Check.due("the last slot", x.freeStart(0, 0, 1, 95), 95);
        Check.type(x, "60+2 r2 p3 e5x3");
        x.createFromText(0);
        Check.due("between two times of a series", x.freeStart(0, 2, 3, 60), 62);
        Check.due("after the last time of a series", x.freeStart(0, 2, 4, 59), 72);
    }

    private static void commonStart() {
        CalendarReplicas x = new CalendarReplicas();
        x.create(0, 5, 3, 0, 1, 1);
        x.create(0, 5, 3, 1, 2, 1);
        Check.due("at once", x.commonStart(0, 63, 5, 0), 0);
        Check.due("persons are elsewhere", x.commonStart(0, 63, 5, 1), 80);
        Check.due("one person is elsewhere", x.commonStart(0, 3, 1, 5), 80);
        Check.due("the lowest room that is free", x.commonStart(0, 4, 1, 5), 52);
        Check.due("room 0 just before", x.commonStart(0, 4, 1, 4), 40);
        Check.due("of two starts the lower one, even in a higher room", x.commonStart(0, 4, 2, 4), 42);
        Check.due("another replica", x.commonStart(1, 63, 8, 5), 50);
        Check.due("the last start", x.commonStart(0, 1, 8, 88), 880);
        Check.due("over the end", x.commonStart(0, 1, 8, 89), NONE);
    }

    private static void commonStartAndRules() {
        CalendarReplicas x = new CalendarReplicas();
        x.setRoom(0, 1, 0, 0);
        x.setRoom(1, 2, 10, 20);
        x.setRoom(2, 3, 0, 96);
        x.setRoom(3, 2, 0, 96);
        x.setAbsence(0, 30, 40);
        Check.due("capacity", x.commonStart(0, 3, 1, 0), 1);
        Check.due("closing time", x.commonStart(0, 3, 1, 10), 201);
        Check.due("closing time, one person", x.commonStart(0, 2, 1, 10), 100);
        Check.due("absence", x.commonStart(0, 3, 4, 27), 401);
        Check.due("no room is large enough", x.commonStart(0, 7, 1, 0), NONE);
        x.addOrder(5, 0);
        x.create(0, 50, 1, 0, 1, 1);
        Check.due("orders do not bind it", x.commonStart(0, 1, 1, 51), 510);
    }

    private static void busySlots() {
        CalendarReplicas x = new CalendarReplicas();
        Check.due("no meetings", x.busySlots(0, 0), 0);
        Check.type(x, "0+3 p02 e10x4");
        x.createFromText(0);
        x.create(0, 50, 5, 1, 5, 1);
        Check.due("person 0", x.busySlots(0, 0), 17);
        Check.due("person 1", x.busySlots(0, 1), 0);
        Check.due("person 2", x.busySlots(0, 2), 17);
        x.leave(0, 1, 2, 1);
        Check.due("person 2 has left", x.busySlots(0, 2), 12);
        Check.due("another replica", x.busySlots(1, 0), 0);
        x.setAbsence(5, 0, 5);
        Check.due("person 5", x.busySlots(0, 5), 0);
    }
}
