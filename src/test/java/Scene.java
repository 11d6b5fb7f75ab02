import java.util.ArrayList;
import java.util.List;
import java.util.function.Supplier;
import java.util.function.ToLongFunction;

/**
 * A state that can be made again and again, to see whether a refused call leaves it as it is. Orders, rules, slots and
 * the next number cannot be read, only felt by calls that change something; so each look is at an object of its own.
 */
final class Scene {
    private interface Look {
        void at(CalendarReplicas x, List<Long> seen);
    }

    private static final List<Look> LOOKS = List.of(Scene::readings, Scene::explanations, Scene::roomTimes,
            (x, seen) -> personTimes(x, seen, 0), (x, seen) -> personTimes(x, seen, 3), Scene::newMeetings,
            Scene::withoutOrders, Scene::moreOrders, Scene::text, Scene::rules,
            (x, seen) -> slot(x, seen, 0), (x, seen) -> slot(x, seen, 1));
    /** An object is promised to answer so many calls; each look stays below, with the calls that make the scene. */
    private static final int CALLS_OF_A_LOOK = 390;

    private final String name;
    private final Supplier<CalendarReplicas> maker;
    private final List<List<Long>> untouched = new ArrayList<>();

    Scene(String name, Supplier<CalendarReplicas> maker) {
        this.name = name;
        this.maker = maker;
        for (Look look : LOOKS) {
            List<Long> seen = new ArrayList<>();
            look.at(maker.get(), seen);
            Check.isTrue(name + ": a look is short", seen.size() <= CALLS_OF_A_LOOK);
            untouched.add(seen);
        }
    }

    /** The call must return the error, and must leave all that can be seen as it is without the call. */
    void refused(String call, ToLongFunction<CalendarReplicas> made, long error) {
        for (int i = 0; i < LOOKS.size(); i++) {
            CalendarReplicas x = maker.get();
            Check.due(name + ": " + call, made.applyAsLong(x), error);
            List<Long> seen = new ArrayList<>();
            LOOKS.get(i).at(x, seen);
            Check.isTrue(name + ": " + call + " changes nothing (look " + i + ")", seen.equals(untouched.get(i)));
        }
    }

    /** The call must answer so on an object in this state. */
    void answers(String call, ToLongFunction<CalendarReplicas> made, long want) {
        Check.due(name + ": " + call, made.applyAsLong(maker.get()), want);
    }

    /** Whether the call changes anything that a look sees; with it a test makes sure that the looks are sharp. */
    boolean isChangedBy(ToLongFunction<CalendarReplicas> made) {
        for (int i = 0; i < LOOKS.size(); i++) {
            CalendarReplicas x = maker.get();
            made.applyAsLong(x);
            List<Long> seen = new ArrayList<>();
            LOOKS.get(i).at(x, seen);
            if (!seen.equals(untouched.get(i))) {
                return true;
            }
        }
        return false;
    }

    private static void readings(CalendarReplicas x, List<Long> seen) {
        seen.add(x.checksum());
        seen.add((long) x.edits());
        seen.add((long) x.faultPosition());
        for (int i = 0; i < 24; i++) {
            seen.add((long) x.printed(i));
        }
        for (int i = 0; i < 12; i++) {
            seen.add((long) x.editAt(i));
        }
        for (int r = 0; r < 3; r++) {
            seen.add((long) x.agree(r, (r + 1) % 3));
            for (int i = 0; i < 24; i++) {
                seen.add((long) x.meetingAt(r, i));
            }
            for (int person = 0; person < 6; person++) {
                seen.add((long) x.busySlots(r, person));
            }
        }
    }

    private static void explanations(CalendarReplicas x, List<Long> seen) {
        int edits = x.edits();
        for (int i = 0; i < edits; i++) {
            int edit = x.editAt(i);
            for (int r = 0; r < 3; r++) {
                seen.add((long) x.obstacle(r, edit));
                seen.add((long) x.cost(r, edit));
                seen.add((long) x.alternative(r, edit));
            }
            for (int j = 0; j < i; j++) {
                seen.add((long) x.clash(edit, x.editAt(j)));
            }
        }
    }

    private static void roomTimes(CalendarReplicas x, List<Long> seen) {
        for (int slot = 0; slot < 96; slot++) {
            for (int room = 0; room < 4; room++) {
                seen.add((long) x.freeStart(2, room, 1, slot));
            }
        }
    }

    private static void personTimes(CalendarReplicas x, List<Long> seen, int firstPerson) {
        for (int slot = 0; slot < 96; slot++) {
            for (int person = firstPerson; person < firstPerson + 3; person++) {
                seen.add((long) x.commonStart(2, 1 << person, 1, slot));
            }
        }
    }

    /** Feels the capacities, the orders of numbers to come, and the next number. */
    private static void newMeetings(CalendarReplicas x, List<Long> seen) {
        for (int room = 3; room >= 0; room--) {
            for (int persons = 6; persons > 0; persons--) {
                seen.add((long) x.create(2, 92 + room, 1, room, (1 << persons) - 1, 1));
            }
        }
        seen.add(x.checksum());
    }

    private static void withoutOrders(CalendarReplicas x, List<Long> seen) {
        seen.add((long) x.clearOrders());
        seen.add(x.checksum());
    }

    private static void moreOrders(CalendarReplicas x, List<Long> seen) {
        for (int i = 0; i < 4; i++) {
            seen.add((long) x.addOrder(i, i + 1));
        }
        seen.add(x.checksum());
    }

    private static void text(CalendarReplicas x, List<Long> seen) {
        seen.add((long) x.createFromText(0));
        seen.add(x.checksum());
        seen.add((long) x.append(' '));
        seen.add((long) x.faultPosition());
        seen.add((long) x.clearText());
    }

    private static void rules(CalendarReplicas x, List<Long> seen) {
        for (int room = 0; room < 4; room++) {
            seen.add((long) x.setRoom(room, 1, 0, 0));
        }
        for (int person = 0; person < 6; person++) {
            seen.add((long) x.setAbsence(person, 0, 0));
        }
    }

    private static void slot(CalendarReplicas x, List<Long> seen, int slot) {
        seen.add((long) x.restore(slot));
        readings(x, seen);
        newMeetings(x, seen);
        text(x, seen);
        rules(x, seen);
        withoutOrders(x, seen);
    }

    // ---- states for many tests

    /** No base and no edits, but rules, an order, a text, something printed, and different things in the slots. */
    static Scene blank() {
        return new Scene("blank", Scene::makeBlank);
    }

    /**
     * Meetings 0 and 1 in the base. The replica 1 knows the edits 2 to 7: there 2, 4, 6 and 7 are accepted, and 3 and 5
     * are rejected. The replica 0 knows and accepts 2, 5 and 6; the replica 2 accepts 7 and 8, and 4 is blocked there.
     */
    static Scene busy() {
        return new Scene("busy", Scene::makeBusy);
    }

    /** As much of everything as there can be: meetings, edits, orders, characters, and both slots filled. */
    static Scene full() {
        return new Scene("full", Scene::makeFull);
    }

    static CalendarReplicas makeBlank() {
        CalendarReplicas x = new CalendarReplicas();
        x.setAbsence(4, 3, 9);
        x.keep(1);
        x.setAbsence(4, 0, 0);
        x.create(1, 5, 2, 0, 3, 1);
        x.print(1, 0);
        x.keep(0);
        x.restore(1);
        x.setRoom(1, 3, 10, 20);
        x.setRoom(2, 2, 90, 96);
        x.setAbsence(2, 30, 40);
        x.addOrder(0, 1);
        Check.type(x, "30+2 r2 p45 w7 e12x2");
        return x;
    }

    static CalendarReplicas makeBusy() {
        CalendarReplicas x = new CalendarReplicas();
        x.setRoom(1, 3, 10, 20);
        x.setRoom(2, 2, 0, 0);
        x.setAbsence(2, 30, 40);
        x.create(0, 0, 2, 0, 1, 1);
        x.create(0, 60, 3, 3, 2, 1);
        x.send(0, 1);
        x.send(0, 2);
        x.compact();
        x.keep(1);
        x.addOrder(0, 1);
        x.addOrder(2, 90);
        x.create(0, 10, 4, 0, 3, 5);
        x.send(0, 1);
        x.create(1, 20, 2, 3, 4, 4);
        x.move(1, 2, 12, 3);
        x.move(0, 2, 11, 2);
        x.join(0, 2, 3, 1);
        x.sendOne(1, 2, 4);
        x.create(2, 20, 2, 3, 8, 6);
        x.keep(0);
        x.send(0, 1);
        x.sendOne(2, 1, 7);
        x.create(2, 70, 3, 2, 48, 2);
        x.print(1, 2);
        Check.type(x, "30+2 r2 p45 w7 e12x2");
        return x;
    }

    static CalendarReplicas makeFull() {
        CalendarReplicas x = new CalendarReplicas();
        for (int i = 0; i < 12; i++) {
            x.create(0, 2 * i, 1, i % 4, 1 << i % 6, 1);
        }
        x.keep(0);
        x.send(0, 1);
        x.send(0, 2);
        x.compact();
        x.keep(1);
        for (int i = 0; i < 12; i++) {
            x.create(i % 3, 30 + 2 * i, 1, i % 4, 1 << i % 6, 1);
        }
        Check.tellAll(x);
        for (int i = 0; i < 4; i++) {
            x.addOrder(i, i + 12);
        }
        x.print(0, 3);
        Check.type(x, "90+2 r1 p45 w7 e2x2" + " ".repeat(41));
        return x;
    }
}
