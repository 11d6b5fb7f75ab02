import java.util.ArrayList;
import java.util.List;
import java.util.Set;
import java.util.function.Supplier;
import java.util.function.ToLongFunction;

/**
 * Promises 2 to 49: a call changes what it is said to change, and leaves all the rest alone. What there is, is taken
 * apart: the text, the page, the two slots, the orders, the rooms and persons, the edits, and the next number.
 */
public final class LeftAloneTest {
    private interface Look {
        void at(CalendarReplicas x, List<Long> seen);
    }

    private enum Part {
        TEXT_FROM_SLOT_0((x, seen) -> text(x, seen, 0)), TEXT_FROM_SLOT_1((x, seen) -> text(x, seen, 1)),
        PAGE(LeftAloneTest::page), SLOT_0((x, seen) -> slot(x, seen, 0)), SLOT_1((x, seen) -> slot(x, seen, 1)),
        ORDERS(LeftAloneTest::orders), RULES(LeftAloneTest::rules), EDITS((x, seen) -> seen.add(x.checksum())),
        NEXT(LeftAloneTest::next);

        private final Look look;

        Part(Look look) {
            this.look = look;
        }

        List<Long> seen(CalendarReplicas x) {
            List<Long> seen = new ArrayList<>();
            look.at(x, seen);
            return seen;
        }
    }

    private static final Part[] TEXT = {Part.TEXT_FROM_SLOT_0, Part.TEXT_FROM_SLOT_1};
    private static final Part[] NOTHING = {};
    private static final Part[] AN_EDIT = {Part.EDITS, Part.NEXT};

    public static void main(String[] args) {
        rulesOfABlankCalendar();
        ordersAndEdits();
        exchange();
        textsAndSlots();
        whatOnlyAsks();
        Check.end();
    }

    // ---- the looks; each is at an object of its own, so that it may change the object

    /** What a text says is seen by making a meeting of it, on a calendar that no call but keep and restore changes. */
    private static void text(CalendarReplicas x, List<Long> seen, int slot) {
        seen.add((long) x.faultPosition());
        seen.add((long) x.restore(slot));
        int meeting = x.createFromText(0);
        int[] values = {meeting, x.weightOf(meeting), x.startOf(0, meeting), x.durationOf(0, meeting),
            x.roomOf(0, meeting), x.personsOf(0, meeting), x.periodOf(0, meeting), x.countOf(0, meeting),
            x.clearText()};
        for (int value : values) {
            seen.add((long) value);
        }
    }

    private static void page(CalendarReplicas x, List<Long> seen) {
        for (int i = 0; i < 30; i++) {
            seen.add((long) x.printed(i));
        }
    }

    private static void slot(CalendarReplicas x, List<Long> seen, int slot) {
        seen.add((long) x.restore(slot));
        seen.add(x.checksum());
        rules(x, seen);
        next(x, seen);
        orders(x, seen);
    }

    /** Only whether an edit can be made is seen, and not its number, which is a part of its own. */
    private static void possible(long answer, List<Long> seen) {
        seen.add(Math.min(answer, 0));
    }

    private static void orders(CalendarReplicas x, List<Long> seen) {
        possible(x.move(2, 0, 92, 1), seen);
        possible(x.create(2, 88, 1, 0, 32, 1), seen);
        possible(x.create(2, 87, 1, 0, 32, 1), seen);
        seen.add((long) x.clearOrders());
    }

    private static void rules(CalendarReplicas x, List<Long> seen) {
        for (int room = 0; room < 4; room++) {
            seen.add((long) x.freeStart(2, room, 1, 10));
            seen.add((long) x.freeStart(2, room, 1, 54));
            seen.add((long) x.freeStart(2, room, 8, 85));
        }
        for (int person = 0; person < 6; person++) {
            seen.add((long) x.commonStart(2, 1 << person, 1, 5));
            seen.add((long) x.commonStart(2, 1 << person, 1, 35));
        }
        possible(x.create(2, 80, 1, 1, 15, 1), seen);
        possible(x.create(2, 80, 1, 2, 7, 1), seen);
        for (int room = 0; room < 4; room++) {
            seen.add((long) x.setRoom(room, 6, 0, 0));
        }
        for (int person = 0; person < 6; person++) {
            seen.add((long) x.setAbsence(person, 0, 0));
        }
    }

    private static void next(CalendarReplicas x, List<Long> seen) {
        seen.add((long) x.create(2, 95, 1, 0, 32, 1));
    }

    // ---- the calls

    /** The call must be answered without an error, must change each of these parts, and no other one. */
    private static void changes(String call, Supplier<CalendarReplicas> maker, ToLongFunction<CalendarReplicas> made,
            Part... changed) {
        for (Part part : Part.values()) {
            CalendarReplicas x = maker.get();
            long answer = made.applyAsLong(x);
            Check.isTrue(call + " is no error", answer >= 0 || answer == CalendarReplicas.NONE);
            boolean same = part.seen(x).equals(part.seen(maker.get()));
            if (Set.of(changed).contains(part)) {
                Check.isTrue(call + " changes " + part, !same);
            } else {
                Check.isTrue(call + " leaves " + part + " alone", same);
            }
        }
    }

    private static void blank(String call, ToLongFunction<CalendarReplicas> made, Part... changed) {
        changes("blank: " + call, Scene::makeBlank, made, changed);
    }

    private static void busy(String call, ToLongFunction<CalendarReplicas> made, Part... changed) {
        changes("busy: " + call, Scene::makeBusy, made, changed);
    }

    /** Blank with a page that was printed when all its rooms and persons were set, and with an order. */
    private static CalendarReplicas printedLast() {
        CalendarReplicas x = Scene.makeBlank();
        x.keep(1);
        x.restore(0);
        x.print(1, 0);
        x.restore(1);
        return x;
    }

    private static void rulesOfABlankCalendar() {
        Check.isTrue("a page was printed", printedLast().printed(0) > 0);
        Supplier<CalendarReplicas> maker = LeftAloneTest::printedLast;
        changes("the capacity of a room", maker, x -> x.setRoom(1, 5, 10, 20), Part.RULES);
        changes("the closing time of a room", maker, x -> x.setRoom(3, 6, 50, 60), Part.RULES);
        changes("a room as it is", maker, x -> x.setRoom(1, 3, 10, 20));
        changes("an absence", maker, x -> x.setAbsence(5, 1, 9), Part.RULES);
        changes("an absence as it is", maker, x -> x.setAbsence(2, 30, 40));
    }

    private static void ordersAndEdits() {
        blank("addOrder", x -> x.addOrder(1, 0), Part.ORDERS);
        blank("clearOrders", x -> x.clearOrders(), Part.ORDERS);
        busy("addOrder of what there is not", x -> x.addOrder(50, 51), Part.ORDERS);
        busy("addOrder against an edit", x -> x.addOrder(1, 2), Part.ORDERS, Part.EDITS);
        busy("clearOrders", x -> x.clearOrders(), Part.ORDERS);
        busy("create", x -> x.create(0, 80, 1, 1, 16, 3), AN_EDIT);
        busy("createFromText", x -> x.createFromText(0), AN_EDIT);
        busy("move", x -> x.move(0, 2, 20, 1), AN_EDIT);
        busy("changeRoom", x -> x.changeRoom(0, 2, 3, 1), AN_EDIT);
        busy("resize", x -> x.resize(0, 2, 2, 1), AN_EDIT);
        busy("join", x -> x.join(0, 2, 5, 1), AN_EDIT);
        busy("leave", x -> x.leave(0, 2, 3, 1), AN_EDIT);
        busy("cancel", x -> x.cancel(0, 2, 1), AN_EDIT);
    }

    private static CalendarReplicas allKnown() {
        CalendarReplicas x = Scene.makeBusy();
        Check.tellAll(x);
        return x;
    }

    private static void exchange() {
        busy("send", x -> x.send(1, 0), Part.EDITS);
        busy("send of nothing new", x -> {
            x.send(1, 0);
            return x.send(1, 0);
        }, Part.EDITS);
        busy("sendOne", x -> x.sendOne(1, 0, 3), Part.EDITS);
        busy("sendOne of what is known", x -> x.sendOne(0, 1, 5));
        changes("all known: compact", LeftAloneTest::allKnown, x -> x.compact(), Part.EDITS);
        changes("all known: send", LeftAloneTest::allKnown, x -> x.send(0, 2));
        blank("compact", x -> x.compact());
    }

    private static void textsAndSlots() {
        busy("append", x -> x.append(' '), TEXT);
        busy("clearText", x -> x.clearText(), TEXT);
        busy("print", x -> x.print(0, 2), Part.PAGE);
        busy("print of what was printed", x -> x.print(1, 2));
        busy("keep(0)", x -> x.keep(0), Part.SLOT_0, Part.TEXT_FROM_SLOT_0);
        busy("keep(1)", x -> x.keep(1), Part.SLOT_1, Part.TEXT_FROM_SLOT_1);
        busy("restore(0)", x -> x.restore(0), AN_EDIT);
        busy("restore(1)", x -> x.restore(1), Part.EDITS, Part.NEXT, Part.ORDERS);
        blank("restore(0)", x -> x.restore(0), Part.EDITS, Part.NEXT, Part.ORDERS, Part.RULES);
        blank("restore(1)", x -> x.restore(1), Part.ORDERS, Part.RULES);
        blank("keep(0)", x -> x.keep(0), Part.SLOT_0, Part.TEXT_FROM_SLOT_0);
    }

    private static void asks(String call, ToLongFunction<CalendarReplicas> made) {
        busy(call, made, NOTHING);
    }

    private static void whatOnlyAsks() {
        asks("meetings", x -> x.meetings(0));
        asks("meetingAt", x -> x.meetingAt(1, 2));
        asks("startOf", x -> x.startOf(1, 2));
        asks("durationOf", x -> x.durationOf(1, 2));
        asks("roomOf", x -> x.roomOf(1, 2));
        asks("personsOf", x -> x.personsOf(1, 2));
        asks("periodOf", x -> x.periodOf(1, 2));
        asks("countOf", x -> x.countOf(1, 2));
        asks("edits", x -> x.edits());
        asks("editAt", x -> x.editAt(3));
        asks("kindOf", x -> x.kindOf(4));
        asks("meetingOf", x -> x.meetingOf(4));
        asks("authorOf", x -> x.authorOf(4));
        asks("weightOf", x -> x.weightOf(4));
        asks("clash", x -> x.clash(4, 5));
        asks("state", x -> x.state(2, 4));
        asks("acceptedWeight", x -> x.acceptedWeight(1));
        asks("rejectedWeight", x -> x.rejectedWeight(1));
        asks("agree", x -> x.agree(0, 1));
        asks("obstacle", x -> x.obstacle(1, 3));
        asks("cost", x -> x.cost(1, 3));
        asks("alternative of a CREATE", x -> x.alternative(1, 3));
        asks("alternative of a MOVE", x -> x.alternative(1, 5));
        asks("freeStart", x -> x.freeStart(0, 0, 8, 0));
        asks("freeStart, NONE", x -> x.freeStart(0, 0, 8, 95));
        asks("commonStart", x -> x.commonStart(0, 63, 8, 0));
        asks("commonStart, NONE", x -> x.commonStart(0, 63, 8, 95));
        asks("busySlots", x -> x.busySlots(0, 0));
        asks("faultPosition, NONE", x -> x.faultPosition());
        asks("printed", x -> x.printed(0));
        asks("printed, NONE", x -> x.printed(60));
        asks("checksum", x -> Math.abs(x.checksum()));
        changes("a text with a fault: faultPosition", () -> {
            CalendarReplicas x = Scene.makeBusy();
            x.append(' ');
            return x;
        }, x -> x.faultPosition());
    }
}
