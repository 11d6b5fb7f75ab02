import java.math.BigInteger;
import java.util.ArrayList;
import java.util.List;
import java.util.function.Supplier;

/** Promises 47 to 49: the two slots, empty, filled and full, and the checksum with its overflow. */
public final class SlotsBoundsTest {
    private static final int BAD = CalendarReplicas.BAD_VALUE;
    private static final int FULL = CalendarReplicas.FULL;
    private static final int NOT = CalendarReplicas.NOT_POSSIBLE;
    private static final int BLOCKED = CalendarReplicas.BLOCKED;
    private static final int REJECTED = CalendarReplicas.REJECTED;
    private static final int MAX = Integer.MAX_VALUE;
    private static final int MIN = Integer.MIN_VALUE;

    public static void main(String[] args) {
        keepRefused();
        keepReturnsTheEdits();
        keepChangesNothingElse();
        keepInPlaceOfWhatWasKept();
        restoreRefused();
        restoreOfEmptySlots();
        restoreReturnsTheEdits();
        restoreOfEverything();
        restoreOfTheBase();
        restoreOfRulesAndOrders();
        restoreOfFourOrders();
        restoreOfTheNextNumber();
        restoreOfWhatFollows();
        restoreLeavesTextPageAndSlots();
        restoreIntoAFullCalendar();
        theSlotKeepsIt();
        checksumOfNothing();
        checksumOfEachState();
        checksumOverflows();
        checksumIsNoConstant();
        checksumOfEachValue();
        Check.end();
    }

    // ---- promise 47

    private static void keepRefused() {
        for (Scene scene : new Scene[] {Scene.blank(), Scene.busy(), Scene.full()}) {
            for (int slot : new int[] {-1, 2, MAX, MIN}) {
                scene.refused("keep(" + slot + ")", x -> x.keep(slot), BAD);
            }
        }
    }

    private static void keepReturnsTheEdits() {
        CalendarReplicas x = new CalendarReplicas();
        for (int i = 0; i <= 12; i++) {
            Check.due("keep(0)", x.keep(0), i);
            Check.due("keep(1)", x.keep(1), i);
            x.create(i % 3, i, 1, 0, 1, 1);
        }
        Check.tellAll(x);
        x.compact();
        Check.due("after compact", x.keep(1), 0);
        Check.due("the other slot", x.restore(0), 12);
    }

    private static void keepChangesNothingElse() {
        CalendarReplicas x = Scene.makeBusy();
        long before = x.checksum();
        x.keep(0);
        Check.due("the checksum", x.checksum(), before);
        Check.due("the text", x.faultPosition(), Scene.makeBusy().faultPosition());
        Check.due("the page", x.printed(0), Scene.makeBusy().printed(0));
        Check.due("the other slot", x.restore(1), 0);
        Check.due("two meetings in it", x.meetings(0), 2);
    }

    private static void keepInPlaceOfWhatWasKept() {
        CalendarReplicas y = Scene.makeFull();
        y.restore(1);
        Check.due("12 meetings and no edit", y.keep(0), 0);
        y.restore(0);
        Check.due("no edit is left of those that the slot had", y.edits(), 0);
        Check.due("nor a number", y.editAt(0), BAD);
        Check.due("12 meetings", y.meetings(2), 12);
    }

    // ---- promise 48

    private static void restoreRefused() {
        for (Scene scene : new Scene[] {Scene.blank(), Scene.busy(), Scene.full()}) {
            for (int slot : new int[] {-1, 2, MAX, MIN}) {
                scene.refused("restore(" + slot + ")", x -> x.restore(slot), BAD);
            }
        }
        Scene empty = new Scene("empty slots", () -> {
            CalendarReplicas x = new CalendarReplicas();
            x.create(0, 10, 2, 0, 1, 1);
            Check.type(x, "1+1");
            x.print(0, 0);
            return x;
        });
        empty.refused("restore(0)", x -> x.restore(0), NOT);
        empty.refused("restore(1)", x -> x.restore(1), NOT);
        empty.refused("restore(-1), BAD_VALUE and NOT_POSSIBLE", x -> x.restore(-1), BAD);
        empty.refused("restore(2), BAD_VALUE and NOT_POSSIBLE", x -> x.restore(2), BAD);
    }

    private static void restoreOfEmptySlots() {
        for (int slot = 0; slot < 2; slot++) {
            int filled = slot;
            Scene one = new Scene("only slot " + slot + " is filled", () -> {
                CalendarReplicas x = new CalendarReplicas();
                x.create(0, 10, 2, 0, 1, 1);
                x.keep(filled);
                x.create(0, 20, 2, 0, 1, 1);
                return x;
            });
            one.refused("restore of the empty one", x -> x.restore(1 - filled), NOT);
            one.answers("restore of the filled one", x -> x.restore(filled), 1);
        }
    }

    private static void restoreReturnsTheEdits() {
        for (int edits = 0; edits <= 12; edits++) {
            CalendarReplicas x = new CalendarReplicas();
            for (int i = 0; i < edits; i++) {
                x.create(0, i, 1, 0, 1, 1);
            }
            x.keep(1);
            x.create(0, 50, 1, 0, 1, 1);
            Check.due("restore", x.restore(1), edits);
            Check.due("edits", x.edits(), edits);
            Check.due("restore again", x.restore(1), edits);
        }
    }

    private static void restoreOfEverything() {
        CalendarReplicas x = Scene.makeBusy();
        long busy = x.checksum();
        Check.due("keep", x.keep(1), 7);
        for (int round = 0; round < 3; round++) {
            Check.tellAll(x);
            x.clearOrders();
            x.compact();
            x.move(0, 2, 80, 9);
            x.cancel(1, 0, 9);
            Check.due("restore", x.restore(1), 7);
            Check.due("the checksum", x.checksum(), busy);
            Check.due("a blocked edit", x.state(2, 4), BLOCKED);
            Check.due("a rejected edit", x.state(1, 5), REJECTED);
            Check.due("a clash", x.clash(4, 5), 1);
            Check.due("no clash", x.clash(4, 6), 0);
        }
        Check.due("the orders", x.clearOrders(), 2);
    }

    /** Meanwhile the base has other meetings, or other values of the same ones, and as many of them as before. */
    private static void restoreOfTheBase() {
        CalendarReplicas x = made("10+2 r1 p03 e20x2", 0);
        x.create(0, 50, 3, 2, 4, 1);
        Check.tellAll(x);
        x.compact();
        x.keep(0);
        x.move(0, 0, 12, 1);
        x.changeRoom(0, 0, 3, 1);
        x.resize(0, 0, 4, 1);
        x.leave(0, 0, 3, 1);
        x.cancel(0, 1, 1);
        x.create(0, 80, 5, 0, 32, 1);
        Check.tellAll(x);
        Check.due("two other meetings", x.compact(), 2);
        x.keep(1);
        x.restore(0);
        page(x, 0, "10+2 r1 p03 e20x2");
        page(x, 1, "50+3 r2 p2");
        page(x, 7, "");
        x.restore(1);
        page(x, 0, "12+4 r3 p0 e20x2");
        page(x, 1, "");
        page(x, 7, "80+5 r0 p5");
    }

    /** What is printed of a meeting at each replica; nothing if it is not there. */
    private static void page(CalendarReplicas x, int meeting, String want) {
        for (int replica = 0; replica < 3; replica++) {
            Check.due("print of " + want, x.print(replica, meeting), want.isEmpty() ? BAD : want.length());
            Check.isTrue("the page of " + want, want.isEmpty() || Check.page(x).equals(want));
        }
    }

    private static void restoreOfRulesAndOrders() {
        CalendarReplicas x = new CalendarReplicas();
        for (int room = 0; room < 4; room++) {
            x.setRoom(room, room + 1, 10 * room, 10 * room + 5);
        }
        for (int person = 0; person < 6; person++) {
            x.setAbsence(person, 50, 51 + person);
        }
        for (int i = 0; i < 4; i++) {
            x.addOrder(i, i + 1);
        }
        x.keep(0);
        x.clearOrders();
        for (int room = 0; room < 4; room++) {
            x.setRoom(room, 6, 90, 96);
        }
        for (int person = 0; person < 6; person++) {
            x.setAbsence(person, 0, 96);
        }
        Check.due("restore", x.restore(0), 0);
        for (int room = 0; room < 4; room++) {
            Check.due("the closing time of " + room, x.freeStart(0, room, 1, 10 * room), 10 * room + 5);
            Check.due("open at 90", x.freeStart(0, room, 6, 90), 90);
        }
        for (int i = 0; i < 4; i++) {
            Check.due("a meeting", x.create(0, 60 + i, 1, 0, 1, 1), i);
            Check.due("one that an order forbids", x.create(0, 59, 1, 0, 1, 1), NOT);
        }
        Check.due("the orders", x.clearOrders(), 4);
        Check.due("restore", x.restore(0), 0);
        for (int room = 0; room < 4; room++) {
            Check.due("the capacity of " + room, x.setRoom(room, 6, 0, 0), room + 1);
        }
        for (int person = 0; person < 6; person++) {
            Check.due("the absence of " + person, x.setAbsence(person, 0, 0), person + 1);
        }
    }

    /** Others take the place of all four, so that a kept one that is not put back is missed. */
    private static void restoreOfFourOrders() {
        for (int later = 1; later <= 4; later++) {
            CalendarReplicas x = new CalendarReplicas();
            for (int i = 1; i <= 4; i++) {
                x.addOrder(0, i);
            }
            Check.due("keep", x.keep(1), 0);
            x.clearOrders();
            for (int i = 1; i <= 4; i++) {
                x.addOrder(20 + i, 30 + i);
            }
            Check.due("restore", x.restore(1), 0);
            x.create(0, 50, 1, 0, 1, 1);
            for (int i = 1; i < later; i++) {
                x.create(0, 60 + i, 1, 0, 1, 1);
            }
            Check.due("against order " + later, x.create(0, 49, 1, 0, 1, 1), NOT);
            Check.due("with order " + later, x.create(0, 51, 1, 0, 1, 1), later);
            Check.due("a fifth order", x.addOrder(40, 41), FULL);
        }
    }

    /** Everything but the text, the page and the slots: so the next number is as it was, too. */
    private static void restoreOfTheNextNumber() {
        CalendarReplicas x = new CalendarReplicas();
        x.keep(0);
        for (int i = 0; i < 5; i++) {
            Check.due("the number", x.create(0, i, 1, 0, 1, 1), i);
        }
        x.keep(1);
        x.restore(0);
        Check.due("the first number", x.create(2, 0, 1, 0, 1, 1), 0);
        x.restore(1);
        Check.due("the sixth number", x.create(2, 0, 1, 0, 1, 1), 5);
        x.send(0, 1);
        x.send(0, 2);
        x.send(2, 0);
        x.send(2, 1);
        x.compact();
        x.keep(1);
        Check.due("after compact", x.create(1, 90, 1, 0, 1, 1), 6);
        x.restore(1);
        Check.due("the number again", x.create(1, 91, 1, 0, 1, 1), 6);
    }

    private static void restoreOfWhatFollows() {
        CalendarReplicas x = new CalendarReplicas();
        x.create(0, 10, 2, 0, 1, 1);
        x.send(0, 1);
        x.move(0, 0, 20, 2);
        x.keep(0);
        x.send(0, 1);
        x.move(1, 0, 30, 3);
        Check.due("it follows", x.clash(1, 2), 0);
        x.restore(0);
        x.move(1, 0, 30, 3);
        Check.due("it does not follow", x.clash(1, 2), 1);
        x.keep(1);
        x.restore(0);
        x.restore(1);
        Check.due("it does not follow still", x.clash(1, 2), 1);
    }

    private static void restoreLeavesTextPageAndSlots() {
        CalendarReplicas x = new CalendarReplicas();
        Check.type(x, "10+2");
        x.createFromText(0);
        x.print(0, 0);
        x.keep(0);
        x.keep(1);
        x.move(0, 0, 50, 1);
        x.keep(1);
        x.print(0, 0);
        Check.type(x, "20+1 ");
        Check.due("restore(0)", x.restore(0), 1);
        Check.due("the text", x.faultPosition(), 5);
        Check.due("its length", x.clearText(), 5);
        Check.isTrue("the page", Check.page(x).equals("50+2 r0 p0"));
        Check.due("the other slot", x.restore(1), 2);
        Check.due("what it keeps", x.startOf(0, 0), 50);
        Check.due("the empty text", x.faultPosition(), 0);
    }

    private static void restoreIntoAFullCalendar() {
        CalendarReplicas x = Scene.makeFull();
        Check.due("12 edits", x.create(0, 90, 1, 3, 32, 1), FULL);
        Check.due("restore of a base without edits", x.restore(1), 0);
        Check.due("there is room", x.create(0, 90, 1, 3, 32, 1), 12);
        Check.due("restore of 12 edits without a base", x.restore(0), 12);
        Check.due("there is no room", x.create(0, 90, 1, 3, 32, 1), FULL);
        Check.due("one replica knows them", x.agree(0, 1), 0);
        Check.due("12 meetings", x.meetings(0), 12);
        Check.due("no meetings", x.meetings(1), 0);
        CalendarReplicas y = Scene.makeFull();
        long full = y.checksum();
        y.keep(0);
        y.restore(1);
        Check.due("restore of all that there can be", y.restore(0), 12);
        Check.due("the checksum", y.checksum(), full);
        Check.due("24 meetings", y.meetings(2), 24);
        Check.due("four orders", y.addOrder(50, 51), FULL);
        Check.due("the text", y.append(' '), FULL);
    }

    private static void theSlotKeepsIt() {
        CalendarReplicas x = new CalendarReplicas();
        x.create(0, 10, 2, 0, 1, 1);
        x.addOrder(0, 1);
        x.keep(0);
        long kept = x.checksum();
        for (int round = 0; round < 5; round++) {
            x.move(0, 0, 20 + round, 1);
            x.create(1, 0, 1, 0, 1, 1);
            x.send(0, 2);
            x.addOrder(5, 6);
            Check.due("restore", x.restore(0), 1);
            Check.due("the checksum", x.checksum(), kept);
            Check.due("the orders", x.clearOrders(), 1);
        }
    }

    // ---- promise 49

    private static List<Long> values(CalendarReplicas x) {
        List<Long> values = new ArrayList<>();
        values.add((long) x.edits());
        for (int i = 0; i < x.edits(); i++) {
            int edit = x.editAt(i);
            int[] of = {edit, x.kindOf(edit), x.meetingOf(edit), x.authorOf(edit), x.weightOf(edit), x.state(0, edit),
                x.state(1, edit), x.state(2, edit)};
            for (int value : of) {
                values.add((long) value);
            }
        }
        return values;
    }

    private static List<Long> values(CalendarReplicas x, int replica) {
        List<Long> values = new ArrayList<>();
        values.add((long) x.meetings(replica));
        values.add((long) x.acceptedWeight(replica));
        values.add((long) x.rejectedWeight(replica));
        for (int i = 0; i < x.meetings(replica); i++) {
            int meeting = x.meetingAt(replica, i);
            int[] of = {meeting, x.startOf(replica, meeting), x.durationOf(replica, meeting),
                x.roomOf(replica, meeting), x.personsOf(replica, meeting), x.periodOf(replica, meeting),
                x.countOf(replica, meeting)};
            for (int value : of) {
                values.add((long) value);
            }
        }
        return values;
    }

    private static BigInteger withoutOverflow(List<Long> values) {
        BigInteger h = BigInteger.valueOf(37);
        for (long value : values) {
            h = h.multiply(BigInteger.valueOf(31)).add(BigInteger.valueOf(value));
        }
        return h;
    }

    private static void checksumOfNothing() {
        BigInteger h = BigInteger.valueOf(37).multiply(BigInteger.valueOf(31).pow(10));
        Check.due("ten times 0", new CalendarReplicas().checksum(), h.longValueExact());
        Check.due("a written out number", new CalendarReplicas().checksum(), 30326246618289637L);
    }

    /** The values come from objects of their own, as their calls are too many for one. */
    private static List<Long> allValues(Supplier<CalendarReplicas> maker) {
        List<Long> values = values(maker.get());
        for (int replica = 0; replica < 3; replica++) {
            values.addAll(values(maker.get(), replica));
        }
        return values;
    }

    private static void checksumOfEachState() {
        Check.due("blank", Scene.makeBlank().checksum(), withoutOverflow(allValues(Scene::makeBlank)).longValue());
        Check.due("busy", Scene.makeBusy().checksum(), withoutOverflow(allValues(Scene::makeBusy)).longValue());
        Check.due("full", Scene.makeFull().checksum(), withoutOverflow(allValues(Scene::makeFull)).longValue());
    }

    /** With 601 values it would have some 900 digits; only the lowest 64 bits of them are left. */
    private static void checksumOverflows() {
        List<Long> values = allValues(Scene::makeFull);
        Check.due("how many values", values.size(), 1 + 12 * 8 + 3 * (3 + 24 * 7));
        BigInteger exact = withoutOverflow(values);
        Check.isTrue("it is far beyond a long", exact.bitLength() > 2000);
        BigInteger low = exact.mod(BigInteger.ONE.shiftLeft(64));
        Check.due("the lowest 64 bits", Scene.makeFull().checksum(), low.longValue());
        CalendarReplicas x = new CalendarReplicas();
        boolean negative = false;
        boolean positive = false;
        for (int i = 0; i < 12; i++) {
            x.create(0, i, 1, 0, 1, 1);
            negative |= x.checksum() < 0;
            positive |= x.checksum() > 0;
        }
        Check.isTrue("it is negative at times, and positive at others", negative && positive);
    }

    /** The answer of checksum is negative here, and none of the constants: it has no errors. */
    private static void checksumIsNoConstant() {
        CalendarReplicas x = new CalendarReplicas();
        Check.due("create", x.create(0, 10, 3, 1, 3, 4), 0);
        Check.due("create", x.create(1, 10, 3, 2, 4, 4), 1);
        Check.due("send", x.send(0, 1), 1);
        Check.due("send", x.send(1, 0), 1);
        Check.due("checksum", x.checksum(), -3308825245121860244L);
    }

    private static void differ(String what, CalendarReplicas x, CalendarReplicas y) {
        Check.isTrue("the checksum tells " + what, x.checksum() != y.checksum());
    }

    private static CalendarReplicas made(String text, int replica) {
        CalendarReplicas x = new CalendarReplicas();
        Check.type(x, text);
        x.createFromText(replica);
        return x;
    }

    /** Two states that differ in one of the values only; text, page, orders, rules and slots are not in it. */
    private static void checksumOfEachValue() {
        differ("the author", made("1+1", 0), made("1+1", 1));
        differ("the weight", made("1+1 w1", 0), made("1+1 w2", 0));
        differ("the start", made("1+1", 0), made("2+1", 0));
        differ("the duration", made("1+1", 0), made("1+2", 0));
        differ("the room", made("1+1 r0", 0), made("1+1 r1", 0));
        differ("the persons", made("1+1 p0", 0), made("1+1 p1", 0));
        differ("the period", made("1+1 e1x1", 0), made("1+1 e2x1", 0));
        differ("the count", made("1+1 e20x2", 0), made("1+1 e20x3", 0));
        CalendarReplicas x = made("1+1", 0);
        CalendarReplicas y = made("1+1", 0);
        x.join(0, 0, 0, 1);
        y.leave(0, 0, 5, 1);
        differ("the kind", x, y);
        x = made("1+1", 0);
        y = made("1+1", 0);
        x.sendOne(0, 1, 0);
        y.sendOne(0, 2, 0);
        differ("who knows an edit", x, y);
        x = made("1+1", 0);
        long before = x.checksum();
        x.clearText();
        x.print(0, 0);
        x.addOrder(7, 8);
        x.keep(0);
        Check.due("text, page, orders and slots are not in it", x.checksum(), before);
    }
}
