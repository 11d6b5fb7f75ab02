/** Promises 14 to 16: the bounds of send, sendOne and compact, and what they refuse. */
public final class ExchangeBoundsTest {
    private static final int BAD = CalendarReplicas.BAD_VALUE;
    private static final int FULL = CalendarReplicas.FULL;
    private static final int NOT = CalendarReplicas.NOT_POSSIBLE;
    private static final int UNKNOWN = CalendarReplicas.UNKNOWN;
    private static final int BLOCKED = CalendarReplicas.BLOCKED;
    private static final int REJECTED = CalendarReplicas.REJECTED;
    private static final int ACCEPTED = CalendarReplicas.ACCEPTED;
    private static final int MAX = Integer.MAX_VALUE;
    private static final int MIN = Integer.MIN_VALUE;

    public static void main(String[] args) {
        sendRefused();
        sendBetweenAll();
        sendCounts();
        sendGoesOneWay();
        sendOfBlockedEdits();
        sendOneRefused();
        sendOneBetweenAll();
        sendOneOfWhatIsKnown();
        sendOneSendsOne();
        compactNotPossible();
        compactOfNothing();
        compactOfTwelveMeetings();
        compactFull();
        compactErrorsInTheirOrder();
        compactForgetsRejectedEdits();
        compactWithoutMeetings();
        numbersGoOn();
        Check.end();
    }

    // ---- promise 14

    private static void sendRefused() {
        for (Scene scene : new Scene[] {Scene.blank(), Scene.busy()}) {
            for (int replica : new int[] {-1, 3, MAX, MIN}) {
                scene.refused("send(" + replica + ", 1)", x -> x.send(replica, 1), BAD);
                scene.refused("send(1, " + replica + ")", x -> x.send(1, replica), BAD);
            }
            for (int replica = -1; replica <= 3; replica++) {
                int of = replica;
                scene.refused("send from " + of + " to itself", x -> x.send(of, of), BAD);
            }
        }
    }

    private static void sendBetweenAll() {
        for (int from = 0; from < 3; from++) {
            for (int to = 0; to < 3; to++) {
                if (from != to) {
                    CalendarReplicas x = new CalendarReplicas();
                    Check.due("send of nothing", x.send(from, to), 0);
                    x.create(from, 0, 1, 0, 1, 1);
                    Check.due("send of one", x.send(from, to), 1);
                    Check.due("the other one knows it", x.state(to, 0), ACCEPTED);
                    Check.due("the third one does not", x.state(3 - from - to, 0), UNKNOWN);
                    Check.due("send of it again", x.send(from, to), 0);
                    Check.due("send of it back", x.send(to, from), 0);
                }
            }
        }
    }

    private static void sendCounts() {
        CalendarReplicas x = new CalendarReplicas();
        for (int i = 0; i < 12; i++) {
            x.create(0, i, 1, 0, 1, 1);
        }
        x.sendOne(0, 1, 0);
        x.sendOne(0, 1, 11);
        Check.due("ten of twelve are new", x.send(0, 1), 10);
        Check.due("all of twelve are new", x.send(1, 2), 12);
        Check.due("none is new", x.send(2, 0), 0);
        CalendarReplicas y = Scene.makeBusy();
        Check.due("rejected and accepted ones to 0", y.send(1, 0), 3);
        Check.due("the rest to 2", y.send(0, 2), 4);
        Check.due("what 1 lacks", y.send(2, 1), 1);
        Check.due("what 0 lacks", y.send(1, 0), 1);
        Check.due("all agree", y.agree(0, 1) + y.agree(1, 2) + y.agree(0, 2), 3);
    }

    private static void sendGoesOneWay() {
        CalendarReplicas x = new CalendarReplicas();
        x.create(0, 0, 1, 0, 1, 1);
        x.create(1, 5, 1, 0, 1, 1);
        x.send(0, 1);
        Check.due("the sender learns nothing", x.state(0, 1), UNKNOWN);
        Check.due("the receiver keeps what it had", x.state(1, 1), ACCEPTED);
        x.move(0, 0, 8, 1);
        Check.due("what comes later is not sent", x.state(1, 2), UNKNOWN);
    }

    /** What is blocked is known as well: it goes on, and counts, wherever it came from. */
    private static void sendOfBlockedEdits() {
        CalendarReplicas x = new CalendarReplicas();
        x.create(0, 10, 1, 0, 1, 1);
        x.move(0, 0, 20, 1);
        x.join(0, 0, 3, 1);
        x.sendOne(0, 1, 1);
        x.sendOne(0, 1, 2);
        Check.due("two blocked edits", x.send(1, 2), 2);
        Check.due("one of them", x.state(2, 1), BLOCKED);
        Check.due("the other one", x.state(2, 2), BLOCKED);
        Check.due("again", x.send(1, 2), 0);
        Check.due("only their create is new", x.send(0, 2), 1);
        Check.due("the move", x.startOf(2, 0), 20);
        Check.due("the join", x.personsOf(2, 0), 9);
        Check.due("what the first one still lacks", x.send(2, 1), 1);
    }

    // ---- promise 15

    private static void sendOneRefused() {
        Scene scene = Scene.busy();
        for (int replica : new int[] {-1, 3, MAX, MIN}) {
            scene.refused("sendOne(" + replica + ", 1, 7)", x -> x.sendOne(replica, 1, 7), BAD);
            scene.refused("sendOne(1, " + replica + ", 7)", x -> x.sendOne(1, replica, 7), BAD);
        }
        for (int replica = -1; replica <= 3; replica++) {
            int of = replica;
            scene.refused("sendOne from " + of + " to itself", x -> x.sendOne(of, of, 2), BAD);
        }
        for (int edit : new int[] {-1, 0, 1, 9, 12, MAX, MIN}) {
            scene.refused("sendOne of " + edit + ", which is none", x -> x.sendOne(1, 0, edit), BAD);
        }
        scene.refused("sendOne of what from does not know", x -> x.sendOne(0, 2, 3), BAD);
        scene.refused("sendOne of what only to knows", x -> x.sendOne(1, 2, 8), BAD);
        scene.refused("sendOne of what the third one knows", x -> x.sendOne(0, 1, 8), BAD);
        Scene.blank().refused("sendOne of the first number", x -> x.sendOne(0, 1, 0), BAD);
    }

    private static void sendOneBetweenAll() {
        for (int from = 0; from < 3; from++) {
            for (int to = 0; to < 3; to++) {
                if (from != to) {
                    CalendarReplicas x = new CalendarReplicas();
                    x.create(from, 0, 1, 0, 1, 1);
                    Check.due("what is new", x.sendOne(from, to, 0), 1);
                    Check.due("what is known", x.sendOne(from, to, 0), 0);
                    Check.due("back to its author", x.sendOne(to, from, 0), 0);
                    Check.due("the third one does not know it", x.state(3 - from - to, 0), UNKNOWN);
                }
            }
        }
    }

    /** A replica may send what it has rejected, and what is blocked there. */
    private static void sendOneOfWhatIsKnown() {
        Scene scene = Scene.busy();
        scene.answers("a rejected edit", x -> x.sendOne(1, 0, 3), 1);
        scene.answers("a blocked edit", x -> x.sendOne(2, 0, 4), 1);
        scene.answers("an accepted edit", x -> x.sendOne(2, 0, 8), 1);
        scene.answers("one that is blocked at to already", x -> x.sendOne(1, 2, 4), 0);
        scene.answers("one that is rejected at to already", x -> x.sendOne(0, 1, 5), 0);
    }

    private static void sendOneSendsOne() {
        CalendarReplicas x = new CalendarReplicas();
        for (int i = 0; i < 12; i++) {
            x.create(0, 2 * i, 1, 0, 1, 1);
        }
        for (int i = 11; i >= 0; i--) {
            Check.due("edit " + i, x.sendOne(0, 1, i), 1);
            Check.due("what it knows then", x.meetings(1), 12 - i);
            Check.due("the lowest one", x.meetingAt(1, 0), i);
        }
        Check.due("agree", x.agree(0, 1), 1);
    }

    // ---- promise 16

    private static void compactNotPossible() {
        Scene.busy().refused("compact", x -> x.compact(), NOT);
        for (int lacking = 0; lacking < 3; lacking++) {
            int who = lacking;
            new Scene("replica " + who + " lacks one edit of twelve", () -> {
                CalendarReplicas x = new CalendarReplicas();
                int author = (who + 1) % 3;
                for (int i = 0; i < 11; i++) {
                    x.create(author, i, 1, 0, 1, 1);
                }
                x.send(author, who);
                x.create(author, 50, 1, 0, 1, 1);
                x.send(author, (who + 2) % 3);
                return x;
            }).refused("compact", x -> x.compact(), NOT);
        }
        new Scene("the one edit that is not known is rejected", () -> {
            CalendarReplicas x = new CalendarReplicas();
            x.create(0, 0, 1, 0, 1, 9);
            x.send(0, 1);
            x.send(0, 2);
            x.create(1, 5, 1, 0, 1, 1);
            x.addOrder(1, 0);
            return x;
        }).refused("compact", x -> x.compact(), NOT);
    }

    private static void compactOfNothing() {
        CalendarReplicas x = new CalendarReplicas();
        Check.due("compact", x.compact(), 0);
        Check.due("compact again", x.compact(), 0);
        Check.due("nothing has changed", x.checksum(), new CalendarReplicas().checksum());
        Check.due("the first number", x.create(0, 0, 1, 0, 1, 1), 0);
    }

    private static CalendarReplicas meetings(int count) {
        CalendarReplicas x = new CalendarReplicas();
        for (int i = 0; i < 12; i++) {
            x.create(0, 2 * i, 1, i % 4, 1 << i % 6, 1);
        }
        Check.tellAll(x);
        x.compact();
        for (int i = 12; i < count; i++) {
            x.create(i % 3, 2 * i, 1, i % 4, 1 << i % 6, 1);
        }
        Check.tellAll(x);
        return x;
    }

    private static void compactOfTwelveMeetings() {
        CalendarReplicas x = meetings(12);
        Check.due("12 meetings are in the base", x.meetings(0), 12);
        Check.due("no edits", x.edits(), 0);
        Check.due("compact again", x.compact(), 12);
        x.create(1, 90, 1, 0, 1, 1);
        Check.tellAll(x);
        x.cancel(2, 3, 1);
        Check.tellAll(x);
        Check.due("one new and one cancelled meeting", x.compact(), 12);
        Check.due("the new one", x.startOf(0, 12), 90);
        Check.due("the cancelled one", x.startOf(0, 3), BAD);
        for (int r = 0; r < 3; r++) {
            Check.due("the calendar of " + r, x.meetings(r), 12);
            Check.due("the weight of " + r, x.acceptedWeight(r) + x.rejectedWeight(r), 0);
        }
    }

    private static void compactFull() {
        new Scene("13 meetings", () -> meetings(13)).refused("compact", x -> x.compact(), FULL);
        new Scene("24 meetings", () -> meetings(24)).refused("compact", x -> x.compact(), FULL);
        Scene.full().refused("compact", x -> x.compact(), FULL);
        CalendarReplicas x = meetings(12);
        Check.due("a meeting", x.create(0, 90, 1, 0, 1, 5), 12);
        Check.due("one in its place", x.create(1, 90, 1, 0, 2, 4), 13);
        Check.tellAll(x);
        Check.due("the lighter one is rejected", x.state(2, 13), REJECTED);
        Check.due("cancel of one of the base", x.cancel(0, 0, 1), 14);
        Check.tellAll(x);
        Check.due("neither the rejected nor the cancelled one counts", x.compact(), 12);
    }

    private static void compactErrorsInTheirOrder() {
        new Scene("13 meetings, one of which is not known to all", () -> {
            CalendarReplicas x = meetings(12);
            x.create(0, 90, 1, 0, 1, 1);
            return x;
        }).refused("compact, NOT_POSSIBLE before FULL", x -> x.compact(), NOT);
        new Scene("24 meetings, one of which is not known to replica 0", () -> {
            CalendarReplicas x = meetings(23);
            x.create(2, 90, 1, 0, 1, 1);
            x.send(2, 1);
            return x;
        }).refused("compact, NOT_POSSIBLE before FULL", x -> x.compact(), NOT);
    }

    private static void compactForgetsRejectedEdits() {
        CalendarReplicas x = Scene.makeBusy();
        Check.tellAll(x);
        Check.due("a rejected meeting", x.state(0, 3), REJECTED);
        Check.due("a rejected move", x.state(2, 5), REJECTED);
        Check.due("two meetings of the base and three of edits", x.compact(), 5);
        int[] numbers = {0, 1, 2, 7, 8};
        for (int r = 0; r < 3; r++) {
            for (int i = 0; i < 5; i++) {
                Check.due("the meeting", x.meetingAt(r, i), numbers[i]);
            }
            Check.due("the move that was accepted", x.startOf(r, 2), 12);
            Check.due("the join that was accepted", x.personsOf(r, 2), 11);
        }
        for (int edit = 2; edit < 9; edit++) {
            Check.due("edit " + edit + " is gone", x.kindOf(edit), BAD);
            Check.due("edit " + edit + " is gone", x.state(0, edit), BAD);
        }
        Check.due("the orders stay", x.clearOrders(), 2);
    }

    private static void compactWithoutMeetings() {
        CalendarReplicas x = new CalendarReplicas();
        x.create(0, 0, 1, 0, 1, 1);
        x.cancel(0, 0, 1);
        Check.tellAll(x);
        Check.due("a meeting that came and went", x.compact(), 0);
        Check.due("no edits", x.edits(), 0);
        Check.due("the next number", x.create(1, 0, 1, 0, 1, 1), 2);
        x.move(1, 2, 5, 1);
        x.sendOne(1, 0, 3);
        Check.due("its create is needed", x.state(0, 3), BLOCKED);
    }

    private static void numbersGoOn() {
        CalendarReplicas x = new CalendarReplicas();
        int next = 0;
        for (int round = 0; round < 10; round++) {
            for (int i = 0; i < 12; i++) {
                int number = i == 0 ? x.create(0, round, 1, 0, 1, 1) : x.move(0, 12 * round, round, 1);
                Check.due("the number", number, next);
                Check.due("editAt", x.editAt(i), next);
                next++;
            }
            Check.due("12 edits", x.create(0, 90, 1, 0, 1, 1), FULL);
            Check.tellAll(x);
            Check.due("compact", x.compact(), round + 1);
            Check.due("editAt(0)", x.editAt(0), BAD);
        }
        Check.due("the last meeting", x.meetingAt(1, 9), 108);
    }
}
