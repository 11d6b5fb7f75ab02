/** The bounds that the section "Description" names: slots, rooms, persons, orders, edits, and what is accepted. */
public final class DescriptionBoundsTest {
    private static final int BAD = CalendarReplicas.BAD_VALUE;
    private static final int FULL = CalendarReplicas.FULL;
    private static final int NOT = CalendarReplicas.NOT_POSSIBLE;
    private static final int UNKNOWN = CalendarReplicas.UNKNOWN;
    private static final int BLOCKED = CalendarReplicas.BLOCKED;
    private static final int REJECTED = CalendarReplicas.REJECTED;
    private static final int ACCEPTED = CalendarReplicas.ACCEPTED;

    public static void main(String[] args) {
        allSlotsAreFrom0To95();
        slotsOfASeries();
        aPeriodWithTheCountOneDoesNothing();
        thePeriodIsAtLeastTheDuration();
        personsAndCapacities();
        closingTimes();
        absences();
        closingTimesOfASeries();
        twoMeetingsInOneRoom();
        twoMeetingsOfOnePerson();
        twoSeries();
        ordersOfMeetingsThatAreThere();
        ordersInACircle();
        ordersUpToTheFourth();
        numbersOfEdits();
        anEditIsKnownFromThenOn();
        theOrderOfTheNumbers();
        itFollowsAllKnownEdits();
        itDoesNotFollowWhatComesLater();
        theCreateIsNeeded();
        theCreateIsNeededByTheTwelfthEdit();
        blockedOrNot();
        theGreatestWeight();
        lowestEditOfEvenSums();
        evenSumsInPairs();
        thePrecedenceOfWeightOverNumbers();
        anEditThatBringsOthersIn();
        anEditThatTurnsAnEvenSum();
        replicasThatKnowTheSame();
        baseStaysValid();
        theLastOfTwentyFourMeetings();
        theLastPromisedCall();
        Check.end();
    }

    private static CalendarReplicas made(String text) {
        CalendarReplicas x = new CalendarReplicas();
        Check.type(x, text);
        Check.due("createFromText of " + text, x.createFromText(0), 0);
        return x;
    }

    private static void text(String text, int want) {
        CalendarReplicas x = new CalendarReplicas();
        Check.type(x, text);
        Check.due("createFromText of " + text, x.createFromText(0), want);
        Check.due("edits after " + text, x.edits(), want == 0 ? 1 : 0);
    }

    // ---- meetings

    private static void allSlotsAreFrom0To95() {
        for (int duration = 1; duration <= 8; duration++) {
            for (int start = 85; start <= 95; start++) {
                CalendarReplicas x = new CalendarReplicas();
                int want = start + duration - 1 <= 95 ? 0 : NOT;
                Check.due("create at " + start + " of " + duration, x.create(0, start, duration, 0, 1, 1), want);
                CalendarReplicas y = new CalendarReplicas();
                y.create(0, 0, duration, 0, 1, 1);
                Check.due("move to " + start + " of " + duration, y.move(0, 0, start, 1), want == 0 ? 1 : NOT);
                CalendarReplicas z = new CalendarReplicas();
                z.create(0, start, 1, 0, 1, 1);
                Check.due("resize at " + start + " to " + duration, z.resize(0, 0, duration, 1), want == 0 ? 1 : NOT);
            }
        }
        for (int count = 1; count <= 4; count++) {
            for (int period = 0; period <= 48; period++) {
                int lastStart = 95 - (count - 1) * period;
                if (count > 1 && period == 0 || lastStart < 0) {
                    continue;
                }
                text(lastStart + "+1 e" + period + "x" + count, 0);
                if (lastStart < 95) {
                    text(lastStart + 1 + "+1 e" + period + "x" + count, NOT);
                }
            }
        }
        text("0+1 e48x3", NOT);
        text("0+1 e47x3", 0);
        text("0+1 e32x4", NOT);
        text("0+1 e31x4", 0);
    }

    /** For each k from 0 to count - 1, the slots start + k * period to start + k * period + duration - 1. */
    private static void slotsOfASeries() {
        int[][] rows = {{10, 2, 5, 3}, {0, 1, 1, 4}, {0, 8, 8, 4}, {40, 3, 20, 2}, {47, 1, 48, 2}, {45, 6, 7, 2},
            {64, 8, 8, 4}, {5, 4, 0, 1}, {3, 8, 27, 4}};
        for (int[] row : rows) {
            boolean[] booked = new boolean[96];
            for (int k = 0; k < row[3]; k++) {
                for (int slot = row[0] + k * row[2]; slot <= row[0] + k * row[2] + row[1] - 1; slot++) {
                    booked[slot] = true;
                }
            }
            String text = row[0] + "+" + row[1] + " r1 p4 e" + row[2] + "x" + row[3];
            CalendarReplicas x = made(text);
            CalendarReplicas y = made(text);
            int slots = 0;
            for (int slot = 0; slot < 96; slot++) {
                boolean room = x.freeStart(0, 1, 1, slot) != slot;
                Check.due(text + ": room at " + slot, room ? 1 : 0, booked[slot] ? 1 : 0);
                boolean person = y.commonStart(0, 16, 1, slot) != 10 * slot;
                Check.due(text + ": person at " + slot, person ? 1 : 0, booked[slot] ? 1 : 0);
                slots += booked[slot] ? 1 : 0;
            }
            Check.due(text + ": busySlots", x.busySlots(0, 4), slots);
        }
    }

    private static void aPeriodWithTheCountOneDoesNothing() {
        CalendarReplicas x = made("90+2 e48x1");
        Check.due("it ends with its first time", x.freeStart(0, 0, 4, 80), 80);
        Check.due("and takes two slots", x.busySlots(0, 0), 2);
        CalendarReplicas y = made("10+8 e0x1");
        Check.due("a period of 0", y.busySlots(0, 0), 8);
        Check.due("resize below and above its period", made("10+8 e5x1").resize(0, 0, 4, 1), 1);
        Check.due("an order sees its last slot", y.addOrder(0, 1), 1);
        Check.due("in the last slot", y.create(0, 17, 1, 1, 2, 1), NOT);
        Check.due("behind the last slot", y.create(0, 18, 1, 1, 2, 1), 1);
    }

    private static void thePeriodIsAtLeastTheDuration() {
        for (int duration = 1; duration <= 8; duration++) {
            for (int count = 1; count <= 4; count++) {
                text("0+" + duration + " e" + duration + "x" + count, 0);
                text("0+" + duration + " e" + (duration - 1) + "x" + count, count == 1 ? 0 : NOT);
                text("0+" + duration + " e0x" + count, count == 1 ? 0 : NOT);
            }
            CalendarReplicas x = made("0+1 e" + duration + "x2");
            Check.due("resize to the period", x.resize(0, 0, duration, 1), 1);
            if (duration < 8) {
                CalendarReplicas y = made("0+1 e" + duration + "x2");
                Check.due("resize over the period", y.resize(0, 0, duration + 1, 1), NOT);
                CalendarReplicas z = made("0+1 e" + duration + "x1");
                Check.due("resize over the period of one time", z.resize(0, 0, duration + 1, 1), 1);
            }
        }
    }

    private static void personsAndCapacities() {
        for (int capacity = 1; capacity <= 6; capacity++) {
            for (int persons = 1; persons <= 6; persons++) {
                CalendarReplicas x = new CalendarReplicas();
                x.setRoom(3, capacity, 0, 0);
                int want = persons <= capacity ? 0 : NOT;
                String what = persons + " persons, a capacity of " + capacity;
                Check.due("create of " + what, x.create(0, 0, 1, 3, (1 << persons) - 1, 1), want);
                CalendarReplicas y = new CalendarReplicas();
                y.setRoom(3, capacity, 0, 0);
                y.create(0, 0, 1, 0, (1 << persons) - 1, 1);
                Check.due("changeRoom of " + what, y.changeRoom(0, 0, 3, 1), want == 0 ? 1 : NOT);
            }
            CalendarReplicas x = new CalendarReplicas();
            x.setRoom(3, capacity, 0, 0);
            x.create(0, 0, 1, 3, 1, 1);
            for (int person = 1; person < 6; person++) {
                Check.due("join of person " + person, x.join(0, 0, person, 1), person < capacity ? person : NOT);
            }
            for (int person = capacity - 1; person > 0; person--) {
                Check.isTrue("leave of person " + person, x.leave(0, 0, person, 1) > 0);
            }
            Check.due("leave of the last one", x.leave(0, 0, 0, 1), NOT);
        }
    }

    private static boolean meet(int from, int to, int otherFrom, int otherTo) {
        for (int slot = from; slot < to; slot++) {
            if (slot >= otherFrom && slot < otherTo) {
                return true;
            }
        }
        return false;
    }

    private static final int[][] RANGES = {{0, 0}, {0, 1}, {0, 96}, {5, 5}, {10, 20}, {47, 48}, {48, 49}, {40, 60},
        {95, 96}, {96, 96}, {94, 95}};

    private static void closingTimes() {
        for (int[] range : RANGES) {
            for (int duration = 1; duration <= 8; duration += 7) {
                for (int start = 0; start + duration <= 96; start++) {
                    CalendarReplicas x = new CalendarReplicas();
                    x.setRoom(1, 6, range[0], range[1]);
                    boolean closed = meet(start, start + duration, range[0], range[1]);
                    String what = start + "+" + duration + ", closed from " + range[0] + " to " + range[1];
                    Check.due(what, x.create(0, start, duration, 1, 1, 1), closed ? NOT : 0);
                    Check.due(what + ", in another room", x.create(1, start, duration, 0, 1, 1), closed ? 0 : 1);
                }
            }
        }
    }

    private static void absences() {
        for (int[] range : RANGES) {
            for (int duration = 1; duration <= 8; duration += 7) {
                for (int start = 0; start + duration <= 96; start++) {
                    CalendarReplicas x = new CalendarReplicas();
                    x.setAbsence(5, range[0], range[1]);
                    boolean absent = meet(start, start + duration, range[0], range[1]);
                    String what = start + "+" + duration + ", absent from " + range[0] + " to " + range[1];
                    Check.due(what, x.create(0, start, duration, 1, 33, 1), absent ? NOT : 0);
                    Check.due(what + ", without the person", x.create(1, start, duration, 1, 31, 1), absent ? 0 : 1);
                }
            }
        }
    }

    private static void closingTimesOfASeries() {
        for (int from = 0; from < 60; from++) {
            CalendarReplicas x = new CalendarReplicas();
            x.setRoom(0, 6, from, from + 1);
            Check.type(x, "10+2 p0 e20x3");
            boolean in = from == 10 || from == 11 || from == 30 || from == 31 || from == 50 || from == 51;
            Check.due("a room that is closed at " + from, x.createFromText(0), in ? NOT : 0);
            CalendarReplicas y = new CalendarReplicas();
            y.setAbsence(0, from, from + 1);
            Check.type(y, "10+2 p0 e20x3");
            Check.due("a person who is absent at " + from, y.createFromText(0), in ? NOT : 0);
        }
    }

    private static void twoMeetingsInOneRoom() {
        for (int duration = 1; duration <= 8; duration += 7) {
            for (int start = 35; start <= 65; start++) {
                CalendarReplicas x = new CalendarReplicas();
                x.create(0, 46, 4, 2, 1, 1);
                boolean both = meet(start, start + duration, 46, 50);
                String what = "46+4 and " + start + "+" + duration;
                Check.due(what + " in one room", x.create(0, start, duration, 2, 2, 1), both ? NOT : 1);
                CalendarReplicas y = new CalendarReplicas();
                y.create(0, 46, 4, 2, 1, 1);
                Check.due(what + " in two rooms", y.create(0, start, duration, 3, 62, 1), 1);
            }
        }
    }

    private static void twoMeetingsOfOnePerson() {
        for (int person = 0; person < 6; person++) {
            for (int start = 40; start <= 55; start++) {
                CalendarReplicas x = new CalendarReplicas();
                x.create(0, 46, 4, 0, 63, 1);
                boolean both = meet(start, start + 3, 46, 50);
                Check.due("person " + person + " at 46+4 and " + start + "+3",
                        x.create(0, start, 3, 1, 1 << person, 1), both ? NOT : 1);
            }
            CalendarReplicas y = new CalendarReplicas();
            y.create(0, 46, 4, 0, 63 & ~(1 << person), 1);
            Check.due("the only one who is not in it", y.create(0, 46, 4, 1, 1 << person, 1), 1);
        }
    }

    private static void twoSeries() {
        for (int start = 0; start <= 40; start++) {
            CalendarReplicas x = made("10+2 e12x3");
            Check.type(x, start + "+3 p1 e9x3");
            boolean both = false;
            for (int k = 0; k < 3; k++) {
                for (int j = 0; j < 3; j++) {
                    both |= meet(10 + 12 * k, 12 + 12 * k, start + 9 * j, start + 9 * j + 3);
                }
            }
            Check.due("10+2 e12x3 and " + start + "+3 e9x3", x.createFromText(0), both ? NOT : 1);
        }
    }

    // ---- orders

    private static void ordersOfMeetingsThatAreThere() {
        CalendarReplicas x = new CalendarReplicas();
        x.addOrder(1, 0);
        Check.due("the second one alone", x.create(0, 10, 2, 0, 1, 1), 0);
        Check.due("the first one behind it", x.create(1, 20, 2, 0, 1, 1), 1);
        x.send(0, 1);
        Check.due("both: the higher one is rejected", x.state(1, 1), REJECTED);
        Check.due("both: the lower one is accepted", x.state(1, 0), ACCEPTED);
        CalendarReplicas y = new CalendarReplicas();
        y.addOrder(1, 0);
        y.create(0, 10, 2, 0, 1, 1);
        y.cancel(0, 0, 1);
        Check.due("one that was cancelled does not count", y.create(0, 20, 2, 0, 1, 1), 2);
        Scene scene = new Scene("an order of 0 and 2", () -> {
            CalendarReplicas v = new CalendarReplicas();
            v.addOrder(0, 2);
            v.create(0, 10, 2, 0, 1, 1);
            v.move(0, 0, 12, 1);
            return v;
        });
        for (int start = 10; start < 18; start++) {
            int want = start < 14 ? NOT : 2;
            int at = start;
            scene.answers("create at " + at, v -> v.create(0, at, 1, 1, 2, 1), want);
        }
    }

    private static void ordersInACircle() {
        CalendarReplicas x = new CalendarReplicas();
        Check.due("0 before 1", x.addOrder(0, 1), 1);
        Check.due("1 before 2", x.addOrder(1, 2), 2);
        Check.due("2 before 0", x.addOrder(2, 0), 3);
        Check.due("0 before 1 again", x.addOrder(0, 1), 4);
        Check.due("create 0", x.create(0, 10, 1, 0, 1, 1), 0);
        Check.due("create 1", x.create(0, 11, 1, 0, 1, 1), 1);
        for (int start = 0; start < 96; start++) {
            Check.due("create 2 at " + start, x.create(0, start, 1, 3, 32, 9), NOT);
        }
    }

    /** Each of four orders holds, the first and the last one too, and one that is refused for FULL does not. */
    private static void ordersUpToTheFourth() {
        for (int second = 1; second <= 5; second++) {
            CalendarReplicas x = new CalendarReplicas();
            for (int i = 1; i <= 5; i++) {
                Check.due("order " + i, x.addOrder(0, i), i <= 4 ? i : FULL);
            }
            x.create(0, 50, 1, 0, 1, 1);
            for (int i = 1; i < second; i++) {
                x.create(0, 60 + i, 1, 0, 1, 1);
            }
            Check.due("against order " + second, x.create(0, 40, 1, 0, 1, 1), second <= 4 ? NOT : second);
        }
    }

    // ---- edits

    private static void numbersOfEdits() {
        CalendarReplicas x = new CalendarReplicas();
        Check.due("a refused edit", x.create(0, 95, 2, 0, 1, 1), NOT);
        Check.due("a wrong edit", x.create(0, 95, 0, 0, 1, 1), BAD);
        Check.due("replica 2", x.create(2, 0, 1, 0, 1, 1), 0);
        Check.due("replica 0", x.create(0, 1, 1, 0, 1, 1), 1);
        Check.due("replica 2", x.move(2, 0, 2, 1), 2);
        Check.due("a refused edit", x.move(2, 0, 96, 1), BAD);
        Check.due("replica 1", x.create(1, 3, 1, 0, 1, 1), 3);
        for (int i = 4; i < 12; i++) {
            Check.due("replica " + i % 3, x.create(i % 3, 10 + i, 1, 0, 1, 1), i);
        }
        Check.due("the 13th edit", x.create(0, 50, 1, 0, 1, 1), FULL);
    }

    private static void anEditIsKnownFromThenOn() {
        for (int replica = 0; replica < 3; replica++) {
            CalendarReplicas x = new CalendarReplicas();
            x.create(replica, 0, 1, 0, 1, 1);
            for (int other = 0; other < 3; other++) {
                Check.due("state", x.state(other, 0), other == replica ? ACCEPTED : UNKNOWN);
            }
        }
    }

    /** The result is formed in the order of the numbers, not in the order in which they came. */
    private static void theOrderOfTheNumbers() {
        CalendarReplicas x = new CalendarReplicas();
        x.create(0, 10, 1, 0, 1, 1);
        x.move(0, 0, 20, 1);
        x.move(0, 0, 30, 1);
        x.join(0, 0, 3, 1);
        x.leave(0, 0, 3, 1);
        x.changeRoom(0, 0, 1, 1);
        x.changeRoom(0, 0, 2, 1);
        x.resize(0, 0, 4, 1);
        x.resize(0, 0, 3, 1);
        for (int edit = 8; edit >= 0; edit--) {
            x.sendOne(0, 1, edit);
        }
        Check.due("startOf", x.startOf(1, 0), 30);
        Check.due("personsOf", x.personsOf(1, 0), 1);
        Check.due("roomOf", x.roomOf(1, 0), 2);
        Check.due("durationOf", x.durationOf(1, 0), 3);
        x.sendOne(0, 2, 0);
        x.sendOne(0, 2, 1);
        x.sendOne(0, 2, 3);
        Check.due("startOf with the first move alone", x.startOf(2, 0), 20);
        Check.due("personsOf with the join alone", x.personsOf(2, 0), 9);
    }

    private static void itFollowsAllKnownEdits() {
        CalendarReplicas x = new CalendarReplicas();
        x.create(0, 10, 1, 0, 1, 1);
        x.send(0, 1);
        x.send(0, 2);
        x.move(0, 0, 20, 1);
        x.move(1, 0, 30, 2);
        x.sendOne(0, 2, 1);
        x.sendOne(1, 2, 2);
        Check.due("the lighter move is rejected", x.state(2, 1), REJECTED);
        Check.due("the next move", x.move(2, 0, 40, 1), 3);
        Check.due("it follows the accepted one", x.clash(2, 3), 0);
        Check.due("it follows the rejected one", x.clash(1, 3), 0);
        CalendarReplicas y = new CalendarReplicas();
        y.create(0, 10, 1, 0, 1, 1);
        y.move(0, 0, 20, 1);
        y.sendOne(0, 2, 1);
        Check.due("the move is blocked", y.state(2, 1), BLOCKED);
        Check.due("an edit of another meeting", y.create(2, 50, 1, 1, 2, 1), 2);
        y.sendOne(0, 2, 0);
        Check.due("a move when it is not blocked", y.move(2, 0, 30, 1), 3);
        Check.due("it follows the move that was blocked", y.clash(1, 3), 0);
    }

    private static void itDoesNotFollowWhatComesLater() {
        CalendarReplicas x = new CalendarReplicas();
        x.create(0, 10, 1, 0, 1, 1);
        x.send(0, 1);
        x.move(0, 0, 20, 1);
        x.move(1, 0, 30, 1);
        Check.due("before they exchange", x.clash(1, 2), 1);
        x.send(0, 1);
        x.send(1, 0);
        Check.due("they clash still", x.clash(1, 2), 1);
        Check.due("a move that follows both", x.move(1, 0, 40, 1), 3);
        Check.due("with the first one", x.clash(1, 3), 0);
        Check.due("with the second one", x.clash(2, 3), 0);
        Check.due("its start", x.startOf(1, 0), 40);
    }

    private static void theCreateIsNeeded() {
        CalendarReplicas x = new CalendarReplicas();
        x.create(0, 10, 1, 0, 1, 1);
        for (int person = 1; person < 5; person++) {
            x.join(0, 0, person, 9);
        }
        x.create(1, 10, 1, 0, 32, 9);
        x.create(1, 10, 1, 1, 1, 9);
        x.create(1, 10, 1, 2, 2, 9);
        x.create(1, 10, 1, 3, 4, 9);
        x.send(0, 1);
        Check.due("37 against 36", x.acceptedWeight(1), 37);
        x.create(0, 50, 1, 0, 1, 1);
        x.create(2, 10, 1, 3, 8, 2);
        x.send(2, 1);
        Check.due("it does not fit beside the joins", x.state(1, 10), REJECTED);
        Check.due("nor beside the others", x.acceptedWeight(1), 37);
    }

    /** A join that is the twelfth edit would weigh more than its rival, were it not for the create that it needs. */
    private static void theCreateIsNeededByTheTwelfthEdit() {
        CalendarReplicas x = new CalendarReplicas();
        x.create(0, 10, 1, 0, 1, 1);
        for (int i = 1; i < 10; i++) {
            x.create(2, 20 + i, 1, 3, 32, 1);
        }
        Check.due("a heavy rival of the create", x.create(1, 10, 1, 0, 2, 9), 10);
        Check.due("the twelfth edit", x.join(0, 0, 3, 5), 11);
        x.send(0, 1);
        Check.due("the create", x.state(1, 0), REJECTED);
        Check.due("the rival", x.state(1, 10), ACCEPTED);
        Check.due("the twelfth edit cannot be without its create", x.state(1, 11), REJECTED);
        Check.due("acceptedWeight", x.acceptedWeight(1), 9);
        Check.due("rejectedWeight", x.rejectedWeight(1), 6);
    }

    private static void blockedOrNot() {
        CalendarReplicas x = new CalendarReplicas();
        x.create(0, 10, 1, 0, 1, 1);
        x.move(0, 0, 20, 1);
        x.cancel(0, 0, 1);
        x.sendOne(0, 1, 1);
        x.sendOne(0, 1, 2);
        Check.due("a move without its create", x.state(1, 1), BLOCKED);
        Check.due("a cancel without its create", x.state(1, 2), BLOCKED);
        Check.due("the create is not known", x.state(1, 0), UNKNOWN);
        Check.due("no meetings", x.meetings(1), 0);
        x.sendOne(0, 1, 0);
        Check.due("the move", x.state(1, 1), ACCEPTED);
        Check.due("the cancel", x.state(1, 2), ACCEPTED);
        CalendarReplicas y = new CalendarReplicas();
        y.create(0, 10, 1, 0, 1, 1);
        y.create(1, 10, 1, 0, 2, 9);
        y.join(0, 0, 3, 1);
        y.send(0, 1);
        Check.due("a join whose create is known but rejected is not blocked", y.state(1, 2), REJECTED);
    }

    private static void states(CalendarReplicas x, int replica, String accepted) {
        for (int i = 0; i < accepted.length(); i++) {
            int want = accepted.charAt(i) == '1' ? ACCEPTED : REJECTED;
            Check.due("state of " + i + " in " + accepted, x.state(replica, i), want);
        }
    }

    /** Meetings in room 0, with person 0: start, duration and weight of each; all known to replica 2. */
    private static CalendarReplicas rivals(int... rows) {
        CalendarReplicas x = new CalendarReplicas();
        for (int i = 0; i < rows.length; i += 3) {
            int edit = x.create(0, rows[i], rows[i + 1], 0, 1, rows[i + 2]);
            if (edit < 0) {
                edit = x.create(1, rows[i], rows[i + 1], 0, 1, rows[i + 2]);
            }
            Check.due("a rival", edit, i / 3);
        }
        x.send(0, 2);
        x.send(1, 2);
        return x;
    }

    private static void theGreatestWeight() {
        states(rivals(10, 2, 1, 11, 2, 2), 2, "01");
        states(rivals(10, 2, 2, 11, 2, 1), 2, "10");
        states(rivals(10, 2, 5, 11, 2, 9, 12, 2, 5), 2, "101");
        states(rivals(10, 2, 4, 11, 2, 9, 12, 2, 4), 2, "010");
        states(rivals(10, 4, 9, 10, 1, 3, 11, 1, 3, 12, 1, 4), 2, "0111");
        states(rivals(10, 4, 9, 10, 1, 3, 11, 1, 3, 12, 1, 2), 2, "1000");
    }

    private static void lowestEditOfEvenSums() {
        states(rivals(10, 2, 3, 11, 2, 3), 2, "10");
        states(rivals(10, 4, 9, 10, 1, 3, 11, 1, 3, 12, 1, 3), 2, "1000");
        states(rivals(10, 1, 3, 11, 1, 3, 10, 4, 9, 12, 1, 3), 2, "1101");
        states(rivals(10, 1, 3, 10, 4, 9, 11, 1, 3, 12, 1, 3), 2, "1011");
        states(rivals(10, 1, 3, 10, 2, 4, 11, 1, 1), 2, "101");
        states(rivals(50, 1, 1, 10, 2, 4, 10, 1, 3, 11, 1, 1), 2, "1100");
    }

    /** 0 is in all of them; then 1 against 2, and then 3 against 4, is what decides. */
    private static void evenSumsInPairs() {
        states(rivals(80, 1, 1, 10, 2, 4, 11, 2, 4, 20, 2, 5, 21, 2, 5), 2, "11010");
        states(rivals(80, 1, 1, 10, 3, 4, 12, 2, 2, 11, 1, 2, 20, 2, 5, 21, 2, 5), 2, "110010");
        states(rivals(10, 2, 2, 11, 2, 2, 12, 2, 2, 13, 2, 2), 2, "1010");
        states(rivals(11, 2, 2, 10, 2, 2, 13, 2, 2, 12, 2, 2), 2, "1010");
        states(rivals(11, 2, 2, 10, 2, 2, 12, 2, 2, 13, 2, 2), 2, "1001");
    }

    /** A set of a greater sum wins though it has none of the lower edits. */
    private static void thePrecedenceOfWeightOverNumbers() {
        states(rivals(10, 1, 1, 11, 1, 1, 12, 1, 1, 13, 1, 1, 10, 8, 5), 2, "00001");
        states(rivals(10, 1, 1, 11, 1, 1, 12, 1, 1, 13, 1, 1, 10, 8, 4), 2, "11110");
    }

    /** The set with the new edit must be the old one and the new edit: one that lets a rejected one in is refused. */
    private static void anEditThatBringsOthersIn() {
        CalendarReplicas x = rivals(10, 2, 5, 11, 2, 4);
        Check.due("a move away", x.move(2, 0, 20, 1), NOT);
        Check.due("a move that leaves it in the way", x.move(2, 0, 12, 1), 2);
        Check.due("a resize, with which both would fit without the move", x.resize(2, 0, 1, 1), NOT);
        Check.due("a cancel", x.cancel(2, 0, 1), NOT);
        Check.due("a heavy cancel", x.cancel(2, 0, 9), NOT);
        Check.due("a change of the room that does not help, as they share a person", x.changeRoom(2, 0, 1, 1), 3);
        Check.due("a replica that does not know the rejected one", x.cancel(0, 0, 1), 4);
        CalendarReplicas y = new CalendarReplicas();
        y.create(0, 10, 2, 0, 1, 5);
        y.send(0, 1);
        y.move(0, 0, 20, 1);
        y.cancel(1, 0, 1);
        y.send(1, 0);
        Check.due("the cancel is rejected", y.state(0, 2), REJECTED);
        Check.due("a move that does not help it", y.move(0, 0, 30, 1), 3);
    }

    /**
     * 3 is in the way of 2. Without it {0, 2, 3} would weigh as much as {1, 3}, and have the lowest edit: so the move
     * would weigh as much as is due, but the set would not be the one before and the move.
     */
    private static void anEditThatTurnsAnEvenSum() {
        CalendarReplicas x = new CalendarReplicas();
        x.create(0, 10, 2, 0, 1, 3);
        x.create(1, 11, 8, 0, 2, 4);
        x.create(0, 18, 1, 0, 1, 1);
        x.create(1, 18, 1, 1, 1, 9);
        x.send(0, 1);
        states(x, 1, "0101");
        Check.due("a move away", x.move(1, 3, 50, 1), NOT);
        Check.due("a heavy move away", x.move(1, 3, 50, 9), NOT);
        Check.due("a person more", x.join(1, 3, 5, 1), 4);
        states(x, 1, "01011");
    }

    private static void replicasThatKnowTheSame() {
        CalendarReplicas x = Scene.makeBusy();
        Check.tellAll(x);
        for (int replica = 1; replica < 3; replica++) {
            Check.due("meetings", x.meetings(replica), x.meetings(0));
            Check.due("acceptedWeight", x.acceptedWeight(replica), x.acceptedWeight(0));
            for (int i = 0; i < x.meetings(0); i++) {
                int meeting = x.meetingAt(0, i);
                Check.due("meetingAt", x.meetingAt(replica, i), meeting);
                Check.due("startOf", x.startOf(replica, meeting), x.startOf(0, meeting));
                Check.due("personsOf", x.personsOf(replica, meeting), x.personsOf(0, meeting));
            }
            for (int i = 0; i < x.edits(); i++) {
                Check.due("state", x.state(replica, x.editAt(i)), x.state(0, x.editAt(i)));
            }
        }
    }

    /** No order that the base does not keep, so that a replica without edits has the base and nothing is wrong with it. */
    private static void baseStaysValid() {
        CalendarReplicas x = new CalendarReplicas();
        x.create(0, 10, 1, 0, 1, 1);
        x.create(0, 20, 1, 0, 1, 1);
        x.send(0, 1);
        x.send(0, 2);
        x.addOrder(1, 0);
        Check.due("one of them goes", x.compact(), 1);
        Check.due("the lower one stays", x.meetingAt(2, 0), 0);
        Check.due("the order still holds for the number", x.create(0, 20, 1, 0, 1, 1), 2);
        Check.due("an order for it and the base", x.addOrder(2, 0), 2);
        Check.due("it is rejected", x.state(0, 2), REJECTED);
        Check.due("the base is not", x.meetings(0), 1);
    }

    /** 12 meetings in the base and 11 of edits: the rules hold for the last one as for the others. */
    private static void theLastOfTwentyFourMeetings() {
        Scene scene = new Scene("23 meetings", () -> {
            CalendarReplicas x = new CalendarReplicas();
            for (int i = 0; i < 12; i++) {
                x.create(0, 2 * i, 1, i % 4, 1 << i % 6, 1);
            }
            x.send(0, 1);
            x.send(0, 2);
            x.compact();
            for (int i = 12; i < 23; i++) {
                x.create(0, 2 * i, 1, i % 4, 1 << i % 6, 1);
            }
            return x;
        });
        scene.answers("meetings", x -> x.meetings(0), 23);
        scene.refused("create in the room of one of the base", x -> x.create(0, 0, 1, 0, 2, 9), NOT);
        scene.refused("create in the room of one of an edit", x -> x.create(0, 44, 1, 2, 1, 9), NOT);
        scene.refused("create with a person of one of the base", x -> x.create(0, 0, 1, 3, 1, 9), NOT);
        scene.refused("create over the end", x -> x.create(0, 95, 2, 0, 1, 9), NOT);
        scene.answers("create where there is nothing", x -> x.create(0, 46, 1, 2, 32, 9), 23);
    }

    /** An object is promised to answer 512 calls; numbers, bases and edits go on up to the last one. */
    private static void theLastPromisedCall() {
        CalendarReplicas x = new CalendarReplicas();
        Check.due("call 1", x.create(0, 0, 1, 0, 1, 1), 0);
        Check.due("call 2", x.send(0, 1), 1);
        Check.due("call 3", x.send(0, 2), 1);
        Check.due("call 4", x.compact(), 1);
        for (int round = 1; round <= 127; round++) {
            String call = "call 4 * " + round + " + ";
            Check.due(call + 1, x.move(0, 0, round % 96, 1), round);
            Check.due(call + 2, x.send(0, 1), 1);
            Check.due(call + 3, x.send(1, 2), 1);
            Check.due(call + 4, round < 127 ? x.compact() : x.startOf(2, 0), round < 127 ? 1 : 127 % 96);
        }
    }
}
