/** Promises 36 to 41: what is refused, what there is not, and the first and last answers that there can be. */
public final class ExplanationsBoundsTest {
    private static final int BAD = CalendarReplicas.BAD_VALUE;
    private static final int NOT = CalendarReplicas.NOT_POSSIBLE;
    private static final int NONE = CalendarReplicas.NONE;
    private static final int REJECTED = CalendarReplicas.REJECTED;
    private static final int MAX = Integer.MAX_VALUE;
    private static final int MIN = Integer.MIN_VALUE;

    private interface Asked {
        int of(CalendarReplicas x, int replica, int edit);
    }

    private record Question(String name, Asked asked) {
    }

    private static final Question[] QUESTIONS = {
        new Question("obstacle", (x, r, e) -> x.obstacle(r, e)), new Question("cost", (x, r, e) -> x.cost(r, e)),
        new Question("alternative", (x, r, e) -> x.alternative(r, e))};

    public static void main(String[] args) {
        for (Question question : QUESTIONS) {
            refused(question);
            notPossible(question);
            changesNothing(question);
        }
        obstacleIsTheLowest();
        obstacleIsOneAlone();
        obstacleByClash();
        obstacleOfWhatIsNotNeeded();
        obstacleNone();
        costOfAccepted();
        costOfRejected();
        costOfAnEvenSum();
        costOfTheDearest();
        costNone();
        alternativeOnlyOfCreateAndMove();
        alternativeErrorsInTheirOrder();
        alternativeNearest();
        alternativeAtTheEnds();
        alternativeNone();
        alternativeOfASeries();
        freeStartRefused();
        freeStartAllowed();
        freeStartAtTheEnd();
        freeStartInAFullRoom();
        freeStartBetweenMeetings();
        freeStartAndClosingTime();
        commonStartRefused();
        commonStartAllowed();
        commonStartAtTheEnd();
        commonStartAndPersons();
        commonStartAndRooms();
        commonStartNone();
        busySlotsRefused();
        busySlotsOfNoneAndAll();
        busySlotsOfAllTimes();
        Check.end();
    }

    // ---- promises 36 to 38, what they have in common

    private static void refused(Question question) {
        Scene scene = Scene.busy();
        for (int replica : new int[] {-1, 3, MAX, MIN}) {
            scene.refused(question.name + "(" + replica + ", 3)", x -> question.asked.of(x, replica, 3), BAD);
            scene.refused(question.name + "(" + replica + ", 8)", x -> question.asked.of(x, replica, 8), BAD);
        }
        for (int edit : new int[] {-1, 0, 1, 9, 12, MAX, MIN}) {
            scene.refused(question.name + "(1, " + edit + ")", x -> question.asked.of(x, 1, edit), BAD);
        }
        Scene.blank().refused(question.name + "(0, 0)", x -> question.asked.of(x, 0, 0), BAD);
    }

    private static void notPossible(Question question) {
        Scene scene = Scene.busy();
        scene.refused(question.name + " of an unknown edit", x -> question.asked.of(x, 1, 8), NOT);
        scene.refused(question.name + " of an unknown edit", x -> question.asked.of(x, 0, 4), NOT);
        scene.refused(question.name + " of a blocked edit", x -> question.asked.of(x, 2, 4), NOT);
        if (!question.name.equals("cost")) {
            for (int edit : new int[] {2, 4, 6, 7}) {
                scene.refused(question.name + " of an accepted edit", x -> question.asked.of(x, 1, edit), NOT);
            }
        }
    }

    private static void changesNothing(Question question) {
        Scene scene = Scene.busy();
        for (int edit : new int[] {3, 5}) {
            int want = question.asked.of(Scene.makeBusy(), 1, edit);
            Check.isTrue(question.name + " of a rejected edit is no error", want != BAD && want != NOT);
            scene.refused(question.name + " of a rejected edit", x -> question.asked.of(x, 1, edit), want);
        }
    }

    private static void tell(CalendarReplicas x, int author) {
        x.send(author, (author + 1) % 3);
        x.send(author, (author + 2) % 3);
    }

    // ---- promise 36

    /** Where it would do to leave out any one of several, it is the lowest of them. */
    private static void obstacleIsTheLowest() {
        CalendarReplicas x = new CalendarReplicas();
        x.create(0, 50, 1, 3, 32, 1);
        x.create(0, 10, 2, 0, 1, 5);
        x.join(0, 1, 1, 5);
        x.create(1, 10, 2, 1, 2, 1);
        x.send(0, 1);
        Check.due("rejected", x.state(1, 3), REJECTED);
        Check.due("without the meeting there would be its join", x.obstacle(1, 3), 2);
        CalendarReplicas y = new CalendarReplicas();
        y.create(0, 10, 2, 0, 1, 5);
        y.move(0, 0, 20, 5);
        y.changeRoom(0, 0, 1, 5);
        y.create(1, 20, 2, 1, 2, 1);
        y.send(0, 1);
        Check.due("the move and the room are in the way, each of them", y.obstacle(1, 3), 1);
        CalendarReplicas z = new CalendarReplicas();
        z.create(0, 10, 2, 0, 1, 5);
        z.changeRoom(0, 0, 1, 5);
        z.move(0, 0, 20, 5);
        z.create(1, 20, 2, 1, 2, 1);
        z.send(0, 1);
        Check.due("the room and the move are in the way, each of them", z.obstacle(1, 3), 1);
    }

    private static void obstacleIsOneAlone() {
        CalendarReplicas x = new CalendarReplicas();
        x.create(0, 10, 1, 0, 1, 5);
        x.create(0, 12, 1, 0, 1, 5);
        x.create(1, 10, 2, 0, 2, 1);
        x.create(1, 12, 1, 0, 2, 1);
        x.create(2, 10, 3, 0, 4, 1);
        x.send(0, 1);
        x.send(2, 1);
        Check.due("the first one", x.obstacle(1, 2), 0);
        Check.due("the second one", x.obstacle(1, 3), 1);
        Check.due("both", x.obstacle(1, 4), NONE);
    }

    private static void obstacleByClash() {
        CalendarReplicas x = new CalendarReplicas();
        x.create(0, 10, 1, 0, 1, 5);
        tell(x, 0);
        x.move(0, 0, 20, 4);
        x.move(1, 0, 30, 3);
        x.cancel(2, 0, 2);
        x.send(1, 0);
        x.send(2, 0);
        Check.due("the move with which it clashes", x.obstacle(0, 2), 1);
        Check.due("the cancel clashes with one accepted move", x.obstacle(0, 3), 1);
        x.join(0, 0, 5, 1);
        Check.due("the cancel clashes with the move and the join", x.obstacle(0, 3), NONE);
        Check.due("the move does not clash with the join", x.obstacle(0, 2), 1);
    }

    /** It cannot be the CREATE on which the others or the edit itself rest. */
    private static void obstacleOfWhatIsNotNeeded() {
        CalendarReplicas x = new CalendarReplicas();
        x.create(0, 10, 2, 0, 1, 1);
        x.join(0, 0, 3, 5);
        x.create(1, 10, 2, 0, 2, 4);
        x.send(0, 1);
        Check.due("the create has a join", x.obstacle(1, 2), NONE);
        CalendarReplicas y = new CalendarReplicas();
        y.create(0, 10, 2, 0, 1, 5);
        y.create(1, 10, 2, 0, 2, 4);
        y.send(0, 1);
        Check.due("the create alone", y.obstacle(1, 1), 0);
    }

    private static void obstacleNone() {
        CalendarReplicas x = new CalendarReplicas();
        x.create(0, 10, 2, 0, 1, 1);
        x.addOrder(1, 2);
        x.create(1, 10, 2, 0, 2, 1);
        x.send(0, 1);
        Check.due("there is one accepted edit", x.obstacle(1, 1), 0);
        CalendarReplicas y = new CalendarReplicas();
        y.create(0, 0, 2, 0, 1, 1);
        tell(y, 0);
        y.compact();
        y.create(0, 10, 2, 0, 1, 1);
        y.addOrder(1, 0);
        Check.due("nothing is accepted at all", y.acceptedWeight(0), 0);
        Check.due("and the edit is rejected", y.state(0, 1), REJECTED);
        Check.due("no accepted edit can be left out", y.obstacle(0, 1), NONE);
    }

    // ---- promise 37

    private static void costOfAccepted() {
        CalendarReplicas x = Scene.makeBusy();
        for (int edit : new int[] {2, 4, 6, 7}) {
            Check.due("cost of an accepted edit", x.cost(1, edit), 0);
        }
        Check.due("where it is the only one", x.cost(2, 8), 0);
    }

    private static void costOfRejected() {
        for (int weight = 1; weight <= 9; weight++) {
            CalendarReplicas x = new CalendarReplicas();
            x.create(0, 10, 2, 0, 1, 9);
            x.create(1, 11, 2, 0, 2, weight);
            x.send(0, 1);
            Check.due("cost of the weight " + weight, x.cost(1, 1), 9 - weight);
            Check.due("its obstacle", x.obstacle(1, 1), 0);
        }
    }

    /** The cost 0 of a rejected edit is no error, and it is not NONE. */
    private static void costOfAnEvenSum() {
        CalendarReplicas x = new CalendarReplicas();
        x.create(0, 10, 2, 0, 1, 4);
        x.create(1, 10, 2, 0, 2, 4);
        x.send(0, 1);
        Check.due("the higher one is rejected", x.state(1, 1), REJECTED);
        Check.due("its cost", x.cost(1, 1), 0);
    }

    private static void costOfTheDearest() {
        CalendarReplicas x = new CalendarReplicas();
        for (int i = 0; i < 8; i++) {
            x.create(0, 10 + i, 1, 0, 1, 9);
        }
        x.create(1, 10, 8, 0, 2, 1);
        x.create(1, 30, 1, 0, 2, 9);
        x.send(0, 1);
        Check.due("eight of the weight 9 against one of 1", x.cost(1, 8), 71);
        Check.due("no single one is in the way", x.obstacle(1, 8), NONE);
        CalendarReplicas y = new CalendarReplicas();
        y.create(0, 10, 1, 0, 1, 1);
        for (int i = 0; i < 9; i++) {
            y.move(0, 0, 20 + i, 9);
        }
        y.create(1, 28, 1, 0, 2, 1);
        y.send(0, 1);
        Check.due("without the last move only", y.cost(1, 10), 8);
        Check.due("the last move is in the way", y.obstacle(1, 10), 9);
        CalendarReplicas z = new CalendarReplicas();
        z.create(0, 10, 2, 0, 1, 5);
        z.create(1, 10, 2, 0, 2, 3);
        z.join(1, 1, 3, 1);
        z.create(2, 11, 1, 0, 4, 2);
        z.send(1, 0);
        z.send(2, 0);
        Check.due("of a join, with its create", z.cost(0, 2), 1);
        Check.due("of the create, with its join", z.cost(0, 1), 1);
        Check.due("of the third one", z.cost(0, 3), 3);
    }

    private static void costNone() {
        CalendarReplicas x = new CalendarReplicas();
        x.create(0, 10, 2, 0, 1, 1);
        x.create(0, 20, 2, 0, 1, 1);
        tell(x, 0);
        x.compact();
        x.create(0, 5, 2, 0, 1, 1);
        x.move(0, 2, 6, 1);
        x.addOrder(0, 2);
        Check.due("a create behind the order of the base", x.cost(0, 2), NONE);
        Check.due("a move of it", x.cost(0, 3), NONE);
        Check.due("its alternative", x.alternative(0, 2), 12);
        x.clearOrders();
        Check.due("without the order", x.cost(0, 2), 0);
        CalendarReplicas y = new CalendarReplicas();
        y.create(0, 5, 2, 0, 1, 1);
        y.move(0, 0, 8, 1);
        y.sendOne(0, 1, 1);
        Check.due("NOT_POSSIBLE of a blocked edit, which no set can contain", y.cost(1, 1), NOT);
    }

    // ---- promise 38

    private static void alternativeOnlyOfCreateAndMove() {
        for (int kind = CalendarReplicas.MOVE; kind <= CalendarReplicas.CANCEL; kind++) {
            CalendarReplicas x = new CalendarReplicas();
            x.create(0, 10, 1, 0, 3, 1);
            x.send(0, 1);
            x.cancel(0, 0, 9);
            switch (kind) {
                case CalendarReplicas.MOVE -> x.move(1, 0, 20, 1);
                case CalendarReplicas.ROOM -> x.changeRoom(1, 0, 1, 1);
                case CalendarReplicas.DURATION -> x.resize(1, 0, 2, 1);
                case CalendarReplicas.JOIN -> x.join(1, 0, 5, 1);
                case CalendarReplicas.LEAVE -> x.leave(1, 0, 0, 1);
                default -> x.cancel(1, 0, 1);
            }
            x.send(0, 1);
            Check.due("its kind", x.kindOf(2), kind);
            Check.due("it is rejected", x.state(1, 2), REJECTED);
            Check.due("alternative of the kind " + kind, x.alternative(1, 2), kind == CalendarReplicas.MOVE ? NONE : NOT);
            Check.due("obstacle of the kind " + kind, x.obstacle(1, 2), 1);
        }
    }

    private static void alternativeErrorsInTheirOrder() {
        CalendarReplicas x = new CalendarReplicas();
        x.create(0, 10, 1, 0, 1, 1);
        x.join(0, 0, 1, 1);
        x.sendOne(0, 1, 1);
        Check.due("BAD_VALUE before NOT_POSSIBLE: replica", x.alternative(3, 1), BAD);
        Check.due("BAD_VALUE before NOT_POSSIBLE: edit", x.alternative(0, 2), BAD);
        Check.due("accepted, and no CREATE or MOVE", x.alternative(0, 1), NOT);
        Check.due("blocked, and no CREATE or MOVE", x.alternative(1, 1), NOT);
        Check.due("accepted CREATE", x.alternative(0, 0), NOT);
    }

    /** A meeting of the duration 1 in room 0, and others around it in the same room. */
    private static int alternative(int start, int... booked) {
        CalendarReplicas x = new CalendarReplicas();
        for (int slot : booked) {
            x.create(0, slot, 1, 0, 1, 9);
        }
        x.create(1, start, 1, 0, 2, 1);
        x.send(0, 1);
        return x.alternative(1, booked.length);
    }

    private static void alternativeNearest() {
        Check.due("of two the lower one", alternative(50, 50), 49);
        Check.due("only the higher one", alternative(50, 50, 49), 51);
        Check.due("only the lower one", alternative(50, 50, 51), 49);
        Check.due("two slots away, the lower one", alternative(50, 49, 50, 51), 48);
        Check.due("two slots away, the higher one", alternative(50, 48, 49, 50, 51), 52);
        Check.due("the nearer one though it is higher", alternative(50, 47, 48, 49, 50, 51), 52);
        Check.due("three slots away, the lower one", alternative(50, 48, 49, 50, 51, 52), 47);
    }

    private static void alternativeAtTheEnds() {
        Check.due("0 is an alternative", alternative(1, 1, 2), 0);
        Check.due("95 is an alternative", alternative(94, 93, 94), 95);
        Check.due("from 0 upwards", alternative(0, 0), 1);
        Check.due("from 95 downwards", alternative(95, 95), 94);
        Check.due("from 0 far upwards", alternative(0, 0, 1, 2, 3, 4), 5);
        CalendarReplicas x = new CalendarReplicas();
        x.setRoom(0, 6, 1, 95);
        x.create(0, 0, 1, 0, 1, 9);
        x.create(1, 0, 1, 0, 2, 1);
        x.send(0, 1);
        Check.due("95 for a start of 0", x.alternative(1, 1), 95);
        CalendarReplicas y = new CalendarReplicas();
        y.setRoom(0, 6, 1, 95);
        y.create(0, 95, 1, 0, 1, 9);
        y.create(1, 95, 1, 0, 2, 1);
        y.send(0, 1);
        Check.due("0 for a start of 95", y.alternative(1, 1), 0);
        CalendarReplicas z = new CalendarReplicas();
        z.create(0, 84, 8, 0, 1, 9);
        z.create(1, 88, 8, 0, 2, 1);
        z.send(0, 1);
        Check.due("88 would be the last one for a duration of 8", z.alternative(1, 1), 76);
    }

    private static void alternativeNone() {
        CalendarReplicas x = new CalendarReplicas();
        x.setRoom(0, 6, 0, 95);
        x.create(0, 95, 1, 0, 1, 9);
        x.create(1, 95, 1, 0, 2, 1);
        x.send(0, 1);
        Check.due("the room is full", x.alternative(1, 1), NONE);
        CalendarReplicas y = new CalendarReplicas();
        y.create(0, 10, 1, 0, 1, 1);
        y.send(0, 1);
        y.move(0, 0, 20, 5);
        y.move(1, 0, 30, 4);
        y.send(0, 1);
        Check.due("a clash is at each start", y.alternative(1, 2), NONE);
        CalendarReplicas z = new CalendarReplicas();
        z.create(1, 10, 1, 0, 1, 1);
        z.move(1, 0, 20, 1);
        z.create(0, 20, 1, 0, 2, 9);
        z.create(0, 10, 1, 0, 2, 9);
        z.send(0, 1);
        Check.due("a move whose meeting is rejected", z.alternative(1, 1), NONE);
        Check.due("the meeting itself", z.alternative(1, 0), 9);
    }

    private static void alternativeOfASeries() {
        CalendarReplicas x = new CalendarReplicas();
        x.create(0, 20, 1, 0, 1, 9);
        Check.type(x, "10+1 p1 e10x3");
        x.createFromText(1);
        x.send(0, 1);
        Check.due("rejected for its second time", x.state(1, 1), REJECTED);
        Check.due("one earlier", x.alternative(1, 1), 9);
        CalendarReplicas y = new CalendarReplicas();
        y.create(0, 47, 1, 0, 1, 9);
        Check.type(y, "47+1 p1 e48x2");
        y.createFromText(1);
        y.send(0, 1);
        Check.due("not later, as the second time is at the end", y.alternative(1, 1), 46);
    }

    // ---- promise 39

    private static void freeStartRefused() {
        Scene scene = Scene.busy();
        for (int value : new int[] {-1, 3, MAX, MIN}) {
            scene.refused("freeStart(replica " + value + ")", x -> x.freeStart(value, 0, 1, 0), BAD);
        }
        for (int value : new int[] {-1, 4, MAX, MIN}) {
            scene.refused("freeStart(room " + value + ")", x -> x.freeStart(0, value, 1, 0), BAD);
        }
        for (int value : new int[] {0, -1, 9, MAX, MIN}) {
            scene.refused("freeStart(duration " + value + ")", x -> x.freeStart(0, 0, value, 0), BAD);
            scene.refused("freeStart, BAD_VALUE and NONE", x -> x.freeStart(3, 0, 2, 95), BAD);
        }
        for (int value : new int[] {-1, 96, MAX, MIN}) {
            scene.refused("freeStart(from " + value + ")", x -> x.freeStart(0, 0, 1, value), BAD);
        }
        scene.refused("freeStart, BAD_VALUE and NONE: duration", x -> x.freeStart(0, 0, 9, 95), BAD);
        scene.refused("freeStart, BAD_VALUE and NONE: room", x -> x.freeStart(0, 4, 8, 95), BAD);
    }

    private static void freeStartAllowed() {
        CalendarReplicas x = new CalendarReplicas();
        for (int replica = 0; replica < 3; replica++) {
            for (int room = 0; room < 4; room++) {
                Check.due("duration 1 from 0", x.freeStart(replica, room, 1, 0), 0);
                Check.due("duration 8 from 0", x.freeStart(replica, room, 8, 0), 0);
                Check.due("duration 1 from 95", x.freeStart(replica, room, 1, 95), 95);
            }
        }
    }

    private static void freeStartAtTheEnd() {
        CalendarReplicas x = new CalendarReplicas();
        for (int duration = 1; duration <= 8; duration++) {
            Check.due("the last one of " + duration, x.freeStart(0, 0, duration, 96 - duration), 96 - duration);
            if (duration > 1) {
                Check.due("one more, of " + duration, x.freeStart(0, 0, duration, 97 - duration), NONE);
                Check.due("from 95, of " + duration, x.freeStart(0, 0, duration, 95), NONE);
            }
        }
        x.create(0, 95, 1, 0, 1, 1);
        Check.due("the last slot is booked", x.freeStart(0, 0, 1, 95), NONE);
        Check.due("of 8, up to it", x.freeStart(0, 0, 8, 87), 87);
        Check.due("of 8, into it", x.freeStart(0, 0, 8, 88), NONE);
    }

    private static void freeStartInAFullRoom() {
        CalendarReplicas x = new CalendarReplicas();
        x.setRoom(0, 6, 8, 96);
        x.create(0, 0, 8, 0, 1, 1);
        Check.due("a room that is full", x.freeStart(0, 0, 1, 0), NONE);
        Check.due("its replica alone has the meeting", x.freeStart(1, 0, 8, 0), 0);
        Check.due("too late for it", x.freeStart(1, 0, 8, 1), NONE);
        CalendarReplicas y = new CalendarReplicas();
        for (int i = 0; i < 12; i++) {
            y.create(0, 8 * i, 8, 3, 1, 1);
        }
        Check.due("12 times 8 slots", y.freeStart(0, 3, 1, 0), NONE);
        y.send(0, 1);
        y.send(0, 2);
        y.compact();
        y.resize(1, 7, 7, 1);
        Check.due("one slot less", y.freeStart(1, 3, 1, 0), 63);
        Check.due("two slots are not free", y.freeStart(1, 3, 2, 0), NONE);
    }

    private static void freeStartBetweenMeetings() {
        CalendarReplicas x = new CalendarReplicas();
        x.create(0, 0, 1, 0, 1, 1);
        x.create(0, 6, 1, 0, 1, 1);
        Check.due("5 slots between", x.freeStart(0, 0, 5, 0), 1);
        Check.due("6 slots are behind", x.freeStart(0, 0, 6, 0), 7);
        Check.due("from the first of them", x.freeStart(0, 0, 5, 1), 1);
        Check.due("from the second of them", x.freeStart(0, 0, 5, 2), 7);
        Check.due("from the last of them", x.freeStart(0, 0, 1, 5), 5);
        Check.due("from the meeting on", x.freeStart(0, 0, 1, 6), 7);
        Check.due("other rooms are free", x.freeStart(0, 1, 6, 0), 0);
    }

    private static void freeStartAndClosingTime() {
        for (int[] range : new int[][] {{0, 1}, {0, 48}, {10, 20}, {47, 48}, {48, 49}, {47, 49}, {90, 95}}) {
            CalendarReplicas x = new CalendarReplicas();
            x.setRoom(2, 6, range[0], range[1]);
            Check.due("the first closed slot", x.freeStart(0, 2, 1, range[0]), range[1]);
            Check.due("the last closed slot", x.freeStart(0, 2, 1, range[1] - 1), range[1]);
            Check.due("the first open slot", x.freeStart(0, 2, 1, range[1]), range[1]);
            if (range[0] > 0) {
                Check.due("the last open slot", x.freeStart(0, 2, 1, range[0] - 1), range[0] - 1);
                Check.due("into the closing time", x.freeStart(0, 2, 2, range[0] - 1), range[1] == 95 ? NONE : range[1]);
            }
        }
        CalendarReplicas x = new CalendarReplicas();
        x.setAbsence(0, 0, 96);
        Check.due("absences do not matter", x.freeStart(0, 0, 8, 0), 0);
        x.setRoom(1, 1, 0, 0);
        Check.due("the capacity does not matter", x.freeStart(0, 1, 8, 0), 0);
    }

    // ---- promise 40

    private static void commonStartRefused() {
        Scene scene = Scene.busy();
        for (int value : new int[] {-1, 3, MAX, MIN}) {
            scene.refused("commonStart(replica " + value + ")", x -> x.commonStart(value, 1, 1, 0), BAD);
        }
        for (int value : new int[] {0, -1, 64, MAX, MIN}) {
            scene.refused("commonStart(persons " + value + ")", x -> x.commonStart(0, value, 1, 0), BAD);
        }
        for (int value : new int[] {0, -1, 9, MAX, MIN}) {
            scene.refused("commonStart(duration " + value + ")", x -> x.commonStart(0, 1, value, 0), BAD);
        }
        for (int value : new int[] {-1, 96, MAX, MIN}) {
            scene.refused("commonStart(from " + value + ")", x -> x.commonStart(0, 1, 1, value), BAD);
        }
        scene.refused("commonStart, BAD_VALUE and NONE: replica", x -> x.commonStart(3, 1, 8, 95), BAD);
        scene.refused("commonStart, BAD_VALUE and NONE: persons", x -> x.commonStart(0, 64, 8, 95), BAD);
        scene.refused("commonStart, BAD_VALUE and NONE: duration", x -> x.commonStart(0, 1, 9, 95), BAD);
    }

    private static void commonStartAllowed() {
        CalendarReplicas x = new CalendarReplicas();
        for (int replica = 0; replica < 3; replica++) {
            for (int persons = 1; persons <= 63; persons += 62) {
                Check.due("duration 1 from 0", x.commonStart(replica, persons, 1, 0), 0);
                Check.due("duration 8 from 0", x.commonStart(replica, persons, 8, 0), 0);
                Check.due("duration 1 from 95", x.commonStart(replica, persons, 1, 95), 950);
            }
        }
    }

    private static void commonStartAtTheEnd() {
        CalendarReplicas x = new CalendarReplicas();
        for (int duration = 1; duration <= 8; duration++) {
            int last = 96 - duration;
            Check.due("the last one of " + duration, x.commonStart(0, 1, duration, last), 10 * last);
            if (duration > 1) {
                Check.due("one more, of " + duration, x.commonStart(0, 1, duration, last + 1), NONE);
            }
        }
        for (int room = 0; room < 4; room++) {
            x.create(0, 95, 1, room, 1 << room, 1);
            Check.due("in the last slot", x.commonStart(0, 32, 1, 95), room < 3 ? 951 + room : NONE);
        }
    }

    private static void commonStartAndPersons() {
        CalendarReplicas x = new CalendarReplicas();
        x.setAbsence(0, 10, 20);
        x.create(0, 5, 3, 3, 2, 1);
        for (int person = 0; person < 6; person++) {
            int want = person == 1 ? 80 : 50;
            Check.due("person " + person + " from 5", x.commonStart(0, 1 << person, 1, 5), want);
            want = person == 0 ? 200 : 100;
            Check.due("person " + person + " from 10", x.commonStart(0, 1 << person, 1, 10), want);
        }
        Check.due("both, up to the meeting", x.commonStart(0, 3, 5, 0), 0);
        Check.due("both, into the meeting", x.commonStart(0, 3, 6, 0), 200);
        Check.due("both, between", x.commonStart(0, 3, 2, 1), 10);
        Check.due("both, between the meeting and the absence", x.commonStart(0, 3, 2, 4), 80);
        Check.due("a replica without the meeting", x.commonStart(1, 3, 2, 6), 60);
    }

    private static void commonStartAndRooms() {
        CalendarReplicas x = new CalendarReplicas();
        for (int room = 0; room < 4; room++) {
            x.setRoom(room, room + 2, 0, room == 0 ? 2 : 0);
        }
        Check.due("room 0 is closed", x.commonStart(0, 3, 1, 0), 1);
        Check.due("room 0 is closed still", x.commonStart(0, 3, 1, 1), 11);
        Check.due("room 0 is open", x.commonStart(0, 3, 1, 2), 20);
        Check.due("three persons", x.commonStart(0, 7, 1, 2), 21);
        Check.due("four persons", x.commonStart(0, 15, 1, 2), 22);
        Check.due("five persons", x.commonStart(0, 31, 1, 2), 23);
        Check.due("six persons", x.commonStart(0, 63, 1, 2), NONE);
        x.create(0, 2, 1, 1, 32, 1);
        Check.due("room 1 is booked", x.commonStart(0, 7, 1, 2), 22);
        Check.due("the lower start comes before the lower room", x.commonStart(0, 7, 2, 1), 12);
    }

    private static void commonStartNone() {
        CalendarReplicas x = new CalendarReplicas();
        x.setAbsence(3, 0, 96);
        Check.due("one is never there", x.commonStart(0, 8, 1, 0), NONE);
        Check.due("one of all is never there", x.commonStart(0, 63, 1, 0), NONE);
        Check.due("without that one", x.commonStart(0, 55, 1, 0), 0);
        CalendarReplicas y = new CalendarReplicas();
        y.setAbsence(3, 0, 90);
        Check.due("6 slots are left", y.commonStart(0, 8, 6, 0), 900);
        Check.due("7 slots are not", y.commonStart(0, 8, 7, 0), NONE);
        CalendarReplicas z = new CalendarReplicas();
        z.addOrder(0, 1);
        z.create(0, 50, 1, 0, 1, 1);
        Check.due("the next number would be in an order", z.commonStart(0, 1, 1, 0), 0);
    }

    // ---- promise 41

    private static void busySlotsRefused() {
        Scene scene = Scene.busy();
        for (int value : new int[] {-1, 3, MAX, MIN}) {
            scene.refused("busySlots(replica " + value + ")", x -> x.busySlots(value, 0), BAD);
        }
        for (int value : new int[] {-1, 6, MAX, MIN}) {
            scene.refused("busySlots(person " + value + ")", x -> x.busySlots(0, value), BAD);
        }
        int[][] want = {{6, 7, 0, 4, 0, 0}, {6, 7, 0, 6, 0, 0}, {2, 3, 0, 2, 3, 3}};
        for (int replica = 0; replica < 3; replica++) {
            for (int person = 0; person < 6; person++) {
                int r = replica;
                int p = person;
                scene.answers("busySlots(" + r + ", " + p + ")", x -> x.busySlots(r, p), want[r][p]);
            }
        }
    }

    private static void busySlotsOfNoneAndAll() {
        CalendarReplicas x = new CalendarReplicas();
        x.setAbsence(1, 0, 96);
        for (int person = 0; person < 6; person++) {
            Check.due("at first", x.busySlots(0, person), 0);
        }
        for (int i = 0; i < 12; i++) {
            x.create(0, 8 * i, 8, i % 4, 61, 1);
        }
        for (int person = 0; person < 6; person++) {
            Check.due("all 96 slots", x.busySlots(0, person), person == 1 ? 0 : 96);
            Check.due("at another replica", x.busySlots(1, person), 0);
        }
    }

    private static void busySlotsOfAllTimes() {
        for (int count = 1; count <= 4; count++) {
            for (int duration = 1; duration <= 8; duration += 7) {
                CalendarReplicas x = new CalendarReplicas();
                Check.type(x, "0+" + duration + " p5 e20x" + count);
                x.createFromText(0);
                Check.due(count + " times " + duration, x.busySlots(0, 5), count * duration);
                Check.due("of one who is not in it", x.busySlots(0, 0), 0);
            }
        }
    }
}
