/**
 * The sections "What it is" and "Description": edits that two replicas make independently of one another, each of
 * which leads to a valid calendar, but not both. They do not clash; it is the result that is not valid.
 */
public final class MergeRulesTest {
    private static final int REJECTED = CalendarReplicas.REJECTED;
    private static final int ACCEPTED = CalendarReplicas.ACCEPTED;
    private static final int[][] WEIGHTS = {{1, 1}, {9, 9}, {2, 1}, {1, 2}, {9, 8}, {8, 9}};

    /** Makes what all replicas know, and then an edit of replica 0 and one of replica 1 with these weights. */
    private interface Pair {
        CalendarReplicas made(int weight, int otherWeight);
    }

    public static void main(String[] args) {
        slotsBehindTheLastOne();
        nobodyIsLeft();
        tooManyPersons();
        closingTimes();
        absences();
        oneRoom();
        onePerson();
        orders();
        threeOfWhichTwoFit();
        aChangeThatMakesBothFit();
        aJoinThatMakesAllFit();
        aLeaveThatMakesAllFit();
        Check.end();
    }

    /** The heavier one is accepted, of two of the same weight the lower one; each of them alone is accepted too. */
    private static void notBoth(String name, Pair pair) {
        for (int[] weights : WEIGHTS) {
            CalendarReplicas x = pair.made(weights[0], weights[1]);
            String what = name + ", weights " + weights[0] + " and " + weights[1];
            int one = x.editAt(x.edits() - 2);
            int other = x.editAt(x.edits() - 1);
            Check.due(what + ": weightOf", x.weightOf(one), weights[0]);
            Check.due(what + ": weightOf", x.weightOf(other), weights[1]);
            Check.due(what + ": they do not clash", x.clash(one, other), 0);
            x.send(0, 2);
            Check.due(what + ": the first one alone", x.state(2, one), ACCEPTED);
            x.send(1, 2);
            boolean first = weights[0] >= weights[1];
            Check.due(what + ": the first one", x.state(2, one), first ? ACCEPTED : REJECTED);
            Check.due(what + ": the second one", x.state(2, other), first ? REJECTED : ACCEPTED);
            Check.due(what + ": the cost", x.cost(2, first ? other : one), Math.abs(weights[0] - weights[1]));
            Check.due(what + ": the obstacle", x.obstacle(2, first ? other : one), first ? one : other);
            x.send(2, 0);
            Check.due(what + ": the same at replica 0", x.state(0, one), x.state(2, one));
            CalendarReplicas y = pair.made(weights[0], weights[1]);
            y.send(1, 2);
            Check.due(what + ": the second one alone", y.state(2, other), ACCEPTED);
        }
    }

    /** A meeting that all replicas know, in the base. */
    private static CalendarReplicas common(CalendarReplicas x, String... texts) {
        for (String text : texts) {
            Check.type(x, text);
            Check.isTrue("createFromText of " + text, x.createFromText(0) >= 0);
        }
        x.send(0, 1);
        x.send(0, 2);
        Check.due("compact", x.compact(), texts.length);
        return x;
    }

    private static CalendarReplicas common(String... texts) {
        return common(new CalendarReplicas(), texts);
    }

    private static void slotsBehindTheLastOne() {
        notBoth("a move to the end and a longer duration", (v, w) -> {
            CalendarReplicas x = common("80+2");
            x.move(0, 0, 94, v);
            x.resize(1, 0, 3, w);
            return x;
        });
        notBoth("the same of a series", (v, w) -> {
            CalendarReplicas x = common("10+2 e5x3");
            x.resize(0, 0, 3, v);
            x.move(1, 0, 84, w);
            return x;
        });
    }

    private static void nobodyIsLeft() {
        notBoth("two persons who leave", (v, w) -> {
            CalendarReplicas x = common("10+2 p25");
            x.leave(0, 0, 2, v);
            x.leave(1, 0, 5, w);
            return x;
        });
    }

    private static void tooManyPersons() {
        notBoth("two persons who join", (v, w) -> {
            CalendarReplicas x = new CalendarReplicas();
            x.setRoom(3, 2, 0, 0);
            common(x, "10+2 r3 p0");
            x.join(0, 0, 1, v);
            x.join(1, 0, 5, w);
            return x;
        });
        notBoth("a smaller room and a person who joins", (v, w) -> {
            CalendarReplicas x = new CalendarReplicas();
            x.setRoom(3, 2, 0, 0);
            common(x, "10+2 r0 p01");
            x.changeRoom(0, 0, 3, v);
            x.join(1, 0, 5, w);
            return x;
        });
    }

    private static CalendarReplicas closed(String text) {
        CalendarReplicas x = new CalendarReplicas();
        x.setRoom(1, 6, 20, 30);
        return common(x, text);
    }

    private static void closingTimes() {
        notBoth("a move and a room that is closed then", (v, w) -> {
            CalendarReplicas x = closed("10+2 r0");
            x.move(0, 0, 29, v);
            x.changeRoom(1, 0, 1, w);
            return x;
        });
        notBoth("a longer duration and a move up to the closing time", (v, w) -> {
            CalendarReplicas x = closed("10+1 r1");
            x.resize(0, 0, 2, v);
            x.move(1, 0, 19, w);
            return x;
        });
    }

    private static void absences() {
        notBoth("a move and a person who is absent then", (v, w) -> {
            CalendarReplicas x = new CalendarReplicas();
            x.setAbsence(4, 20, 30);
            common(x, "10+2 p0");
            x.join(0, 0, 4, v);
            x.move(1, 0, 29, w);
            return x;
        });
    }

    private static void oneRoom() {
        notBoth("two new meetings in one room", (v, w) -> {
            CalendarReplicas x = new CalendarReplicas();
            x.create(0, 10, 3, 2, 1, v);
            x.create(1, 12, 3, 2, 2, w);
            return x;
        });
        notBoth("two meetings that move to one time", (v, w) -> {
            CalendarReplicas x = common("10+2 p0", "20+2 p1");
            x.move(0, 0, 50, v);
            x.move(1, 1, 51, w);
            return x;
        });
        notBoth("a longer duration and a move just behind", (v, w) -> {
            CalendarReplicas x = common("10+2 p0", "20+2 p1");
            x.resize(0, 0, 3, v);
            x.move(1, 1, 12, w);
            return x;
        });
        notBoth("two meetings that change to one room", (v, w) -> {
            CalendarReplicas x = common("10+2 r0 p0", "10+2 r1 p1");
            x.changeRoom(0, 0, 3, v);
            x.changeRoom(1, 1, 3, w);
            return x;
        });
    }

    private static void onePerson() {
        notBoth("two new meetings of one person", (v, w) -> {
            CalendarReplicas x = new CalendarReplicas();
            x.create(0, 10, 3, 0, 48, v);
            x.create(1, 12, 3, 1, 33, w);
            return x;
        });
        notBoth("one person who joins two meetings", (v, w) -> {
            CalendarReplicas x = common("10+2 r0 p0", "11+2 r1 p1");
            x.join(0, 0, 5, v);
            x.join(1, 1, 5, w);
            return x;
        });
        notBoth("a move to the time of a meeting that the person joins", (v, w) -> {
            CalendarReplicas x = common("10+2 r0 p0", "30+2 r1 p1");
            x.move(0, 0, 31, v);
            x.join(1, 1, 0, w);
            return x;
        });
    }

    private static void orders() {
        notBoth("two moves towards one another", (v, w) -> {
            CalendarReplicas x = common("10+2 r0 p0", "30+2 r1 p1");
            x.addOrder(0, 1);
            x.move(0, 0, 20, v);
            x.move(1, 1, 21, w);
            return x;
        });
        notBoth("two new meetings", (v, w) -> {
            CalendarReplicas x = new CalendarReplicas();
            x.addOrder(1, 0);
            x.create(0, 10, 2, 0, 1, v);
            x.create(1, 20, 2, 1, 2, w);
            return x;
        });
    }

    /** Any two of three persons may leave, and the third one stays. */
    private static void threeOfWhichTwoFit() {
        for (int lightest = 0; lightest < 3; lightest++) {
            CalendarReplicas x = common("10+2 p024");
            for (int replica = 0; replica < 3; replica++) {
                x.leave(replica, 0, 2 * replica, replica == lightest ? 2 : 3);
            }
            Check.tellAll(x);
            for (int replica = 0; replica < 3; replica++) {
                Check.due("two of three leave", x.acceptedWeight(replica), 6);
                Check.due("one of three does not", x.rejectedWeight(replica), 2);
                Check.due("the one whose edit is the lightest", x.personsOf(replica, 0), 1 << 2 * lightest);
            }
        }
    }

    /** Replica 2 knows the meeting 0 and changes it; replica 1 does not, and makes one that fits only with that. */
    private static void fitsWith(int kind, CalendarReplicas x, int change) {
        String name = "with an edit of the kind " + kind;
        Check.due(name + ": the change", change, 1);
        Check.due(name + ": its kind", x.kindOf(1), kind);
        boolean leave = kind == CalendarReplicas.LEAVE;
        Check.due(name + ": the other meeting", x.create(1, 11, 1, leave ? 3 : 0, leave ? 2 : 32, 1), 2);
        x.sendOne(0, 1, 0);
        Check.due(name + ": without the change the lighter one is rejected", x.state(1, 2), REJECTED);
        x.send(1, 2);
        Check.due(name + ": all are accepted", x.acceptedWeight(2), 4);
        Check.due(name + ": none is rejected", x.rejectedWeight(2), 0);
        x.send(2, 1);
        Check.due(name + ": none is rejected at replica 1", x.rejectedWeight(1), 0);
    }

    private static CalendarReplicas known() {
        CalendarReplicas x = new CalendarReplicas();
        x.create(0, 10, 2, 0, 3, 2);
        x.send(0, 2);
        return x;
    }

    private static void aChangeThatMakesBothFit() {
        CalendarReplicas x = known();
        fitsWith(CalendarReplicas.MOVE, x, x.move(2, 0, 9, 1));
        x = known();
        fitsWith(CalendarReplicas.ROOM, x, x.changeRoom(2, 0, 1, 1));
        x = known();
        fitsWith(CalendarReplicas.DURATION, x, x.resize(2, 0, 1, 1));
        x = known();
        fitsWith(CalendarReplicas.LEAVE, x, x.leave(2, 0, 1, 1));
        x = known();
        fitsWith(CalendarReplicas.CANCEL, x, x.cancel(2, 0, 1));
    }

    private static void aJoinThatMakesAllFit() {
        CalendarReplicas x = common("10+2 p01");
        x.leave(0, 0, 0, 1);
        x.leave(1, 0, 1, 1);
        Check.due("a join", x.join(2, 0, 2, 1), 3);
        Check.tellAll(x);
        for (int replica = 0; replica < 3; replica++) {
            Check.due("all three are accepted", x.acceptedWeight(replica), 3);
            Check.due("only the new person is left", x.personsOf(replica, 0), 4);
        }
    }

    private static void aLeaveThatMakesAllFit() {
        CalendarReplicas x = new CalendarReplicas();
        x.setRoom(0, 2, 0, 0);
        common(x, "10+2 p0");
        x.join(0, 0, 1, 1);
        x.join(1, 0, 2, 1);
        x.send(0, 1);
        Check.due("one join is too much", x.rejectedWeight(1), 1);
        x.join(2, 0, 3, 1);
        Check.due("a leave", x.leave(2, 0, 0, 1), 4);
        x.sendOne(2, 1, 4);
        Check.due("with the leave both joins fit", x.acceptedWeight(1), 3);
        Check.due("the two who joined", x.personsOf(1, 0), 6);
        x.sendOne(2, 1, 3);
        Check.due("a third join is too much again", x.rejectedWeight(1), 1);
        Check.due("it is the highest one", x.state(1, 3), REJECTED);
    }
}
