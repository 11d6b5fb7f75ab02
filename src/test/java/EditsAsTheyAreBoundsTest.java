import java.util.function.ToIntFunction;

/** Promises 25 to 35: indices and numbers of edits, clashes one by one, states, weights, and who agrees. */
public final class EditsAsTheyAreBoundsTest {
    private static final int BAD = CalendarReplicas.BAD_VALUE;
    private static final int NOT = CalendarReplicas.NOT_POSSIBLE;
    private static final int UNKNOWN = CalendarReplicas.UNKNOWN;
    private static final int BLOCKED = CalendarReplicas.BLOCKED;
    private static final int REJECTED = CalendarReplicas.REJECTED;
    private static final int ACCEPTED = CalendarReplicas.ACCEPTED;
    private static final int MAX = Integer.MAX_VALUE;
    private static final int MIN = Integer.MIN_VALUE;

    private interface Asked {
        int of(CalendarReplicas x, int edit);
    }

    private record Value(String name, Asked asked) {
    }

    private static final Value[] VALUES = {
        new Value("kindOf", (x, e) -> x.kindOf(e)), new Value("meetingOf", (x, e) -> x.meetingOf(e)),
        new Value("authorOf", (x, e) -> x.authorOf(e)), new Value("weightOf", (x, e) -> x.weightOf(e))};

    public static void main(String[] args) {
        editsSinceCompact();
        editsAndRefusedCompacts();
        editAtBounds();
        for (Value value : VALUES) {
            refused(value);
        }
        valuesOfEachKind();
        weightsAndAuthors();
        clashRefused();
        clashOfAllPairs(false);
        clashOfAllPairs(true);
        clashOfPersons();
        clashWithAnEarlierCancel();
        clashOnlyOfTheSameMeeting();
        clashOfTheTwelfthEdit();
        stateRefused();
        stateOfEachSort();
        stateInABase();
        weightsRefused();
        weightsOfNothing();
        weightsOfAll();
        weightsOfBlockedOnes();
        agreeRefused();
        agreeOfEachPair();
        agreeOfOtherEditsOfTheSameNumber();
        agreeOfRejectedAndBlockedEdits();
        Check.end();
    }

    // ---- promises 25 and 26

    private static void editsSinceCompact() {
        CalendarReplicas x = new CalendarReplicas();
        Check.due("at first", x.edits(), 0);
        for (int i = 0; i < 12; i++) {
            x.create(i % 3, i, 1, 0, 1, 1);
            Check.due("edits of all replicas together", x.edits(), i + 1);
        }
        x.create(0, 90, 1, 0, 1, 1);
        Check.due("12 are the most", x.edits(), 12);
        Check.tellAll(x);
        Check.due("sending makes none", x.edits(), 12);
        x.compact();
        Check.due("after compact", x.edits(), 0);
        x.cancel(0, 0, 1);
        Check.due("the first one after compact", x.edits(), 1);
    }

    private static void editsAndRefusedCompacts() {
        CalendarReplicas x = Scene.makeFull();
        x.compact();
        Check.due("after a compact that was FULL", x.edits(), 12);
        CalendarReplicas y = Scene.makeBusy();
        y.compact();
        Check.due("after a compact that was not possible", y.edits(), 7);
        y.create(0, 0, 1, 0, 1, 1);
        Check.due("after an edit that was not possible", y.edits(), 7);
        y.create(0, 96, 1, 0, 1, 1);
        Check.due("after a wrong edit", y.edits(), 7);
    }

    private static void editAtBounds() {
        Scene scene = Scene.busy();
        for (int index : new int[] {-1, 7, 12, MAX, MIN}) {
            scene.refused("editAt(" + index + ")", x -> x.editAt(index), BAD);
        }
        for (int i = 0; i < 7; i++) {
            int index = i;
            scene.answers("editAt(" + index + ")", x -> x.editAt(index), index + 2);
        }
        Scene.blank().refused("editAt(0)", x -> x.editAt(0), BAD);
        Scene.full().answers("editAt(11)", x -> x.editAt(11), 23);
        Scene.full().refused("editAt(12)", x -> x.editAt(12), BAD);
    }

    // ---- promises 27 to 30

    private static void refused(Value value) {
        Scene scene = Scene.busy();
        for (int edit : new int[] {-1, 0, 1, 9, 12, MAX, MIN}) {
            scene.refused(value.name + "(" + edit + ")", x -> value.asked.of(x, edit), BAD);
        }
        Scene.blank().refused(value.name + "(0)", x -> value.asked.of(x, 0), BAD);
        Scene.full().refused(value.name + "(11)", x -> value.asked.of(x, 11), BAD);
        Scene.full().refused(value.name + "(24)", x -> value.asked.of(x, 24), BAD);
        CalendarReplicas x = new CalendarReplicas();
        x.create(0, 10, 1, 0, 1, 1);
        x.create(1, 10, 9, 0, 2, 1);
        x.create(0, 10, 1, 0, 2, 1);
        Check.due(value.name + " of an edit that was refused", value.asked.of(x, 1), BAD);
    }

    private static void made(String name, int kind, ToIntFunction<CalendarReplicas> edit) {
        CalendarReplicas x = new CalendarReplicas();
        x.create(2, 0, 1, 0, 1, 1);
        Check.due(name, edit.applyAsInt(x), 1);
        Check.due("kindOf " + name, x.kindOf(1), kind);
        Check.due("meetingOf " + name, x.meetingOf(1), kind == CalendarReplicas.CREATE ? 1 : 0);
        Check.due("authorOf " + name, x.authorOf(1), 2);
        Check.due("weightOf " + name, x.weightOf(1), 7);
        Check.tellAll(x);
        Check.due("its author when all know it", x.authorOf(1), 2);
    }

    private static void valuesOfEachKind() {
        made("create", CalendarReplicas.CREATE, x -> x.create(2, 50, 1, 0, 1, 7));
        made("createFromText", CalendarReplicas.CREATE, x -> {
            Check.type(x, "50+1 w7");
            return x.createFromText(2);
        });
        made("move", CalendarReplicas.MOVE, x -> x.move(2, 0, 5, 7));
        made("changeRoom", CalendarReplicas.ROOM, x -> x.changeRoom(2, 0, 1, 7));
        made("resize", CalendarReplicas.DURATION, x -> x.resize(2, 0, 2, 7));
        made("join", CalendarReplicas.JOIN, x -> x.join(2, 0, 1, 7));
        made("leave", CalendarReplicas.LEAVE, x -> x.leave(2, 0, 1, 7));
        made("cancel", CalendarReplicas.CANCEL, x -> x.cancel(2, 0, 7));
    }

    private static void weightsAndAuthors() {
        CalendarReplicas x = new CalendarReplicas();
        for (int i = 0; i < 9; i++) {
            x.create(i % 3, 8 * i, 1, 0, 1, i + 1);
        }
        for (int i = 0; i < 9; i++) {
            Check.due("weightOf", x.weightOf(i), i + 1);
            Check.due("authorOf", x.authorOf(i), i % 3);
        }
    }

    // ---- promise 31

    private static void clashRefused() {
        Scene scene = Scene.busy();
        for (int edit : new int[] {-1, 0, 1, 9, 12, MAX, MIN}) {
            scene.refused("clash(" + edit + ", 2)", x -> x.clash(edit, 2), BAD);
            scene.refused("clash(2, " + edit + ")", x -> x.clash(2, edit), BAD);
            scene.refused("clash(" + edit + ", " + edit + ")", x -> x.clash(edit, edit), BAD);
        }
        for (int edit = 2; edit < 9; edit++) {
            int of = edit;
            scene.refused("clash(" + of + ", " + of + ")", x -> x.clash(of, of), BAD);
        }
    }

    private static int makeOf(CalendarReplicas x, int replica, int kind) {
        switch (kind) {
            case CalendarReplicas.MOVE:
                return x.move(replica, 0, 11, 1);
            case CalendarReplicas.ROOM:
                return x.changeRoom(replica, 0, 1, 1);
            case CalendarReplicas.DURATION:
                return x.resize(replica, 0, 3, 1);
            case CalendarReplicas.JOIN:
                return x.join(replica, 0, 3, 1);
            case CalendarReplicas.LEAVE:
                return x.leave(replica, 0, 3, 1);
            default:
                return x.cancel(replica, 0, 1);
        }
    }

    /** An edit of each kind, and one of each kind by another replica that knows the first one, or does not. */
    private static void clashOfAllPairs(boolean follows) {
        for (int low = CalendarReplicas.MOVE; low <= CalendarReplicas.CANCEL; low++) {
            for (int high = CalendarReplicas.MOVE; high <= CalendarReplicas.CANCEL; high++) {
                CalendarReplicas x = new CalendarReplicas();
                x.create(0, 10, 2, 0, 3, 1);
                Check.tellAll(x);
                String pair = "kinds " + low + " and " + high + (follows ? ", which follows" : "");
                Check.due(pair + ": the lower one", makeOf(x, 1, low), 1);
                if (follows) {
                    x.send(1, 2);
                }
                if (follows && low == CalendarReplicas.CANCEL) {
                    Check.due(pair + ": the meeting is gone", makeOf(x, 2, high), BAD);
                    continue;
                }
                Check.due(pair + ": the higher one", makeOf(x, 2, high), 2);
                boolean persons = low >= CalendarReplicas.JOIN && low <= CalendarReplicas.LEAVE
                        && high >= CalendarReplicas.JOIN && high <= CalendarReplicas.LEAVE;
                boolean cancel = low == CalendarReplicas.CANCEL || high == CalendarReplicas.CANCEL;
                boolean clash = !follows && (cancel || persons || low == high);
                Check.due(pair + ": clash", x.clash(1, 2), clash ? 1 : 0);
                Check.due(pair + ": clash the other way", x.clash(2, 1), clash ? 1 : 0);
                Check.due(pair + ": with the create", x.clash(0, 1) + x.clash(0, 2) + x.clash(1, 0), 0);
                Check.tellAll(x);
                Check.due(pair + ": both of the same weight", x.acceptedWeight(0), clash ? 2 : 3);
                Check.due(pair + ": the lower one wins", x.state(0, 1), ACCEPTED);
            }
        }
    }

    private static void clashOfPersons() {
        for (int person = 0; person < 6; person++) {
            for (int other = 0; other < 6; other++) {
                CalendarReplicas x = new CalendarReplicas();
                x.create(0, 10, 2, 0, 63, 1);
                x.send(0, 1);
                x.leave(0, 0, person, 1);
                x.join(0, 0, person, 1);
                x.join(1, 0, other, 1);
                x.leave(1, 0, other, 1);
                int want = person == other ? 1 : 0;
                String pair = "persons " + person + " and " + other;
                Check.due(pair + ": leave and join", x.clash(1, 3), want);
                Check.due(pair + ": leave and leave", x.clash(1, 4), want);
                Check.due(pair + ": join and join", x.clash(2, 3), want);
                Check.due(pair + ": join and leave", x.clash(4, 2), want);
                Check.due(pair + ": what follows", x.clash(1, 2) + x.clash(3, 4), 0);
            }
        }
    }

    /** The cancel is known and rejected where the later edit is made: they clash though the later one follows. */
    private static void clashWithAnEarlierCancel() {
        for (int kind = CalendarReplicas.MOVE; kind <= CalendarReplicas.CANCEL; kind++) {
            CalendarReplicas x = new CalendarReplicas();
            x.create(0, 10, 2, 0, 3, 1);
            x.send(0, 1);
            x.cancel(0, 0, 1);
            x.join(1, 0, 4, 9);
            x.join(1, 0, 5, 9);
            x.send(0, 1);
            Check.due("the cancel is rejected", x.state(1, 1), REJECTED);
            Check.due("an edit of the kind " + kind, makeOf(x, 1, kind), 4);
            Check.due("it clashes with the cancel", x.clash(1, 4), 1);
            Check.due("it clashes the other way", x.clash(4, 1), 1);
            Check.due("it does not clash with what it follows", x.clash(2, 4) + x.clash(3, 4), 0);
        }
    }

    private static void clashOnlyOfTheSameMeeting() {
        for (int kind = CalendarReplicas.CREATE; kind <= CalendarReplicas.CANCEL; kind++) {
            CalendarReplicas x = new CalendarReplicas();
            x.create(0, 10, 2, 0, 3, 1);
            x.create(1, 10, 2, 0, 3, 1);
            if (kind != CalendarReplicas.CREATE) {
                makeOf(x, 0, kind);
                x.cancel(1, 1, 1);
                Check.due("an edit and a cancel of another meeting", x.clash(2, 3), 0);
                Check.due("an edit and another create", x.clash(2, 1), 0);
            }
            Check.due("two creates that cannot both be", x.clash(0, 1), 0);
        }
    }

    /** The edits between belong to a replica of their own, so that the twelfth one does not follow the first move. */
    private static void clashOfTheTwelfthEdit() {
        CalendarReplicas x = new CalendarReplicas();
        x.create(0, 10, 1, 0, 1, 1);
        x.send(0, 1);
        x.move(0, 0, 20, 2);
        for (int i = 2; i < 11; i++) {
            x.create(2, 40 + i, 1, 3, 32, 1);
        }
        Check.due("the twelfth edit", x.move(1, 0, 30, 1), 11);
        Check.due("clash(1, 11)", x.clash(1, 11), 1);
        Check.due("clash(11, 1)", x.clash(11, 1), 1);
        for (int other : new int[] {0, 2, 10}) {
            Check.due("clash(" + other + ", 11)", x.clash(other, 11), 0);
            Check.due("clash(11, " + other + ")", x.clash(11, other), 0);
        }
        Check.due("clash(11, 11)", x.clash(11, 11), BAD);
        Check.due("clash(11, 12)", x.clash(11, 12), BAD);
        x.send(0, 1);
        Check.due("the move of more weight", x.state(1, 1), ACCEPTED);
        Check.due("the twelfth edit", x.state(1, 11), REJECTED);
        Check.due("acceptedWeight", x.acceptedWeight(1), 3);
        Check.due("startOf", x.startOf(1, 0), 20);
        Check.due("its obstacle", x.obstacle(1, 11), 1);
        Check.due("its cost", x.cost(1, 11), 1);
        Check.due("at any start it would clash", x.alternative(1, 11), CalendarReplicas.NONE);
    }

    // ---- promise 32

    private static void stateRefused() {
        Scene scene = Scene.busy();
        for (int replica : new int[] {-1, 3, MAX, MIN}) {
            scene.refused("state(" + replica + ", 2)", x -> x.state(replica, 2), BAD);
        }
        for (int edit : new int[] {-1, 0, 1, 9, MAX, MIN}) {
            scene.refused("state(0, " + edit + ")", x -> x.state(0, edit), BAD);
            scene.refused("state(3, " + edit + ")", x -> x.state(3, edit), BAD);
        }
    }

    private static void stateOfEachSort() {
        int[][] want = {
            {ACCEPTED, ACCEPTED, UNKNOWN}, {UNKNOWN, REJECTED, UNKNOWN}, {UNKNOWN, ACCEPTED, BLOCKED},
            {ACCEPTED, REJECTED, UNKNOWN}, {ACCEPTED, ACCEPTED, UNKNOWN}, {UNKNOWN, ACCEPTED, ACCEPTED},
            {UNKNOWN, UNKNOWN, ACCEPTED}};
        CalendarReplicas x = Scene.makeBusy();
        for (int i = 0; i < 7; i++) {
            for (int replica = 0; replica < 3; replica++) {
                Check.due("state(" + replica + ", " + (i + 2) + ")", x.state(replica, i + 2), want[i][replica]);
            }
        }
        CalendarReplicas y = new CalendarReplicas();
        y.create(0, 0, 1, 0, 1, 1);
        y.cancel(0, 0, 1);
        Check.due("a create whose meeting is cancelled", y.state(0, 0), ACCEPTED);
        Check.due("the cancel", y.state(0, 1), ACCEPTED);
        y.sendOne(0, 2, 1);
        Check.due("a cancel without the create", y.state(2, 1), BLOCKED);
    }

    private static void stateInABase() {
        CalendarReplicas x = new CalendarReplicas();
        x.create(0, 0, 1, 0, 1, 1);
        Check.tellAll(x);
        x.compact();
        x.move(0, 0, 5, 1);
        x.move(0, 0, 6, 1);
        x.sendOne(0, 1, 2);
        Check.due("the second move alone is not blocked", x.state(1, 2), ACCEPTED);
        Check.due("the first one is unknown", x.state(1, 1), UNKNOWN);
        Check.due("where it moves the meeting to", x.startOf(1, 0), 6);
    }

    // ---- promises 33 and 34

    private static void weightsRefused() {
        Scene scene = Scene.busy();
        for (int replica : new int[] {-1, 3, MAX, MIN}) {
            scene.refused("acceptedWeight(" + replica + ")", x -> x.acceptedWeight(replica), BAD);
            scene.refused("rejectedWeight(" + replica + ")", x -> x.rejectedWeight(replica), BAD);
        }
        int[] accepted = {8, 15, 8};
        int[] rejected = {0, 6, 0};
        for (int replica = 0; replica < 3; replica++) {
            int of = replica;
            scene.answers("acceptedWeight(" + of + ")", x -> x.acceptedWeight(of), accepted[of]);
            scene.answers("rejectedWeight(" + of + ")", x -> x.rejectedWeight(of), rejected[of]);
        }
    }

    private static void weightsOfNothing() {
        CalendarReplicas x = new CalendarReplicas();
        x.create(0, 0, 1, 0, 1, 9);
        Check.due("what others know does not count", x.acceptedWeight(1) + x.rejectedWeight(1), 0);
        Check.tellAll(x);
        Check.due("what is accepted", x.acceptedWeight(1), 9);
        x.compact();
        Check.due("the base weighs nothing", x.acceptedWeight(1) + x.rejectedWeight(1), 0);
    }

    private static void weightsOfAll() {
        CalendarReplicas x = new CalendarReplicas();
        for (int i = 0; i < 12; i++) {
            x.create(0, i, 1, 0, 1, 9);
        }
        Check.due("12 edits of the weight 9", x.acceptedWeight(0), 108);
        Check.due("none of them is rejected", x.rejectedWeight(0), 0);
        CalendarReplicas y = new CalendarReplicas();
        for (int i = 0; i < 6; i++) {
            y.create(0, i, 1, 0, 1, 9);
            y.create(1, i, 1, 0, 2, 8);
        }
        Check.tellAll(y);
        for (int replica = 0; replica < 3; replica++) {
            Check.due("6 edits of the weight 9", y.acceptedWeight(replica), 54);
            Check.due("6 edits of the weight 8", y.rejectedWeight(replica), 48);
        }
    }

    private static void weightsOfBlockedOnes() {
        CalendarReplicas x = new CalendarReplicas();
        x.create(0, 0, 1, 0, 1, 3);
        x.move(0, 0, 5, 4);
        x.sendOne(0, 1, 1);
        Check.due("a blocked edit is not accepted", x.acceptedWeight(1), 0);
        Check.due("a blocked edit is not rejected", x.rejectedWeight(1), 0);
        x.sendOne(0, 1, 0);
        Check.due("with its create both are accepted", x.acceptedWeight(1), 7);
        Check.due("a number that is refused", x.create(1, 5, 1, 0, 1, 9), NOT);
        Check.due("weighs nothing", x.acceptedWeight(1), 7);
    }

    // ---- promise 35

    private static void agreeRefused() {
        for (Scene scene : new Scene[] {Scene.blank(), Scene.busy()}) {
            for (int replica : new int[] {-1, 3, MAX, MIN}) {
                scene.refused("agree(" + replica + ", 0)", x -> x.agree(replica, 0), BAD);
                scene.refused("agree(0, " + replica + ")", x -> x.agree(0, replica), BAD);
            }
            for (int replica = -1; replica <= 3; replica++) {
                int of = replica;
                scene.refused("agree(" + of + ", " + of + ")", x -> x.agree(of, of), BAD);
            }
        }
    }

    private static void agreeOfEachPair() {
        for (int author = 0; author < 3; author++) {
            CalendarReplicas x = new CalendarReplicas();
            int next = (author + 1) % 3;
            int last = (author + 2) % 3;
            Check.due("none knows anything", x.agree(author, next), 1);
            x.create(author, 0, 1, 0, 1, 1);
            Check.due("one knows more", x.agree(author, next), 0);
            Check.due("the other one knows less", x.agree(next, author), 0);
            Check.due("both know nothing", x.agree(next, last), 1);
            x.send(author, next);
            Check.due("both know it", x.agree(author, next), 1);
            Check.due("the third one does not", x.agree(next, last), 0);
            x.send(next, last);
            Check.due("all know it", x.agree(last, author), 1);
            x.compact();
            Check.due("after compact", x.agree(author, last), 1);
        }
    }

    private static void agreeOfOtherEditsOfTheSameNumber() {
        CalendarReplicas x = new CalendarReplicas();
        x.create(0, 0, 1, 0, 1, 1);
        x.create(1, 0, 1, 0, 1, 1);
        Check.due("one edit each, the same but for the number", x.agree(0, 1), 0);
        x.send(0, 2);
        x.send(1, 2);
        x.send(0, 1);
        Check.due("both edits, though one is rejected", x.agree(1, 2), 1);
        x.sendOne(0, 1, 0);
        Check.due("sending what is known", x.agree(1, 2), 1);
    }

    /** It is what they know that counts, and not what they accept, or what is in their calendars. */
    private static void agreeOfRejectedAndBlockedEdits() {
        CalendarReplicas x = new CalendarReplicas();
        x.create(0, 10, 1, 0, 1, 9);
        x.create(1, 10, 1, 0, 2, 1);
        x.send(0, 1);
        x.send(0, 2);
        Check.due("the same is accepted", x.acceptedWeight(1), x.acceptedWeight(2));
        Check.due("but one knows a rejected edit besides", x.agree(1, 2), 0);
        Check.due("and the other one does not", x.agree(2, 1), 0);
        CalendarReplicas y = new CalendarReplicas();
        y.create(0, 10, 1, 0, 1, 9);
        y.move(0, 0, 20, 1);
        y.sendOne(0, 1, 1);
        Check.due("nothing is in the calendars", y.meetings(1) + y.meetings(2), 0);
        Check.due("but one knows a blocked edit", y.agree(1, 2), 0);
        Check.due("and the other one knows nothing", y.agree(2, 1), 0);
        y.send(1, 2);
        Check.due("both know the blocked edit", y.agree(1, 2), 1);
    }
}
