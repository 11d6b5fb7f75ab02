/** Promises 25 to 35. */
public final class EditsAsTheyAreTest {
    private static final int BAD = CalendarReplicas.BAD_VALUE;
    private static final int UNKNOWN = CalendarReplicas.UNKNOWN;
    private static final int BLOCKED = CalendarReplicas.BLOCKED;
    private static final int REJECTED = CalendarReplicas.REJECTED;
    private static final int ACCEPTED = CalendarReplicas.ACCEPTED;

    public static void main(String[] args) {
        outOfRange();
        countAndIndices();
        whatAnEditIs();
        clashOfTheSameKind();
        clashOfPersons();
        clashWithCancel();
        noClashWhenItFollows();
        states();
        nothingWithoutTheCreate();
        oneMoreWeightWins();
        lowerEditsWinEvenSums();
        manySmallOnesWin();
        moveThatMakesTwoFit();
        agree();
        Check.end();
    }

    private static void outOfRange() {
        CalendarReplicas x = new CalendarReplicas();
        x.create(0, 0, 1, 0, 1, 1);
        x.create(0, 1, 1, 0, 1, 1);
        for (int edit : new int[] {-1, 2, 12, Integer.MAX_VALUE, Integer.MIN_VALUE}) {
            Check.due("editAt(" + edit + ")", x.editAt(edit), BAD);
            Check.due("kindOf(" + edit + ")", x.kindOf(edit), BAD);
            Check.due("meetingOf(" + edit + ")", x.meetingOf(edit), BAD);
            Check.due("authorOf(" + edit + ")", x.authorOf(edit), BAD);
            Check.due("weightOf(" + edit + ")", x.weightOf(edit), BAD);
            Check.due("clash(0, " + edit + ")", x.clash(0, edit), BAD);
            Check.due("clash(" + edit + ", 1)", x.clash(edit, 1), BAD);
            Check.due("state(0, " + edit + ")", x.state(0, edit), BAD);
        }
        Check.due("clash(0, 0)", x.clash(0, 0), BAD);
        for (int replica : new int[] {-1, 3, Integer.MAX_VALUE, Integer.MIN_VALUE}) {
            Check.due("state(" + replica + ", 0)", x.state(replica, 0), BAD);
            Check.due("acceptedWeight(" + replica + ")", x.acceptedWeight(replica), BAD);
            Check.due("rejectedWeight(" + replica + ")", x.rejectedWeight(replica), BAD);
            Check.due("agree(0, " + replica + ")", x.agree(0, replica), BAD);
            Check.due("agree(" + replica + ", 0)", x.agree(replica, 0), BAD);
        }
        Check.due("agree(1, 1)", x.agree(1, 1), BAD);
    }

    private static void countAndIndices() {
        CalendarReplicas x = new CalendarReplicas();
        Check.due("editAt(0) of none", x.editAt(0), BAD);
        x.create(0, 0, 1, 0, 1, 1);
        x.create(1, 1, 1, 0, 1, 1);
        Check.due("edits of all replicas", x.edits(), 2);
        x.send(0, 1);
        x.send(1, 0);
        x.send(1, 2);
        x.compact();
        Check.due("edits after compact", x.edits(), 0);
        x.move(2, 1, 9, 3);
        x.move(0, 0, 8, 4);
        Check.due("edits since compact", x.edits(), 2);
        Check.due("editAt(0)", x.editAt(0), 2);
        Check.due("editAt(1)", x.editAt(1), 3);
        Check.due("editAt(2)", x.editAt(2), BAD);
        x.move(0, 0, 95, 4);
        x.resize(0, 0, 2, 4);
        Check.due("a refused edit does not count", x.edits(), 3);
        Check.due("editAt(2)", x.editAt(2), 4);
        Check.due("editAt(3)", x.editAt(3), BAD);
        x.send(0, 2);
        x.compact();
        Check.due("a refused compact takes none away", x.edits(), 3);
    }

    private static void whatAnEditIs() {
        CalendarReplicas x = new CalendarReplicas();
        x.create(2, 0, 1, 0, 1, 1);
        x.send(2, 1);
        x.move(1, 0, 5, 2);
        x.changeRoom(1, 0, 1, 3);
        x.resize(1, 0, 2, 4);
        x.join(1, 0, 1, 5);
        x.leave(1, 0, 0, 6);
        x.cancel(1, 0, 7);
        for (int edit = 0; edit < 7; edit++) {
            Check.due("kindOf(" + edit + ")", x.kindOf(edit), edit);
            Check.due("meetingOf(" + edit + ")", x.meetingOf(edit), 0);
            Check.due("authorOf(" + edit + ")", x.authorOf(edit), edit == 0 ? 2 : 1);
            Check.due("weightOf(" + edit + ")", x.weightOf(edit), edit + 1);
        }
        x.create(0, 0, 1, 0, 1, 9);
        Check.due("the meeting of a create", x.meetingOf(7), 7);
    }

    /** Meetings 0 and 1, which all replicas know, as edits. */
    private static CalendarReplicas shared() {
        CalendarReplicas x = new CalendarReplicas();
        x.create(0, 0, 1, 0, 1, 1);
        x.create(0, 10, 1, 1, 2, 1);
        x.send(0, 1);
        x.send(0, 2);
        return x;
    }

    private static void clashBoth(CalendarReplicas x, int edit, int other, int want) {
        Check.due("clash(" + edit + ", " + other + ")", x.clash(edit, other), want);
        Check.due("clash(" + other + ", " + edit + ")", x.clash(other, edit), want);
    }

    private static void clashOfTheSameKind() {
        CalendarReplicas x = shared();
        x.move(0, 0, 5, 1);
        x.changeRoom(0, 0, 2, 1);
        x.resize(0, 0, 2, 1);
        x.move(1, 0, 5, 1);
        x.changeRoom(1, 0, 2, 1);
        x.resize(1, 0, 2, 1);
        x.move(2, 1, 20, 1);
        clashBoth(x, 2, 5, 1);
        clashBoth(x, 3, 6, 1);
        clashBoth(x, 4, 7, 1);
        clashBoth(x, 2, 6, 0);
        clashBoth(x, 2, 7, 0);
        clashBoth(x, 3, 7, 0);
        clashBoth(x, 2, 8, 0);
        clashBoth(x, 0, 1, 0);
        clashBoth(x, 0, 2, 0);
        x.send(0, 1);
        Check.due("the lower ones of even weights", x.state(1, 2) + x.state(1, 3) + x.state(1, 4), 3 * ACCEPTED);
        Check.due("the higher ones", x.state(1, 5) + x.state(1, 6) + x.state(1, 7), 3 * REJECTED);
    }

    private static void clashOfPersons() {
        CalendarReplicas x = shared();
        x.join(0, 0, 2, 1);
        x.join(0, 0, 3, 1);
        x.leave(0, 0, 4, 1);
        x.join(1, 0, 2, 1);
        x.leave(1, 0, 3, 1);
        x.leave(1, 0, 4, 1);
        x.join(2, 1, 2, 1);
        clashBoth(x, 2, 5, 1);
        clashBoth(x, 3, 6, 1);
        clashBoth(x, 4, 7, 1);
        clashBoth(x, 2, 6, 0);
        clashBoth(x, 3, 5, 0);
        clashBoth(x, 2, 8, 0);
    }

    private static void clashWithCancel() {
        CalendarReplicas x = shared();
        x.move(0, 0, 5, 1);
        x.cancel(1, 0, 1);
        x.join(2, 0, 3, 1);
        x.cancel(2, 0, 1);
        x.cancel(2, 1, 1);
        clashBoth(x, 2, 3, 1);
        clashBoth(x, 3, 4, 1);
        clashBoth(x, 3, 5, 1);
        clashBoth(x, 4, 5, 0);
        clashBoth(x, 0, 3, 0);
        clashBoth(x, 3, 6, 0);
        clashBoth(x, 2, 4, 0);
        x.send(0, 2);
        clashBoth(x, 2, 5, 1);
    }

    private static void noClashWhenItFollows() {
        CalendarReplicas x = shared();
        x.move(0, 0, 5, 1);
        x.move(0, 0, 6, 1);
        clashBoth(x, 2, 3, 0);
        x.send(0, 1);
        x.move(1, 0, 7, 1);
        clashBoth(x, 3, 4, 0);
        x.cancel(1, 0, 1);
        clashBoth(x, 4, 5, 0);
        clashBoth(x, 2, 5, 0);
        CalendarReplicas y = shared();
        y.cancel(0, 0, 1);
        y.resize(1, 0, 2, 1);
        y.move(1, 0, 3, 1);
        y.send(0, 1);
        Check.due("the cancel is rejected here", y.state(1, 2), REJECTED);
        y.join(1, 0, 5, 1);
        clashBoth(y, 2, 5, 1);
    }

    private static void states() {
        CalendarReplicas x = new CalendarReplicas();
        x.create(0, 0, 2, 0, 1, 3);
        x.move(0, 0, 4, 2);
        Check.due("not known", x.state(1, 0), UNKNOWN);
        x.sendOne(0, 1, 1);
        Check.due("blocked", x.state(1, 1), BLOCKED);
        Check.due("its create is not known", x.state(1, 0), UNKNOWN);
        Check.due("accepted by its author", x.state(0, 1), ACCEPTED);
        x.create(1, 0, 1, 1, 1, 9);
        x.create(1, 4, 1, 1, 1, 9);
        x.send(0, 1);
        Check.due("rejected", x.state(1, 0), REJECTED);
        Check.due("and what needs it", x.state(1, 1), REJECTED);
        Check.due("acceptedWeight", x.acceptedWeight(1), 18);
        Check.due("rejectedWeight", x.rejectedWeight(1), 5);
        Check.due("acceptedWeight of the other", x.acceptedWeight(0), 5);
        Check.due("rejectedWeight of the other", x.rejectedWeight(0), 0);
        x.sendOne(1, 2, 1);
        Check.due("a blocked edit is not rejected", x.rejectedWeight(2), 0);
        Check.due("a blocked edit is not accepted", x.acceptedWeight(2), 0);
    }

    /** The joins weigh much, and would stand in nobody's way if their meeting were not needed. */
    private static void nothingWithoutTheCreate() {
        CalendarReplicas x = new CalendarReplicas();
        x.create(0, 0, 2, 0, 1, 1);
        x.join(0, 0, 1, 9);
        x.join(0, 0, 2, 9);
        x.create(1, 0, 1, 0, 8, 9);
        x.create(1, 1, 1, 0, 8, 9);
        x.create(1, 0, 1, 1, 2, 9);
        x.send(0, 1);
        Check.due("the create", x.state(1, 0), REJECTED);
        Check.due("a join", x.state(1, 1), REJECTED);
        Check.due("another join", x.state(1, 2), REJECTED);
        Check.due("acceptedWeight", x.acceptedWeight(1), 27);
        Check.due("rejectedWeight", x.rejectedWeight(1), 19);
    }

    private static void oneMoreWeightWins() {
        CalendarReplicas x = new CalendarReplicas();
        x.create(0, 0, 2, 0, 1, 4);
        x.create(1, 1, 2, 0, 2, 5);
        x.send(0, 1);
        x.send(1, 0);
        Check.due("the lighter one", x.state(0, 0), REJECTED);
        Check.due("the heavier one", x.state(0, 1), ACCEPTED);
        Check.due("the same at the other replica", x.state(1, 0), REJECTED);
    }

    /** {0, 3} and {1, 2} weigh 6 each, and each of 0 and 3 is in the way of each of 1 and 2. */
    private static void lowerEditsWinEvenSums() {
        CalendarReplicas x = new CalendarReplicas();
        x.create(0, 0, 2, 0, 1, 3);
        x.create(1, 0, 4, 0, 2, 3);
        x.create(1, 2, 2, 1, 8, 3);
        x.create(0, 2, 2, 0, 8, 3);
        x.send(0, 1);
        Check.due("state of 0", x.state(1, 0), ACCEPTED);
        Check.due("state of 1", x.state(1, 1), REJECTED);
        Check.due("state of 2", x.state(1, 2), ACCEPTED);
        Check.due("state of 3", x.state(1, 3), REJECTED);
        CalendarReplicas y = new CalendarReplicas();
        y.create(0, 0, 2, 0, 1, 6);
        y.create(1, 0, 1, 0, 2, 3);
        y.create(1, 1, 1, 0, 2, 3);
        y.send(0, 1);
        Check.due("one of 6 against two of 3", y.state(1, 0), ACCEPTED);
        CalendarReplicas z = new CalendarReplicas();
        z.create(1, 0, 1, 0, 2, 3);
        z.create(0, 0, 2, 0, 1, 6);
        z.create(1, 1, 1, 0, 2, 3);
        z.send(0, 1);
        Check.due("two of 3, the first one lower", z.state(1, 1), REJECTED);
    }

    private static void manySmallOnesWin() {
        CalendarReplicas x = new CalendarReplicas();
        x.create(0, 0, 8, 0, 1, 9);
        for (int i = 0; i < 4; i++) {
            x.create(1, 2 * i, 2, 0, 2, i == 0 ? 1 : 3);
        }
        x.send(1, 0);
        Check.due("the heavy one is out", x.state(0, 0), REJECTED);
        Check.due("the small ones are in", x.acceptedWeight(0), 10);
    }

    /** The meetings overlap; only the set with the move, which comes after both, has both of them. */
    private static void moveThatMakesTwoFit() {
        CalendarReplicas x = new CalendarReplicas();
        x.create(0, 0, 2, 0, 1, 1);
        x.create(1, 0, 2, 0, 2, 1);
        x.send(0, 2);
        x.move(2, 0, 50, 1);
        x.send(1, 2);
        Check.due("all three", x.acceptedWeight(2), 3);
        Check.due("both meetings", x.meetings(2), 2);
    }

    private static void agree() {
        CalendarReplicas x = new CalendarReplicas();
        Check.due("at first", x.agree(0, 2), 1);
        x.create(0, 0, 1, 0, 1, 1);
        x.create(1, 1, 1, 0, 1, 1);
        Check.due("one edit each", x.agree(0, 1), 0);
        x.send(0, 1);
        Check.due("one knows more", x.agree(0, 1), 0);
        Check.due("one knows more", x.agree(1, 0), 0);
        x.send(1, 0);
        Check.due("the same edits", x.agree(0, 1), 1);
        Check.due("not the third", x.agree(1, 2), 0);
    }
}
