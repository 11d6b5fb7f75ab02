import java.util.Random;

/** Promises 1 to 49: long runs of calls, each answer of the class compared with that of the model. */
public final class RandomRunsTest {
    private static final int RUNS = 1000;
    /** What an object is promised to answer; a run ends before a step that could go beyond. */
    private static final int CALLS = 512;
    private static final int LONGEST_STEP = 40;
    /** How often the steps are taken, in the order of the method step. */
    private static final int[] USUAL = {30, 14, 12, 3, 5, 8, 8, 8, 12};
    private static final int[] LENGTHY = {40, 20, 20, 5, 2, 3, 1, 1, 1};
    private static final String SIGNS = "0123456789+ rpwex";

    private final CalendarReplicas x = new CalendarReplicas();
    private final Model m = new Model();
    private final Random random;
    /** A narrow run uses few slots, rooms and persons, so that edits often stand in each other's way. */
    private final boolean narrow;
    /** A long run asks less between the edits, so that it comes to full calendars with the calls that it has. */
    private final boolean lengthy;
    private final String name;

    private RandomRunsTest(int run) {
        random = new Random(run);
        narrow = run % 3 != 0;
        lengthy = run % 4 != 0;
        name = "run " + run + ", call ";
    }

    public static void main(String[] args) {
        for (int run = 0; run < RUNS && !Check.hasFailed(); run++) {
            new RandomRunsTest(run).run();
        }
        Check.end();
    }

    private void run() {
        int before = Check.calls();
        for (int i = 0; i < 6; i++) {
            setRule(name + i + ": ");
        }
        for (int step = 6; Check.calls() - before <= CALLS - LONGEST_STEP && !Check.hasFailed(); step++) {
            String at = name + (Check.calls() - before) + ": ";
            if (m.edits() == 12 && below(12) == 0) {
                compact(at);
            } else {
                step(at);
            }
            if (step % 10 == 0) {
                Check.due(at + "checksum()", x.checksum(), m.checksum());
            }
        }
        Check.isTrue(name + "the last one: " + (Check.calls() - before), Check.calls() - before <= CALLS);
    }

    private void step(String at) {
        switch (any(lengthy ? LENGTHY : USUAL)) {
            case 0 -> makeEdit(at);
            case 1 -> exchange(at);
            case 2 -> explain(at);
            case 3 -> useSlot(at);
            case 4 -> setRule(at);
            case 5 -> findTime(at);
            case 6 -> askMeeting(at);
            case 7 -> askEdit(at);
            default -> write(at);
        }
    }

    /** An index of the row, the higher the number there is, the more often. */
    private int any(int[] row) {
        int sum = 0;
        for (int number : row) {
            sum += number;
        }
        int rest = below(sum);
        int index = 0;
        while (rest >= row[index]) {
            rest -= row[index];
            index++;
        }
        return index;
    }

    private int below(int bound) {
        return random.nextInt(bound);
    }

    private boolean rarely() {
        return below(40) == 0;
    }

    private int wild() {
        int[] values = {-1, -2, 7, 9, 12, 64, 95, 96, 97, 100, 1000, Integer.MAX_VALUE, Integer.MIN_VALUE};
        return values[below(values.length)];
    }

    private int between(int low, int high) {
        return rarely() ? below(2) == 0 ? low - 1 : wild() : low + below(high - low + 1);
    }

    private int replica() {
        return rarely() ? wild() : below(3);
    }

    private int start() {
        return between(0, narrow ? 14 : 95);
    }

    private int duration() {
        return between(1, narrow ? 4 : 8);
    }

    private int room() {
        return between(0, narrow ? 1 : 3);
    }

    private int person() {
        return between(0, narrow ? 2 : 5);
    }

    private int persons() {
        return rarely() ? between(0, 64) : below(3) == 0 ? 1 << person() : 1 + below(narrow ? 7 : 63);
    }

    private int meeting(int replica) {
        int count = m.meetings(replica);
        return count <= 0 || rarely() ? between(0, 20) : m.meetingAt(replica, below(count));
    }

    private int edit() {
        int count = m.edits();
        return count == 0 || rarely() ? between(0, 30) : m.editAt(below(count));
    }

    /** Half the time an edit that is blocked or rejected there, if there is one. */
    private int editOf(int replica) {
        int first = below(12);
        for (int i = 0; i < 12 && below(16) != 0; i++) {
            int edit = m.editAt((first + i) % 12);
            if (m.state(replica, edit) == 1 || m.state(replica, edit) == 2) {
                return edit;
            }
        }
        return edit();
    }

    private void setRule(String at) {
        int from = between(0, 96);
        int to = from + below(narrow ? 4 : 12);
        switch (below(5)) {
            case 0 -> {
                int room = room();
                int capacity = between(1, 6);
                Check.due(at + "setRoom(" + room + ", " + capacity + ", " + from + ", " + to + ")",
                        x.setRoom(room, capacity, from, to), m.setRoom(room, capacity, from, to));
            }
            case 1 -> {
                int person = person();
                Check.due(at + "setAbsence(" + person + ", " + from + ", " + to + ")",
                        x.setAbsence(person, from, to), m.setAbsence(person, from, to));
            }
            case 2 -> Check.due(at + "clearOrders()", x.clearOrders(), m.clearOrders());
            default -> {
                int first = meeting(0);
                int second = meeting(1);
                Check.due(at + "addOrder(" + first + ", " + second + ")",
                        x.addOrder(first, second), m.addOrder(first, second));
            }
        }
    }

    private void makeEdit(String at) {
        int r = replica();
        int weight = between(1, 9);
        int meeting = meeting(r);
        String head = "(" + r + ", " + meeting + ", ";
        switch (below(10)) {
            case 0 -> {
                int v = start();
                Check.due(at + "move" + head + v + ", " + weight + ")", x.move(r, meeting, v, weight),
                        m.change(r, Model.MOVE, meeting, v, 0, 95, weight));
            }
            case 1 -> {
                int v = room();
                Check.due(at + "changeRoom" + head + v + ", " + weight + ")", x.changeRoom(r, meeting, v, weight),
                        m.change(r, Model.ROOM, meeting, v, 0, 3, weight));
            }
            case 2 -> {
                int v = duration();
                Check.due(at + "resize" + head + v + ", " + weight + ")", x.resize(r, meeting, v, weight),
                        m.change(r, Model.DURATION, meeting, v, 1, 8, weight));
            }
            case 3 -> {
                int v = person();
                Check.due(at + "join" + head + v + ", " + weight + ")", x.join(r, meeting, v, weight),
                        m.change(r, Model.JOIN, meeting, v, 0, 5, weight));
            }
            case 4 -> {
                int v = person();
                Check.due(at + "leave" + head + v + ", " + weight + ")", x.leave(r, meeting, v, weight),
                        m.change(r, Model.LEAVE, meeting, v, 0, 5, weight));
            }
            case 5 -> Check.due(at + "cancel" + head + weight + ")", x.cancel(r, meeting, weight),
                    m.change(r, Model.CANCEL, meeting, 0, 0, 0, weight));
            default -> {
                int s = start();
                int d = duration();
                int room = room();
                int p = persons();
                Check.due(at + "create(" + r + ", " + s + ", " + d + ", " + room + ", " + p + ", " + weight + ")",
                        x.create(r, s, d, room, p, weight), m.create(r, s, d, room, p, weight));
            }
        }
    }

    private void exchange(String at) {
        int from = replica();
        int to = replica();
        switch (below(6)) {
            case 0, 1 -> Check.due(at + "send(" + from + ", " + to + ")", x.send(from, to), m.send(from, to));
            case 2, 3 -> {
                int edit = edit();
                Check.due(at + "sendOne(" + from + ", " + to + ", " + edit + ")",
                        x.sendOne(from, to, edit), m.sendOne(from, to, edit));
            }
            case 4 -> Check.due(at + "agree(" + from + ", " + to + ")", x.agree(from, to), m.agree(from, to));
            default -> compact(at);
        }
    }

    private void compact(String at) {
        if (below(3) != 0) {
            int[][] ways = {{0, 1}, {1, 2}, {2, 1}, {2, 0}};
            for (int[] way : ways) {
                Check.due(at + "send(" + way[0] + ", " + way[1] + ")", x.send(way[0], way[1]), m.send(way[0], way[1]));
            }
            Check.due(at + "checksum() when all know all", x.checksum(), m.checksum());
        }
        Check.due(at + "compact()", x.compact(), m.compact());
    }

    private void askMeeting(String at) {
        int r = replica();
        int meeting = meeting(r);
        String what = at + "of meeting " + meeting + " at " + r + ": ";
        Check.due(what + "startOf", x.startOf(r, meeting), m.startOf(r, meeting));
        Check.due(what + "durationOf", x.durationOf(r, meeting), m.durationOf(r, meeting));
        Check.due(what + "roomOf", x.roomOf(r, meeting), m.roomOf(r, meeting));
        Check.due(what + "personsOf", x.personsOf(r, meeting), m.personsOf(r, meeting));
        Check.due(what + "periodOf", x.periodOf(r, meeting), m.periodOf(r, meeting));
        Check.due(what + "countOf", x.countOf(r, meeting), m.countOf(r, meeting));
        Check.due(what + "print", x.print(r, meeting), m.print(r, meeting));
        int first = below(24) - 1;
        for (int i = first; i < first + 4; i++) {
            Check.due(what + "printed(" + i + ")", x.printed(i), m.printed(i));
        }
        int index = between(0, 12);
        Check.due(at + "meetings(" + r + ")", x.meetings(r), m.meetings(r));
        Check.due(at + "meetingAt(" + r + ", " + index + ")", x.meetingAt(r, index), m.meetingAt(r, index));
        int person = person();
        Check.due(at + "busySlots(" + r + ", " + person + ")", x.busySlots(r, person), m.busySlots(r, person));
    }

    private void askEdit(String at) {
        int r = replica();
        int edit = editOf(r);
        int other = edit();
        int index = between(0, 12);
        String what = at + "of edit " + edit + " at " + r + ": ";
        Check.due(at + "edits()", x.edits(), m.edits());
        Check.due(at + "editAt(" + index + ")", x.editAt(index), m.editAt(index));
        Check.due(what + "kindOf", x.kindOf(edit), m.kindOf(edit));
        Check.due(what + "meetingOf", x.meetingOf(edit), m.meetingOf(edit));
        Check.due(what + "authorOf", x.authorOf(edit), m.authorOf(edit));
        Check.due(what + "weightOf", x.weightOf(edit), m.weightOf(edit));
        Check.due(what + "clash with " + other, x.clash(edit, other), m.clash(edit, other));
        Check.due(what + "acceptedWeight", x.acceptedWeight(r), m.acceptedWeight(r));
        Check.due(what + "rejectedWeight", x.rejectedWeight(r), m.rejectedWeight(r));
    }

    private void explain(String at) {
        int r = replica();
        int edit = editOf(r);
        String what = at + "of edit " + edit + " at " + r + ": ";
        Check.due(what + "state", x.state(r, edit), m.state(r, edit));
        Check.due(what + "obstacle", x.obstacle(r, edit), m.obstacle(r, edit));
        Check.due(what + "cost", x.cost(r, edit), m.cost(r, edit));
        Check.due(what + "alternative", x.alternative(r, edit), m.alternative(r, edit));
    }

    private void findTime(String at) {
        int r = replica();
        int duration = between(1, 8);
        int from = below(3) == 0 ? between(80, 95) : start();
        int room = room();
        int persons = persons();
        String tail = ", " + duration + ", " + from + ")";
        Check.due(at + "freeStart(" + r + ", " + room + tail,
                x.freeStart(r, room, duration, from), m.freeStart(r, room, duration, from));
        Check.due(at + "commonStart(" + r + ", " + persons + tail,
                x.commonStart(r, persons, duration, from), m.commonStart(r, persons, duration, from));
    }

    /** Types a text of the form, or one that differs from such a text in a sign, and makes a meeting of it. */
    private void write(String at) {
        StringBuilder text = new StringBuilder();
        text.append(narrow || below(4) != 0 ? below(16) : below(100)).append('+').append(1 + below(narrow ? 3 : 9));
        String left = "rpwe";
        for (int i = below(5); i > 0; i--) {
            char option = left.charAt(below(left.length()));
            left = left.replace("" + option, "");
            text.append(' ').append(option).append(value(option));
        }
        for (int i = below(3) - 1; i > 0; i--) {
            int place = below(text.length() + 1);
            if (below(2) == 0 && place < text.length()) {
                text.deleteCharAt(place);
            } else {
                text.insert(place, below(8) == 0 ? (char) (30 + below(99)) : SIGNS.charAt(below(SIGNS.length())));
            }
        }
        if (below(8) != 0) {
            Check.due(at + "clearText()", x.clearText(), m.clearText());
        }
        for (int i = 0; i < text.length(); i++) {
            Check.due(at + "append(" + (int) text.charAt(i) + ")", x.append(text.charAt(i)), m.append(text.charAt(i)));
        }
        Check.due(at + "faultPosition() of " + text, x.faultPosition(), m.faultPosition());
        int r = replica();
        Check.due(at + "createFromText(" + r + ") of " + text, x.createFromText(r), m.createFromText(r));
    }

    private String value(char option) {
        switch (option) {
            case 'r':
                return "" + below(4);
            case 'w':
                return "" + (1 + below(9));
            case 'e':
                return (below(6) == 0 ? "0" + below(10) : "" + below(narrow ? 12 : 60)) + "x" + (1 + below(4));
            default:
                StringBuilder persons = new StringBuilder();
                for (int p = 0; p < 6; p++) {
                    persons.append(below(3) == 0 ? "" + p : "");
                }
                return persons.toString();
        }
    }

    private void useSlot(String at) {
        int slot = between(0, 1);
        if (below(2) == 0) {
            Check.due(at + "keep(" + slot + ")", x.keep(slot), m.keep(slot));
        } else {
            Check.due(at + "restore(" + slot + ")", x.restore(slot), m.restore(slot));
        }
    }
}
