import java.util.ArrayList;
import java.util.HashSet;
import java.util.List;
import java.util.Set;
import java.util.TreeMap;
import java.util.TreeSet;

/**
 * What the document says, written as directly as possible, to compare the class with: every set of edits is tried,
 * and slots are sets of numbers. Only the accepted sets are remembered from one change to the next one.
 */
final class Model {
    static final int BAD_VALUE = -1, FULL = -2, NOT_POSSIBLE = -3, NONE = -4;
    static final int CREATE = 0, MOVE = 1, ROOM = 2, DURATION = 3, JOIN = 4, LEAVE = 5, CANCEL = 6;

    record Meeting(int number, int start, int duration, int room, int persons, int period, int count) {
        List<Integer> slots() {
            List<Integer> slots = new ArrayList<>();
            for (int k = 0; k < count; k++) {
                for (int s = start + k * period; s <= start + k * period + duration - 1; s++) {
                    slots.add(s);
                }
            }
            return slots;
        }

        boolean has(int person) {
            return (persons & (1 << person)) != 0;
        }
    }

    record Edit(int number, int author, int weight, int kind, int meeting, int value, Meeting created,
            Set<Integer> follows) {
    }

    record Range(int from, int to) {
        boolean has(int slot) {
            return slot >= from && slot < to;
        }
    }

    record Order(int first, int second) {
    }

    static final class State {
        int[] capacity = {6, 6, 6, 6};
        Range[] closed = {new Range(0, 0), new Range(0, 0), new Range(0, 0), new Range(0, 0)};
        Range[] absent = {new Range(0, 0), new Range(0, 0), new Range(0, 0), new Range(0, 0), new Range(0, 0),
            new Range(0, 0)};
        List<Order> orders = new ArrayList<>();
        TreeMap<Integer, Meeting> base = new TreeMap<>();
        TreeMap<Integer, Edit> edits = new TreeMap<>();
        int next = 0;
        List<TreeSet<Integer>> known = List.of(new TreeSet<>(), new TreeSet<>(), new TreeSet<>());

        State copy() {
            State copy = new State();
            copy.capacity = capacity.clone();
            copy.closed = closed.clone();
            copy.absent = absent.clone();
            copy.orders = new ArrayList<>(orders);
            copy.base = new TreeMap<>(base);
            copy.edits = new TreeMap<>(edits);
            copy.next = next;
            copy.known = List.of(new TreeSet<>(known.get(0)), new TreeSet<>(known.get(1)), new TreeSet<>(known.get(2)));
            return copy;
        }
    }

    private State now = new State();
    private final List<List<Edit>> remembered = new ArrayList<>();
    private final State[] kept = new State[2];
    private String text = "";
    private String page = "";

    // ---- validity, admissible sets, merging

    private boolean isValid(TreeMap<Integer, Meeting> calendar) {
        Set<String> taken = new HashSet<>();
        for (Meeting m : calendar.values()) {
            if (m.count() > 1 && m.period() < m.duration()) {
                return false;
            }
            int persons = Integer.bitCount(m.persons());
            if (persons == 0 || persons > now.capacity[m.room()]) {
                return false;
            }
            for (int slot : m.slots()) {
                if (slot < 0 || slot > 95 || now.closed[m.room()].has(slot) || !taken.add("r" + m.room() + "," + slot)) {
                    return false;
                }
                for (int p = 0; p < 6; p++) {
                    if (m.has(p) && (now.absent[p].has(slot) || !taken.add("p" + p + "," + slot))) {
                        return false;
                    }
                }
            }
        }
        for (Order o : now.orders) {
            Meeting first = calendar.get(o.first());
            Meeting second = calendar.get(o.second());
            if (first != null && second != null) {
                int last = first.slots().stream().max(Integer::compare).get();
                int begin = second.slots().stream().min(Integer::compare).get();
                if (last >= begin) {
                    return false;
                }
            }
        }
        return true;
    }

    private boolean clashing(Edit a, Edit b) {
        Edit low = a.number() < b.number() ? a : b;
        Edit high = a.number() < b.number() ? b : a;
        if (low.meeting() != high.meeting()) {
            return false;
        }
        if (low.kind() == CANCEL) {
            return true;
        }
        if (high.follows().contains(low.number())) {
            return false;
        }
        boolean persons = (low.kind() == JOIN || low.kind() == LEAVE) && (high.kind() == JOIN || high.kind() == LEAVE)
                && low.value() == high.value();
        boolean same = low.kind() == high.kind() && (low.kind() == MOVE || low.kind() == ROOM || low.kind() == DURATION);
        return high.kind() == CANCEL || same || persons;
    }

    private TreeMap<Integer, Meeting> result(List<Edit> set) {
        TreeMap<Integer, Meeting> calendar = new TreeMap<>(now.base);
        for (Edit e : set) {
            Meeting m = calendar.get(e.meeting());
            if (e.kind() == CREATE) {
                calendar.put(e.number(), e.created());
            } else if (e.kind() == CANCEL) {
                calendar.remove(e.meeting());
            } else if (m != null) {
                calendar.put(e.meeting(), changed(m, e));
            }
        }
        return calendar;
    }

    private static Meeting changed(Meeting m, Edit e) {
        int v = e.value();
        return switch (e.kind()) {
            case MOVE -> new Meeting(m.number(), v, m.duration(), m.room(), m.persons(), m.period(), m.count());
            case ROOM -> new Meeting(m.number(), m.start(), m.duration(), v, m.persons(), m.period(), m.count());
            case DURATION -> new Meeting(m.number(), m.start(), v, m.room(), m.persons(), m.period(), m.count());
            case JOIN -> new Meeting(m.number(), m.start(), m.duration(), m.room(), m.persons() | 1 << v, m.period(),
                    m.count());
            default -> new Meeting(m.number(), m.start(), m.duration(), m.room(), m.persons() & ~(1 << v), m.period(),
                    m.count());
        };
    }

    private boolean isAdmissible(List<Edit> set) {
        Set<Integer> creates = new HashSet<>();
        for (Edit e : set) {
            if (e.kind() == CREATE) {
                creates.add(e.number());
            }
        }
        for (Edit e : set) {
            if (!now.base.containsKey(e.meeting()) && !creates.contains(e.meeting())) {
                return false;
            }
            for (Edit f : set) {
                if (e.number() < f.number() && clashing(e, f)) {
                    return false;
                }
            }
        }
        return isValid(result(set));
    }

    private static int weigh(List<Edit> set) {
        return set.stream().mapToInt(Edit::weight).sum();
    }

    /** The accepted one of the admissible sets among these edits, or, if one is required, of those that contain it. */
    private List<Edit> best(List<Edit> among, Edit required) {
        List<Edit> best = null;
        int bestMask = 0;
        for (int mask = 0; mask < 1 << among.size(); mask++) {
            List<Edit> set = new ArrayList<>();
            for (int i = 0; i < among.size(); i++) {
                if ((mask & (1 << i)) != 0) {
                    set.add(among.get(i));
                }
            }
            if (required != null && !set.contains(required)) {
                continue;
            }
            int lead = best == null ? 1 : weigh(set) - weigh(best);
            if (lead == 0) {
                int lowest = Integer.lowestOneBit(mask ^ bestMask);
                lead = (mask & lowest) != 0 ? 1 : -1;
            }
            if (lead > 0 && isAdmissible(set)) {
                best = set;
                bestMask = mask;
            }
        }
        return best;
    }

    private List<Edit> knownEdits(int replica) {
        List<Edit> edits = new ArrayList<>();
        for (int number : now.known.get(replica)) {
            edits.add(now.edits.get(number));
        }
        return edits;
    }

    private List<Edit> accepted(int replica) {
        if (remembered.isEmpty()) {
            for (int r = 0; r < 3; r++) {
                remembered.add(best(knownEdits(r), null));
            }
        }
        return remembered.get(replica);
    }

    private TreeMap<Integer, Meeting> calendar(int replica) {
        return result(accepted(replica));
    }

    private static boolean in(int value, int low, int high) {
        return low <= value && value <= high;
    }

    private static boolean replica(int value) {
        return in(value, 0, 2);
    }

    private Meeting meeting(int replica, int meeting) {
        return replica(replica) ? calendar(replica).get(meeting) : null;
    }

    // ---- rooms, persons, orders

    int setRoom(int room, int capacity, int from, int to) {
        if (!in(room, 0, 3) || !in(capacity, 1, 6) || !in(from, 0, 96) || !in(to, from, 96)) {
            return BAD_VALUE;
        }
        if (!now.base.isEmpty() || !now.edits.isEmpty()) {
            return NOT_POSSIBLE;
        }
        int previous = now.capacity[room];
        remembered.clear();
        now.capacity[room] = capacity;
        now.closed[room] = new Range(from, to);
        return previous;
    }

    int setAbsence(int person, int from, int to) {
        if (!in(person, 0, 5) || !in(from, 0, 96) || !in(to, from, 96)) {
            return BAD_VALUE;
        }
        if (!now.base.isEmpty() || !now.edits.isEmpty()) {
            return NOT_POSSIBLE;
        }
        Range previous = now.absent[person];
        remembered.clear();
        now.absent[person] = new Range(from, to);
        return previous.to() - previous.from();
    }

    int addOrder(int first, int second) {
        if (first < 0 || second < 0 || first == second) {
            return BAD_VALUE;
        }
        if (now.orders.size() == 4) {
            return FULL;
        }
        now.orders.add(new Order(first, second));
        if (!isValid(now.base)) {
            now.orders.remove(now.orders.size() - 1);
            return NOT_POSSIBLE;
        }
        remembered.clear();
        return now.orders.size();
    }

    int clearOrders() {
        remembered.clear();
        int previous = now.orders.size();
        now.orders.clear();
        return previous;
    }

    // ---- edits

    int create(int replica, int start, int duration, int room, int persons, int weight) {
        if (!replica(replica) || !in(start, 0, 95) || !in(duration, 1, 8) || !in(room, 0, 3) || !in(persons, 1, 63)
                || !in(weight, 1, 9)) {
            return BAD_VALUE;
        }
        return make(replica, CREATE, now.next, 0, weight,
                new Meeting(now.next, start, duration, room, persons, 0, 1));
    }

    int createFromText(int replica) {
        if (!replica(replica) || faultPosition() != NONE) {
            return BAD_VALUE;
        }
        int[] v = {0, 0, 0, 1, 1, 0, 1};
        for (String part : text.split(" ")) {
            String rest = part.substring(1);
            switch (part.charAt(0)) {
                case 'r' -> v[2] = Integer.parseInt(rest);
                case 'p' -> v[3] = rest.chars().map(c -> 1 << (c - '0')).sum();
                case 'w' -> v[4] = Integer.parseInt(rest);
                case 'e' -> {
                    v[5] = Integer.parseInt(rest.split("x")[0]);
                    v[6] = Integer.parseInt(rest.split("x")[1]);
                }
                default -> {
                    v[0] = Integer.parseInt(part.split("\\+")[0]);
                    v[1] = Integer.parseInt(part.split("\\+")[1]);
                }
            }
        }
        if (v[0] > 95 || !in(v[1], 1, 8) || v[5] > 48) {
            return BAD_VALUE;
        }
        return make(replica, CREATE, now.next, 0, v[4], new Meeting(now.next, v[0], v[1], v[2], v[3], v[5], v[6]));
    }

    int change(int replica, int kind, int meeting, int value, int low, int high, int weight) {
        if (meeting(replica, meeting) == null || !in(value, low, high) || !in(weight, 1, 9)) {
            return BAD_VALUE;
        }
        return make(replica, kind, meeting, value, weight, null);
    }

    private int make(int replica, int kind, int meeting, int value, int weight, Meeting created) {
        if (now.edits.size() == 12) {
            return FULL;
        }
        List<Edit> before = accepted(replica);
        List<Edit> known = knownEdits(replica);
        Edit edit = new Edit(now.next, replica, weight, kind, meeting, value, created,
                new TreeSet<>(now.known.get(replica)));
        known.add(edit);
        List<Edit> want = new ArrayList<>(before);
        want.add(edit);
        if (!best(known, null).equals(want)) {
            return NOT_POSSIBLE;
        }
        remembered.clear();
        now.edits.put(edit.number(), edit);
        now.known.get(replica).add(edit.number());
        now.next++;
        return edit.number();
    }

    // ---- exchange

    int send(int from, int to) {
        if (!replica(from) || !replica(to) || from == to) {
            return BAD_VALUE;
        }
        remembered.clear();
        int before = now.known.get(to).size();
        now.known.get(to).addAll(now.known.get(from));
        return now.known.get(to).size() - before;
    }

    int sendOne(int from, int to, int edit) {
        if (!replica(from) || !replica(to) || from == to || !now.known.get(from).contains(edit)) {
            return BAD_VALUE;
        }
        remembered.clear();
        return now.known.get(to).add(edit) ? 1 : 0;
    }

    int compact() {
        for (int r = 0; r < 3; r++) {
            if (now.known.get(r).size() < now.edits.size()) {
                return NOT_POSSIBLE;
            }
        }
        TreeMap<Integer, Meeting> calendar = calendar(0);
        if (calendar.size() > 12) {
            return FULL;
        }
        remembered.clear();
        now.base = calendar;
        now.edits.clear();
        now.known.forEach(TreeSet::clear);
        return calendar.size();
    }

    // ---- calendars

    int meetings(int replica) {
        return replica(replica) ? calendar(replica).size() : BAD_VALUE;
    }

    int meetingAt(int replica, int index) {
        if (!replica(replica) || !in(index, 0, meetings(replica) - 1)) {
            return BAD_VALUE;
        }
        return new ArrayList<>(calendar(replica).keySet()).get(index);
    }

    int startOf(int replica, int meeting) {
        Meeting m = meeting(replica, meeting);
        return m == null ? BAD_VALUE : m.start();
    }

    int durationOf(int replica, int meeting) {
        Meeting m = meeting(replica, meeting);
        return m == null ? BAD_VALUE : m.duration();
    }

    int roomOf(int replica, int meeting) {
        Meeting m = meeting(replica, meeting);
        return m == null ? BAD_VALUE : m.room();
    }

    int personsOf(int replica, int meeting) {
        Meeting m = meeting(replica, meeting);
        return m == null ? BAD_VALUE : m.persons();
    }

    int periodOf(int replica, int meeting) {
        Meeting m = meeting(replica, meeting);
        return m == null ? BAD_VALUE : m.period();
    }

    int countOf(int replica, int meeting) {
        Meeting m = meeting(replica, meeting);
        return m == null ? BAD_VALUE : m.count();
    }

    // ---- edits as they are

    int edits() {
        return now.edits.size();
    }

    int editAt(int index) {
        return in(index, 0, now.edits.size() - 1) ? new ArrayList<>(now.edits.keySet()).get(index) : BAD_VALUE;
    }

    int kindOf(int edit) {
        return now.edits.containsKey(edit) ? now.edits.get(edit).kind() : BAD_VALUE;
    }

    int meetingOf(int edit) {
        return now.edits.containsKey(edit) ? now.edits.get(edit).meeting() : BAD_VALUE;
    }

    int authorOf(int edit) {
        return now.edits.containsKey(edit) ? now.edits.get(edit).author() : BAD_VALUE;
    }

    int weightOf(int edit) {
        return now.edits.containsKey(edit) ? now.edits.get(edit).weight() : BAD_VALUE;
    }

    int clash(int edit, int other) {
        if (!now.edits.containsKey(edit) || !now.edits.containsKey(other) || edit == other) {
            return BAD_VALUE;
        }
        return clashing(now.edits.get(edit), now.edits.get(other)) ? 1 : 0;
    }

    int state(int replica, int edit) {
        if (!replica(replica) || !now.edits.containsKey(edit)) {
            return BAD_VALUE;
        }
        if (!now.known.get(replica).contains(edit)) {
            return 0;
        }
        if (isBlocked(replica, now.edits.get(edit))) {
            return 1;
        }
        return accepted(replica).contains(now.edits.get(edit)) ? 3 : 2;
    }

    private boolean isBlocked(int replica, Edit edit) {
        return !now.base.containsKey(edit.meeting()) && !now.known.get(replica).contains(edit.meeting());
    }

    int acceptedWeight(int replica) {
        return replica(replica) ? weigh(accepted(replica)) : BAD_VALUE;
    }

    int rejectedWeight(int replica) {
        if (!replica(replica)) {
            return BAD_VALUE;
        }
        List<Edit> rejected = knownEdits(replica);
        rejected.removeIf(e -> isBlocked(replica, e));
        rejected.removeAll(accepted(replica));
        return weigh(rejected);
    }

    int agree(int replica, int other) {
        if (!replica(replica) || !replica(other) || replica == other) {
            return BAD_VALUE;
        }
        return now.known.get(replica).equals(now.known.get(other)) ? 1 : 0;
    }

    // ---- explanations

    private static List<Edit> with(List<Edit> set, Edit added) {
        TreeMap<Integer, Edit> sorted = new TreeMap<>();
        set.forEach(e -> sorted.put(e.number(), e));
        sorted.put(added.number(), added);
        return new ArrayList<>(sorted.values());
    }

    int obstacle(int replica, int edit) {
        if (state(replica, edit) == BAD_VALUE) {
            return BAD_VALUE;
        }
        if (state(replica, edit) != 2) {
            return NOT_POSSIBLE;
        }
        List<Edit> accepted = accepted(replica);
        for (Edit without : accepted) {
            List<Edit> rest = new ArrayList<>(accepted);
            rest.remove(without);
            if (isAdmissible(with(rest, now.edits.get(edit)))) {
                return without.number();
            }
        }
        return NONE;
    }

    int cost(int replica, int edit) {
        if (state(replica, edit) == BAD_VALUE) {
            return BAD_VALUE;
        }
        if (state(replica, edit) < 2) {
            return NOT_POSSIBLE;
        }
        List<Edit> dearest = best(knownEdits(replica), now.edits.get(edit));
        return dearest == null ? NONE : weigh(accepted(replica)) - weigh(dearest);
    }

    int alternative(int replica, int edit) {
        if (state(replica, edit) == BAD_VALUE) {
            return BAD_VALUE;
        }
        Edit e = now.edits.get(edit);
        if (state(replica, edit) != 2 || e.kind() > MOVE) {
            return NOT_POSSIBLE;
        }
        List<Edit> accepted = accepted(replica);
        int own = e.kind() == CREATE ? e.created().start() : e.value();
        int best = NONE;
        for (int start = 0; start < 96; start++) {
            Meeting c = e.created();
            Meeting created = c == null ? null
                    : new Meeting(c.number(), start, c.duration(), c.room(), c.persons(), c.period(), c.count());
            Edit moved = new Edit(e.number(), e.author(), e.weight(), e.kind(), e.meeting(), start, created, e.follows());
            boolean nearer = best == NONE || Math.abs(start - own) < Math.abs(best - own);
            if (nearer && isAdmissible(with(accepted, moved))) {
                best = start;
            }
        }
        return best;
    }

    int freeStart(int replica, int room, int duration, int from) {
        if (!replica(replica) || !in(room, 0, 3) || !in(duration, 1, 8) || !in(from, 0, 95)) {
            return BAD_VALUE;
        }
        Set<Integer> taken = new HashSet<>();
        calendar(replica).values().stream().filter(m -> m.room() == room).forEach(m -> taken.addAll(m.slots()));
        for (int start = from; start <= 95; start++) {
            boolean free = true;
            for (int s = start; s < start + duration; s++) {
                free &= s <= 95 && !taken.contains(s) && !now.closed[room].has(s);
            }
            if (free) {
                return start;
            }
        }
        return NONE;
    }

    int commonStart(int replica, int persons, int duration, int from) {
        if (!replica(replica) || !in(persons, 1, 63) || !in(duration, 1, 8) || !in(from, 0, 95)) {
            return BAD_VALUE;
        }
        TreeMap<Integer, Meeting> calendar = calendar(replica);
        for (int start = from; start <= 95; start++) {
            for (int room = 0; room < 4; room++) {
                calendar.put(-1, new Meeting(-1, start, duration, room, persons, 0, 1));
                if (isValid(calendar)) {
                    return 10 * start + room;
                }
            }
        }
        return NONE;
    }

    int busySlots(int replica, int person) {
        if (!replica(replica) || !in(person, 0, 5)) {
            return BAD_VALUE;
        }
        return calendar(replica).values().stream().filter(m -> m.has(person)).mapToInt(m -> m.slots().size()).sum();
    }

    // ---- texts

    int append(int character) {
        if (!in(character, 32, 126)) {
            return BAD_VALUE;
        }
        if (text.length() == 60) {
            return FULL;
        }
        text += (char) character;
        return text.length();
    }

    int clearText() {
        int previous = text.length();
        text = "";
        return previous;
    }

    /**
     * All texts of the form are the words of an automaton, whose state is here the kind of place and the options used;
     * a character cannot follow if no rule takes it.
     */
    int faultPosition() {
        String place = "start0";
        String used = "";
        int lastPerson = -1;
        for (int i = 0; i < text.length(); i++) {
            char c = text.charAt(i);
            boolean digit = Character.isDigit(c);
            boolean mayEnd = place.equals("duration1") || place.equals("duration2") || place.equals("persons")
                    || place.equals("done");
            if (mayEnd && c == ' ' && used.length() < 4) {
                place = "option";
            } else if ((place.equals("start0") || place.equals("start1")) && digit) {
                place = place.equals("start0") ? "start1" : "start2";
            } else if ((place.equals("start1") || place.equals("start2")) && c == '+') {
                place = "duration0";
            } else if ((place.equals("duration0") || place.equals("duration1")) && digit) {
                place = place.equals("duration0") ? "duration1" : "duration2";
            } else if (place.equals("option") && "rpwe".indexOf(c) >= 0 && used.indexOf(c) < 0) {
                used += c;
                place = "" + c;
            } else if (place.equals("r") && c >= '0' && c <= '3' || place.equals("w") && c >= '1' && c <= '9'
                    || place.equals("x") && c >= '1' && c <= '4') {
                place = "done";
            } else if ((place.equals("p") || place.equals("persons")) && c <= '5' && c - '0' > lastPerson) {
                lastPerson = c - '0';
                place = "persons";
            } else if ((place.equals("e") || place.equals("e1")) && digit) {
                place = place.equals("e") ? "e1" : "e2";
            } else if ((place.equals("e1") || place.equals("e2")) && c == 'x') {
                place = "x";
            } else {
                return i;
            }
        }
        return List.of("duration1", "duration2", "persons", "done").contains(place) ? NONE : text.length();
    }

    int print(int replica, int meeting) {
        Meeting m = meeting(replica, meeting);
        if (m == null) {
            return BAD_VALUE;
        }
        page = m.start() + "+" + m.duration() + " r" + m.room() + " p";
        for (int p = 0; p < 6; p++) {
            page += m.has(p) ? "" + p : "";
        }
        page += m.count() > 1 ? " e" + m.period() + "x" + m.count() : "";
        return page.length();
    }

    int printed(int index) {
        return index < 0 ? BAD_VALUE : index < page.length() ? page.charAt(index) : NONE;
    }

    // ---- slots, checksum

    int keep(int slot) {
        if (!in(slot, 0, 1)) {
            return BAD_VALUE;
        }
        kept[slot] = now.copy();
        return edits();
    }

    int restore(int slot) {
        if (!in(slot, 0, 1)) {
            return BAD_VALUE;
        }
        if (kept[slot] == null) {
            return NOT_POSSIBLE;
        }
        remembered.clear();
        now = kept[slot].copy();
        return edits();
    }

    long checksum() {
        List<Integer> values = new ArrayList<>();
        values.add(edits());
        for (int e : now.edits.keySet()) {
            values.addAll(List.of(e, kindOf(e), meetingOf(e), authorOf(e), weightOf(e), state(0, e), state(1, e),
                    state(2, e)));
        }
        for (int r = 0; r < 3; r++) {
            values.addAll(List.of(meetings(r), acceptedWeight(r), rejectedWeight(r)));
            for (Meeting m : calendar(r).values()) {
                values.addAll(List.of(m.number(), m.start(), m.duration(), m.room(), m.persons(), m.period(), m.count()));
            }
        }
        long h = 37;
        for (int value : values) {
            h = 31 * h + value;
        }
        return h;
    }
}
