/**
 * Three replicas of a calendar of meetings, which are edited independently of one another and exchange their edits.
 * The document ../shared/DOC.md says what each method does; the comments here say only why it is done this way.
 */
public final class CalendarReplicas {
    public static final int BAD_VALUE = -1;
    public static final int FULL = -2;
    public static final int NOT_POSSIBLE = -3;
    public static final int NONE = -4;
    public static final int CREATE = 0, MOVE = 1, ROOM = 2, DURATION = 3, JOIN = 4, LEAVE = 5, CANCEL = 6;
    public static final int UNKNOWN = 0, BLOCKED = 1, REJECTED = 2, ACCEPTED = 3;

    private static final int REPLICAS = 3;
    private static final int ROOMS = 4;
    private static final int PERSONS = 6;
    private static final int ALL_PERSONS = 63;
    private static final int SLOTS = 96;
    private static final int MOST_CAPACITY = 6;
    private static final int MOST_DURATION = 8;
    private static final int MOST_PERIOD = 48;
    private static final int MOST_COUNT = 4;
    private static final int MOST_WEIGHT = 9;
    private static final int MOST_ORDERS = 4;
    private static final int MOST_EDITS = 12;
    private static final int BASE_MEETINGS = 12;
    /** Each edit can add a meeting to those of the base. */
    private static final int MOST_MEETINGS = BASE_MEETINGS + MOST_EDITS;
    private static final int TEXT_LENGTH = 60;
    private static final int KEEP_SLOTS = 2;

    private final World world = new World();
    private final World[] kept = new World[KEEP_SLOTS];
    private final boolean[] filled = new boolean[KEEP_SLOTS];
    private final Merge merge = new Merge();
    private final Calendar shown = new Calendar(MOST_MEETINGS);
    private final Timetable timetable = new Timetable();
    private final Meeting plan = new Meeting();
    private final Description description = new Description();
    private final StringBuilder page = new StringBuilder();

    public CalendarReplicas() {
        for (int slot = 0; slot < KEEP_SLOTS; slot++) {
            kept[slot] = new World();
        }
    }

    // ---- rooms, persons, orders

    public int setRoom(int room, int capacity, int from, int to) {
        if (!within(room, 0, ROOMS - 1) || !within(capacity, 1, MOST_CAPACITY) || !isRange(from, to)) {
            return BAD_VALUE;
        }
        if (!world.isBlank()) {
            return NOT_POSSIBLE;
        }
        int previous = world.rules.capacity[room];
        world.rules.capacity[room] = capacity;
        world.rules.closedFrom[room] = from;
        world.rules.closedTo[room] = to;
        return previous;
    }

    public int setAbsence(int person, int from, int to) {
        if (!within(person, 0, PERSONS - 1) || !isRange(from, to)) {
            return BAD_VALUE;
        }
        if (!world.isBlank()) {
            return NOT_POSSIBLE;
        }
        int previous = world.rules.absentTo[person] - world.rules.absentFrom[person];
        world.rules.absentFrom[person] = from;
        world.rules.absentTo[person] = to;
        return previous;
    }

    public int addOrder(int first, int second) {
        if (first < 0 || second < 0 || first == second) {
            return BAD_VALUE;
        }
        if (world.rules.orders >= MOST_ORDERS) {
            return FULL;
        }
        if (!world.base.keepsOrder(first, second)) {
            return NOT_POSSIBLE;
        }
        world.rules.putOrder(first, second);
        mergeAll();
        return world.rules.orders;
    }

    public int clearOrders() {
        int previous = world.rules.orders;
        world.rules.orders = 0;
        mergeAll();
        return previous;
    }

    // ---- edits

    public int create(int replica, int start, int duration, int room, int persons, int weight) {
        if (!isReplica(replica) || !isStart(start) || !isDuration(duration) || !within(room, 0, ROOMS - 1)
                || !within(persons, 1, ALL_PERSONS) || !isWeight(weight)) {
            return BAD_VALUE;
        }
        plan.fill(start, duration, room, persons, 0, 1);
        return make(replica, CREATE, world.next, 0, weight);
    }

    public int createFromText(int replica) {
        if (!isReplica(replica) || description.read() != NONE || !hasPlainValues(description.meeting)) {
            return BAD_VALUE;
        }
        plan.copyFrom(description.meeting);
        return make(replica, CREATE, world.next, 0, description.weight);
    }

    public int move(int replica, int meeting, int start, int weight) {
        if (!isStart(start) || !isChangeable(replica, meeting, weight)) {
            return BAD_VALUE;
        }
        return make(replica, MOVE, meeting, start, weight);
    }

    public int changeRoom(int replica, int meeting, int room, int weight) {
        if (!within(room, 0, ROOMS - 1) || !isChangeable(replica, meeting, weight)) {
            return BAD_VALUE;
        }
        return make(replica, ROOM, meeting, room, weight);
    }

    public int resize(int replica, int meeting, int duration, int weight) {
        if (!isDuration(duration) || !isChangeable(replica, meeting, weight)) {
            return BAD_VALUE;
        }
        return make(replica, DURATION, meeting, duration, weight);
    }

    public int join(int replica, int meeting, int person, int weight) {
        if (!within(person, 0, PERSONS - 1) || !isChangeable(replica, meeting, weight)) {
            return BAD_VALUE;
        }
        return make(replica, JOIN, meeting, person, weight);
    }

    public int leave(int replica, int meeting, int person, int weight) {
        if (!within(person, 0, PERSONS - 1) || !isChangeable(replica, meeting, weight)) {
            return BAD_VALUE;
        }
        return make(replica, LEAVE, meeting, person, weight);
    }

    public int cancel(int replica, int meeting, int weight) {
        return isChangeable(replica, meeting, weight) ? make(replica, CANCEL, meeting, 0, weight) : BAD_VALUE;
    }

    private boolean isChangeable(int replica, int meeting, int weight) {
        return find(replica, meeting) != null && isWeight(weight);
    }

    /**
     * Makes an edit, a CREATE of the planned meeting. It is drafted in the row behind the edits, where nothing but
     * its replica's merge sees it until it is counted.
     */
    private int make(int replica, int kind, int meeting, int value, int weight) {
        Edit draft = world.editAtIndex(world.size);
        if (draft == null) {
            return FULL;
        }
        draft.fill(world.next, replica, weight, kind, meeting, value);
        draft.created.copyFrom(plan);
        draft.created.number = world.next;
        world.relate(draft, world.known[replica]);
        int bit = 1 << world.size;
        int accepted = merge.heaviest(world, world.known[replica] | bit, 0);
        if (accepted != (world.accepted[replica] | bit)) {
            return NOT_POSSIBLE;
        }
        world.known[replica] |= bit;
        world.accepted[replica] = accepted;
        world.size++;
        world.next++;
        return draft.number;
    }

    // ---- exchange

    public int send(int from, int to) {
        if (!areTwoReplicas(from, to)) {
            return BAD_VALUE;
        }
        return learn(to, world.known[from]);
    }

    public int sendOne(int from, int to, int edit) {
        int index = world.indexOf(edit);
        if (!areTwoReplicas(from, to) || index < 0 || !contains(world.known[from], index)) {
            return BAD_VALUE;
        }
        return learn(to, 1 << index);
    }

    public int compact() {
        int all = (1 << world.size) - 1;
        for (int replica = 0; replica < REPLICAS; replica++) {
            if (world.known[replica] != all) {
                return NOT_POSSIBLE;
            }
        }
        world.form(world.accepted[0], shown);
        if (shown.size > BASE_MEETINGS) {
            return FULL;
        }
        world.startFrom(shown);
        return shown.size;
    }

    private int learn(int replica, int sent) {
        int news = sent & ~world.known[replica];
        if (news != 0) {
            world.known[replica] |= news;
            world.accepted[replica] = merge.heaviest(world, world.known[replica], 0);
        }
        return Integer.bitCount(news);
    }

    private void mergeAll() {
        for (int replica = 0; replica < REPLICAS; replica++) {
            world.accepted[replica] = merge.heaviest(world, world.known[replica], 0);
        }
    }

    // ---- calendars

    public int meetings(int replica) {
        if (!isReplica(replica)) {
            return BAD_VALUE;
        }
        show(replica);
        return shown.size;
    }

    public int meetingAt(int replica, int index) {
        if (!isReplica(replica)) {
            return BAD_VALUE;
        }
        show(replica);
        Meeting meeting = shown.row(index);
        return meeting == null ? BAD_VALUE : meeting.number;
    }

    public int startOf(int replica, int meeting) {
        Meeting found = find(replica, meeting);
        return found == null ? BAD_VALUE : found.start;
    }

    public int durationOf(int replica, int meeting) {
        Meeting found = find(replica, meeting);
        return found == null ? BAD_VALUE : found.duration;
    }

    public int roomOf(int replica, int meeting) {
        Meeting found = find(replica, meeting);
        return found == null ? BAD_VALUE : found.room;
    }

    public int personsOf(int replica, int meeting) {
        Meeting found = find(replica, meeting);
        return found == null ? BAD_VALUE : found.persons;
    }

    public int periodOf(int replica, int meeting) {
        Meeting found = find(replica, meeting);
        return found == null ? BAD_VALUE : found.period;
    }

    public int countOf(int replica, int meeting) {
        Meeting found = find(replica, meeting);
        return found == null ? BAD_VALUE : found.count;
    }

    /** The calendar is formed anew for each question, so that nothing has to keep a copy of it up to date. */
    private void show(int replica) {
        world.form(world.accepted[replica], shown);
    }

    private Meeting find(int replica, int meeting) {
        if (!isReplica(replica)) {
            return null;
        }
        show(replica);
        return shown.find(meeting);
    }

    // ---- edits as they are

    public int edits() {
        return world.size;
    }

    public int editAt(int index) {
        Edit found = index < world.size ? world.editAtIndex(index) : null;
        return found == null ? BAD_VALUE : found.number;
    }

    public int kindOf(int edit) {
        Edit found = world.editAtIndex(world.indexOf(edit));
        return found == null ? BAD_VALUE : found.kind;
    }

    public int meetingOf(int edit) {
        Edit found = world.editAtIndex(world.indexOf(edit));
        return found == null ? BAD_VALUE : found.meeting;
    }

    public int authorOf(int edit) {
        Edit found = world.editAtIndex(world.indexOf(edit));
        return found == null ? BAD_VALUE : found.author;
    }

    public int weightOf(int edit) {
        Edit found = world.editAtIndex(world.indexOf(edit));
        return found == null ? BAD_VALUE : found.weight;
    }

    public int clash(int edit, int other) {
        int index = world.indexOf(edit);
        int otherIndex = world.indexOf(other);
        if (index < 0 || otherIndex < 0 || index == otherIndex) {
            return BAD_VALUE;
        }
        return contains(world.clashing(index), otherIndex) ? 1 : 0;
    }

    public int state(int replica, int edit) {
        int index = world.indexOf(edit);
        return !isReplica(replica) || index < 0 ? BAD_VALUE : standing(replica, index);
    }

    public int acceptedWeight(int replica) {
        return isReplica(replica) ? world.weigh(world.accepted[replica]) : BAD_VALUE;
    }

    public int rejectedWeight(int replica) {
        if (!isReplica(replica)) {
            return BAD_VALUE;
        }
        return world.weigh(world.usable(world.known[replica]) & ~world.accepted[replica]);
    }

    public int agree(int replica, int other) {
        if (!areTwoReplicas(replica, other)) {
            return BAD_VALUE;
        }
        return world.known[replica] == world.known[other] ? 1 : 0;
    }

    private int standing(int replica, int index) {
        int known = world.known[replica];
        if (!contains(known, index)) {
            return UNKNOWN;
        }
        if (!contains(world.usable(known), index)) {
            return BLOCKED;
        }
        return contains(world.accepted[replica], index) ? ACCEPTED : REJECTED;
    }

    // ---- explanations

    public int obstacle(int replica, int edit) {
        int index = world.indexOf(edit);
        if (!isReplica(replica) || index < 0) {
            return BAD_VALUE;
        }
        if (standing(replica, index) != REJECTED) {
            return NOT_POSSIBLE;
        }
        int accepted = world.accepted[replica];
        for (int other = 0; other < world.size; other++) {
            if (contains(accepted, other) && merge.admits(world, (accepted & ~(1 << other)) | (1 << index))) {
                return editAt(other);
            }
        }
        return NONE;
    }

    public int cost(int replica, int edit) {
        int index = world.indexOf(edit);
        if (!isReplica(replica) || index < 0) {
            return BAD_VALUE;
        }
        if (standing(replica, index) < REJECTED) {
            return NOT_POSSIBLE;
        }
        int dearest = merge.heaviest(world, world.known[replica], 1 << index);
        return dearest < 0 ? NONE : world.weigh(world.accepted[replica]) - world.weigh(dearest);
    }

    public int alternative(int replica, int edit) {
        int index = world.indexOf(edit);
        Edit rejected = world.editAtIndex(index);
        if (!isReplica(replica) || rejected == null) {
            return BAD_VALUE;
        }
        if (standing(replica, index) != REJECTED || (rejected.kind != CREATE && rejected.kind != MOVE)) {
            return NOT_POSSIBLE;
        }
        int start = rejected.start();
        int found = nearestStart(rejected, world.accepted[replica] | (1 << index), start);
        rejected.setStart(start);
        return found;
    }

    /** Tries the starts in the edit itself; the caller sets the edit's own start again. */
    private int nearestStart(Edit edit, int set, int start) {
        for (int distance = 0; distance < SLOTS; distance++) {
            if (admitsStart(edit, set, start - distance)) {
                return start - distance;
            }
            if (admitsStart(edit, set, start + distance)) {
                return start + distance;
            }
        }
        return NONE;
    }

    private boolean admitsStart(Edit edit, int set, int start) {
        if (!isStart(start)) {
            return false;
        }
        edit.setStart(start);
        return merge.admits(world, set);
    }

    public int freeStart(int replica, int room, int duration, int from) {
        if (!isReplica(replica) || !within(room, 0, ROOMS - 1) || !isDuration(duration) || !isStart(from)) {
            return BAD_VALUE;
        }
        fillTimetable(replica);
        for (int start = from; start + duration <= SLOTS; start++) {
            if (timetable.isFree(1 << room, start, start + duration)) {
                return start;
            }
        }
        return NONE;
    }

    public int commonStart(int replica, int persons, int duration, int from) {
        if (!isReplica(replica) || !within(persons, 1, ALL_PERSONS) || !isDuration(duration) || !isStart(from)) {
            return BAD_VALUE;
        }
        fillTimetable(replica);
        for (int start = from; start + duration <= SLOTS; start++) {
            for (int room = 0; room < ROOMS; room++) {
                plan.fill(start, duration, room, persons, 0, 1);
                if (world.rules.allows(plan) && timetable.isFree(plan.rows(), start, start + duration)) {
                    return 10 * start + room;
                }
            }
        }
        return NONE;
    }

    public int busySlots(int replica, int person) {
        if (!isReplica(replica) || !within(person, 0, PERSONS - 1)) {
            return BAD_VALUE;
        }
        show(replica);
        int slots = 0;
        for (int index = 0; index < shown.size; index++) {
            Meeting meeting = shown.row(index);
            if (meeting != null && contains(meeting.persons, person)) {
                slots += meeting.count * meeting.duration;
            }
        }
        return slots;
    }

    private void fillTimetable(int replica) {
        show(replica);
        timetable.begin(world.rules);
        for (int index = 0; index < shown.size; index++) {
            Meeting meeting = shown.row(index);
            if (meeting != null) {
                timetable.book(meeting);
            }
        }
    }

    // ---- texts

    public int append(int character) {
        if (!within(character, 32, 126)) {
            return BAD_VALUE;
        }
        if (description.text.length() >= TEXT_LENGTH) {
            return FULL;
        }
        description.text.append((char) character);
        return description.text.length();
    }

    public int clearText() {
        int previous = description.text.length();
        description.text.setLength(0);
        return previous;
    }

    public int faultPosition() {
        return description.read();
    }

    public int print(int replica, int meeting) {
        Meeting found = find(replica, meeting);
        if (found == null) {
            return BAD_VALUE;
        }
        page.setLength(0);
        page.append(found.start).append('+').append(found.duration);
        page.append(" r").append(found.room).append(" p");
        for (int person = 0; person < PERSONS; person++) {
            if (contains(found.persons, person)) {
                page.append(person);
            }
        }
        if (found.count > 1) {
            page.append(" e").append(found.period).append('x').append(found.count);
        }
        return page.length();
    }

    public int printed(int index) {
        if (index < 0) {
            return BAD_VALUE;
        }
        return index < page.length() ? page.charAt(index) : NONE;
    }

    // ---- slots, checksum

    public int keep(int slot) {
        if (!within(slot, 0, KEEP_SLOTS - 1)) {
            return BAD_VALUE;
        }
        kept[slot].copyFrom(world);
        filled[slot] = true;
        return world.size;
    }

    public int restore(int slot) {
        if (!within(slot, 0, KEEP_SLOTS - 1)) {
            return BAD_VALUE;
        }
        if (!filled[slot]) {
            return NOT_POSSIBLE;
        }
        world.copyFrom(kept[slot]);
        return world.size;
    }

    public long checksum() {
        long h = mix(37, world.size);
        for (int index = 0; index < world.size; index++) {
            h = mixEdit(h, index);
        }
        for (int replica = 0; replica < REPLICAS; replica++) {
            h = mixReplica(h, replica);
        }
        return h;
    }

    private long mixEdit(long sum, int index) {
        Edit edit = world.editAtIndex(index);
        if (edit == null) {
            return sum;
        }
        long h = mix(sum, edit.number);
        h = mix(h, edit.kind);
        h = mix(h, edit.meeting);
        h = mix(h, edit.author);
        h = mix(h, edit.weight);
        for (int replica = 0; replica < REPLICAS; replica++) {
            h = mix(h, standing(replica, index));
        }
        return h;
    }

    private long mixReplica(long sum, int replica) {
        show(replica);
        long h = mix(sum, shown.size);
        h = mix(h, acceptedWeight(replica));
        h = mix(h, rejectedWeight(replica));
        for (int index = 0; index < shown.size; index++) {
            Meeting meeting = shown.row(index);
            if (meeting != null) {
                h = mixMeeting(h, meeting);
            }
        }
        return h;
    }

    private static long mixMeeting(long sum, Meeting meeting) {
        long h = mix(sum, meeting.number);
        h = mix(h, meeting.start);
        h = mix(h, meeting.duration);
        h = mix(h, meeting.room);
        h = mix(h, meeting.persons);
        h = mix(h, meeting.period);
        return mix(h, meeting.count);
    }

    private static long mix(long sum, long value) {
        return 31 * sum + value;
    }

    // ---- ranges of arguments

    private static boolean within(int value, int low, int high) {
        return value >= low && value <= high;
    }

    private static boolean isReplica(int value) {
        return within(value, 0, REPLICAS - 1);
    }

    private static boolean areTwoReplicas(int one, int other) {
        return isReplica(one) && isReplica(other) && one != other;
    }

    private static boolean isRange(int from, int to) {
        return within(from, 0, SLOTS) && within(to, from, SLOTS);
    }

    private static boolean isStart(int value) {
        return within(value, 0, SLOTS - 1);
    }

    private static boolean isDuration(int value) {
        return within(value, 1, MOST_DURATION);
    }

    private static boolean isWeight(int value) {
        return within(value, 1, MOST_WEIGHT);
    }

    /** What a text without a fault can still have out of range. */
    private static boolean hasPlainValues(Meeting meeting) {
        return isStart(meeting.start) && isDuration(meeting.duration) && within(meeting.period, 0, MOST_PERIOD);
    }

    /** Sets of edits and of persons are ints, with a bit for each member. */
    private static boolean contains(int set, int member) {
        return (set >> member & 1) != 0;
    }

    /** A meeting as a calendar has it. */
    private static final class Meeting {
        int number;
        int start;
        int duration;
        int room;
        int persons;
        int period;
        int count;

        void fill(int newStart, int newDuration, int newRoom, int newPersons, int newPeriod, int newCount) {
            start = newStart;
            duration = newDuration;
            room = newRoom;
            persons = newPersons;
            period = newPeriod;
            count = newCount;
        }

        void copyFrom(Meeting other) {
            number = other.number;
            start = other.start;
            duration = other.duration;
            room = other.room;
            persons = other.persons;
            period = other.period;
            count = other.count;
        }

        /** The slot behind its last one. */
        int end() {
            return start + (count - 1) * period + duration;
        }

        /** The rows that it needs in a timetable, a bit for each. */
        int rows() {
            return 1 << room | persons << ROOMS;
        }
    }

    /** Meetings in ascending order of their numbers. The rows are made once and used again. */
    private static final class Calendar {
        private final Meeting[] rows;
        int size;

        Calendar(int most) {
            rows = new Meeting[Math.max(most, 0)];
            for (int index = 0; index < rows.length; index++) {
                rows[index] = new Meeting();
            }
        }

        Meeting row(int index) {
            return index >= 0 && index < size && index < rows.length ? rows[index] : null;
        }

        Meeting find(int number) {
            for (int index = 0; index < size && index < rows.length; index++) {
                if (rows[index].number == number) {
                    return rows[index];
                }
            }
            return null;
        }

        /** A number is higher than all before it when it is new, so that the new row belongs at the end. */
        void put(Meeting meeting) {
            if (size < rows.length) {
                rows[size].copyFrom(meeting);
                size++;
            }
        }

        /** Exchanges the rows, so that none is lost and none stands twice. */
        void drop(int number) {
            int left = 0;
            for (int index = 0; index < size && index < rows.length; index++) {
                Meeting meeting = rows[index];
                if (meeting.number != number) {
                    rows[index] = rows[left];
                    rows[left] = meeting;
                    left++;
                }
            }
            size = left;
        }

        void copyFrom(Calendar other) {
            size = Math.min(other.size, Math.min(rows.length, other.rows.length));
            for (int index = 0; index < size; index++) {
                rows[index].copyFrom(other.rows[index]);
            }
        }

        boolean keepsOrder(int first, int second) {
            Meeting earlier = find(first);
            Meeting later = find(second);
            return earlier == null || later == null || earlier.end() <= later.start;
        }
    }

    /** What a valid calendar keeps to. */
    private static final class Rules {
        final int[] capacity = new int[ROOMS];
        final int[] closedFrom = new int[ROOMS];
        final int[] closedTo = new int[ROOMS];
        final int[] absentFrom = new int[PERSONS];
        final int[] absentTo = new int[PERSONS];
        private final int[] orderFirst = new int[MOST_ORDERS];
        private final int[] orderSecond = new int[MOST_ORDERS];
        int orders;

        Rules() {
            for (int room = 0; room < ROOMS; room++) {
                capacity[room] = MOST_CAPACITY;
            }
        }

        void copyFrom(Rules other) {
            System.arraycopy(other.capacity, 0, capacity, 0, ROOMS);
            System.arraycopy(other.closedFrom, 0, closedFrom, 0, ROOMS);
            System.arraycopy(other.closedTo, 0, closedTo, 0, ROOMS);
            System.arraycopy(other.absentFrom, 0, absentFrom, 0, PERSONS);
            System.arraycopy(other.absentTo, 0, absentTo, 0, PERSONS);
            System.arraycopy(other.orderFirst, 0, orderFirst, 0, MOST_ORDERS);
            System.arraycopy(other.orderSecond, 0, orderSecond, 0, MOST_ORDERS);
            orders = other.orders;
        }

        void putOrder(int first, int second) {
            if (orders >= 0 && orders < MOST_ORDERS) {
                orderFirst[orders] = first;
                orderSecond[orders] = second;
                orders++;
            }
        }

        boolean hasOrders(Calendar calendar) {
            for (int index = 0; index < orders && index < MOST_ORDERS; index++) {
                if (!calendar.keepsOrder(orderFirst[index], orderSecond[index])) {
                    return false;
                }
            }
            return true;
        }

        /** Whether the meeting, apart from others and from closing times and absences, may be in a calendar. */
        boolean allows(Meeting meeting) {
            if (!within(meeting.room, 0, ROOMS - 1) || meeting.start < 0 || meeting.end() > SLOTS) {
                return false;
            }
            if (meeting.count > 1 && meeting.period < meeting.duration) {
                return false;
            }
            return within(Integer.bitCount(meeting.persons), 1, capacity[meeting.room]);
        }
    }

    /**
     * Which slots are taken, in a row for each room and then one for each person. A row has two halves of 48 slots
     * with a bit for each slot, since a long does not hold 96 of them.
     */
    private static final class Timetable {
        private static final int HALF = SLOTS / 2;
        private static final int ROWS = ROOMS + PERSONS;
        private final long[] early = new long[ROWS];
        private final long[] late = new long[ROWS];

        void begin(Rules rules) {
            for (int row = 0; row < ROWS; row++) {
                early[row] = 0;
                late[row] = 0;
            }
            for (int room = 0; room < ROOMS; room++) {
                take(1 << room, rules.closedFrom[room], rules.closedTo[room]);
            }
            for (int person = 0; person < PERSONS; person++) {
                take(1 << (ROOMS + person), rules.absentFrom[person], rules.absentTo[person]);
            }
        }

        /** Takes the slots of a meeting, or answers false when it comes to one that is taken. */
        boolean book(Meeting meeting) {
            int rows = meeting.rows();
            for (int time = 0; time < meeting.count; time++) {
                int from = meeting.start + time * meeting.period;
                if (!isFree(rows, from, from + meeting.duration)) {
                    return false;
                }
                take(rows, from, from + meeting.duration);
            }
            return true;
        }

        boolean isFree(int rows, int from, int to) {
            long earlyBits = bits(from, to);
            long lateBits = bits(from - HALF, to - HALF);
            for (int row = 0; row < ROWS; row++) {
                if (contains(rows, row) && ((early[row] & earlyBits) != 0 || (late[row] & lateBits) != 0)) {
                    return false;
                }
            }
            return true;
        }

        private void take(int rows, int from, int to) {
            long earlyBits = bits(from, to);
            long lateBits = bits(from - HALF, to - HALF);
            for (int row = 0; row < ROWS; row++) {
                if (contains(rows, row)) {
                    early[row] |= earlyBits;
                    late[row] |= lateBits;
                }
            }
        }

        /** The bits of the slots of a range that lie in a half, which begins at slot 0 here. */
        private static long bits(int from, int to) {
            int first = from < 0 ? 0 : from;
            int end = to > HALF ? HALF : to;
            return end > first ? (1L << end) - (1L << first) : 0;
        }
    }

    /** An edit, with what it has to do with others as sets of their indices. */
    private static final class Edit {
        int number;
        int author;
        int weight;
        int kind;
        int meeting;
        int value;
        /** The earlier edits with which it clashes. */
        int clashes;
        /** The CREATE of its meeting; nothing if the meeting is in the base, or this is the CREATE. */
        int needs;
        /** Only a CREATE uses it, but the row is made once for all kinds. */
        final Meeting created = new Meeting();

        void fill(int newNumber, int newAuthor, int newWeight, int newKind, int newMeeting, int newValue) {
            number = newNumber;
            author = newAuthor;
            weight = newWeight;
            kind = newKind;
            meeting = newMeeting;
            value = newValue;
        }

        void copyFrom(Edit other) {
            fill(other.number, other.author, other.weight, other.kind, other.meeting, other.value);
            clashes = other.clashes;
            needs = other.needs;
            created.copyFrom(other.created);
        }

        int start() {
            return kind == CREATE ? created.start : value;
        }

        void setStart(int start) {
            if (kind == CREATE) {
                created.start = start;
            } else {
                value = start;
            }
        }

        /** Whether it clashes with an earlier edit of the same meeting. */
        boolean clashesWith(Edit earlier, boolean follows) {
            if (earlier.kind == CANCEL) {
                return true;
            }
            return !follows && (kind == CANCEL || changesSame(earlier));
        }

        private boolean changesSame(Edit other) {
            if (kind == JOIN || kind == LEAVE) {
                return (other.kind == JOIN || other.kind == LEAVE) && value == other.value;
            }
            return kind == other.kind;
        }

        void applyTo(Meeting target) {
            switch (kind) {
                case MOVE:
                    target.start = value;
                    break;
                case ROOM:
                    target.room = value;
                    break;
                case DURATION:
                    target.duration = value;
                    break;
                case JOIN:
                    target.persons |= 1 << value;
                    break;
                case LEAVE:
                    target.persons &= ~(1 << value);
                    break;
                default:
                    break;
            }
        }
    }

    /** All that a slot keeps: the rules, the base, the edits, and what the replicas know and accept of them. */
    private static final class World {
        final Rules rules = new Rules();
        final Calendar base = new Calendar(BASE_MEETINGS);
        private final Edit[] edits = new Edit[MOST_EDITS];
        int size;
        int next;
        final int[] known = new int[REPLICAS];
        /** Follows from all the rest; it is held since it is dear to find. */
        final int[] accepted = new int[REPLICAS];

        World() {
            for (int index = 0; index < MOST_EDITS; index++) {
                edits[index] = new Edit();
            }
        }

        void copyFrom(World other) {
            rules.copyFrom(other.rules);
            base.copyFrom(other.base);
            size = Math.min(other.size, MOST_EDITS);
            next = other.next;
            for (int index = 0; index < size; index++) {
                edits[index].copyFrom(other.edits[index]);
            }
            System.arraycopy(other.known, 0, known, 0, REPLICAS);
            System.arraycopy(other.accepted, 0, accepted, 0, REPLICAS);
        }

        void startFrom(Calendar calendar) {
            base.copyFrom(calendar);
            size = 0;
            for (int replica = 0; replica < REPLICAS; replica++) {
                known[replica] = 0;
                accepted[replica] = 0;
            }
        }

        boolean isBlank() {
            return base.size == 0 && size == 0;
        }

        /** Also gives the row behind the edits, for a draft; null if there is no row. */
        Edit editAtIndex(int index) {
            return index >= 0 && index <= size && index < MOST_EDITS ? edits[index] : null;
        }

        int indexOf(int number) {
            for (int index = 0; index < size && index < MOST_EDITS; index++) {
                if (edits[index].number == number) {
                    return index;
                }
            }
            return NONE;
        }

        /** Finds out what a draft, which follows the known edits, has to do with the edits before it. */
        void relate(Edit draft, int followed) {
            draft.clashes = 0;
            draft.needs = 0;
            for (int index = 0; index < size && index < MOST_EDITS; index++) {
                Edit earlier = edits[index];
                if (earlier.meeting != draft.meeting) {
                    continue;
                }
                if (draft.clashesWith(earlier, contains(followed, index))) {
                    draft.clashes |= 1 << index;
                }
                if (earlier.kind == CREATE) {
                    draft.needs = 1 << index;
                }
            }
        }

        int clashing(int index) {
            int set = 0;
            for (int other = 0; other < MOST_EDITS; other++) {
                if (contains(edits[other].clashes, index)) {
                    set |= 1 << other;
                }
            }
            return index >= 0 && index < MOST_EDITS ? set | edits[index].clashes : set;
        }

        int needing(int index) {
            int set = 0;
            for (int other = 0; other < MOST_EDITS; other++) {
                if (contains(edits[other].needs, index)) {
                    set |= 1 << other;
                }
            }
            return set;
        }

        /** The edits of a set whose CREATE is in it too, where they need one. */
        int usable(int set) {
            int usable = 0;
            for (int index = 0; index < MOST_EDITS; index++) {
                if (contains(set, index) && (edits[index].needs & ~set) == 0) {
                    usable |= 1 << index;
                }
            }
            return usable;
        }

        boolean hasClash(int set) {
            for (int index = 0; index < MOST_EDITS; index++) {
                if (contains(set, index) && (edits[index].clashes & set) != 0) {
                    return true;
                }
            }
            return false;
        }

        int weigh(int set) {
            int sum = 0;
            for (int index = 0; index < MOST_EDITS; index++) {
                if (contains(set, index)) {
                    sum += edits[index].weight;
                }
            }
            return sum;
        }

        /** The result of a set of edits. */
        void form(int set, Calendar result) {
            result.copyFrom(base);
            for (int index = 0; index < MOST_EDITS; index++) {
                Edit edit = edits[index];
                if (!contains(set, index)) {
                    continue;
                }
                if (edit.kind == CREATE) {
                    result.put(edit.created);
                } else if (edit.kind == CANCEL) {
                    result.drop(edit.meeting);
                } else {
                    Meeting target = result.find(edit.meeting);
                    if (target != null) {
                        edit.applyTo(target);
                    }
                }
            }
        }

        /** Drops the meetings that the edits of a set would change. */
        void dropChanged(int set, Calendar result) {
            for (int index = 0; index < MOST_EDITS; index++) {
                if (contains(set, index)) {
                    result.drop(edits[index].meeting);
                }
            }
        }
    }

    /** Looks among the sets of edits for the one to accept. */
    private static final class Merge {
        private final Calendar calendar = new Calendar(MOST_MEETINGS);
        private final Timetable timetable = new Timetable();
        private int required;
        private int best;
        private int bestWeight;

        boolean admits(World world, int set) {
            return !world.hasClash(set) && world.usable(set) == set && fits(world, set, 0);
        }

        /**
         * The admissible set of known edits that has all required ones and is accepted before all other such sets;
         * NONE if there is none. Without required edits there is always one, as the empty set is admissible.
         */
        int heaviest(World world, int known, int requiredEdits) {
            required = requiredEdits;
            best = required == 0 ? 0 : NONE;
            bestWeight = required == 0 ? 0 : -1;
            search(this, world, 0, 0, world.usable(known));
            return best;
        }

        /**
         * Decides on the open edits from the lowest one on, taking it before leaving it: then, of two sets of the
         * same weight, the one with the lowest edit that is in only one of them comes first, and the first one stays.
         */
        private static void search(Merge merge, World world, int depth, int chosen, int open) {
            if (depth > MOST_EDITS || !merge.mayBeBetter(world, chosen, open) || !merge.fits(world, chosen, open)) {
                return;
            }
            if (open == 0) {
                merge.best = chosen;
                merge.bestWeight = world.weigh(chosen);
                return;
            }
            int index = Integer.numberOfTrailingZeros(open);
            int bit = 1 << index;
            search(merge, world, depth + 1, chosen | bit, open & ~bit & ~world.clashing(index));
            search(merge, world, depth + 1, chosen, open & ~bit & ~world.needing(index));
        }

        private boolean mayBeBetter(World world, int chosen, int open) {
            int all = chosen | open;
            return (required & ~all) == 0 && world.weigh(all) > bestWeight;
        }

        /**
         * Whether the meetings that no open edit can change are a valid calendar. If they are not, no choice among the
         * open edits can mend it, since every part of a valid calendar is valid.
         */
        private boolean fits(World world, int chosen, int open) {
            world.form(chosen, calendar);
            world.dropChanged(open, calendar);
            timetable.begin(world.rules);
            for (int index = 0; index < calendar.size; index++) {
                Meeting meeting = calendar.row(index);
                if (meeting != null && !(world.rules.allows(meeting) && timetable.book(meeting))) {
                    return false;
                }
            }
            return world.rules.hasOrders(calendar);
        }
    }

    /** The text buffer, and the meeting that its text describes. */
    private static final class Description {
        private static final String OPTIONS = "rpwe";
        final StringBuilder text = new StringBuilder();
        final Meeting meeting = new Meeting();
        int weight;
        private int position;
        private int optionsLeft;

        /** Returns the fault position, or NONE; then the meeting and the weight are as the text says. */
        int read() {
            position = 0;
            optionsLeft = (1 << OPTIONS.length()) - 1;
            meeting.fill(0, 0, 0, 1, 0, 1);
            weight = 1;
            return readTime() && readOptions() ? NONE : position;
        }

        private boolean readTime() {
            meeting.start = readNumber();
            if (meeting.start < 0 || !skip('+')) {
                return false;
            }
            meeting.duration = readNumber();
            return meeting.duration >= 0;
        }

        private boolean readOptions() {
            for (int option = 0; option < OPTIONS.length() && !isAtEnd(); option++) {
                if (!skip(' ') || !readOption()) {
                    return false;
                }
            }
            return isAtEnd();
        }

        private boolean readOption() {
            int option = OPTIONS.indexOf(peek());
            if (option < 0 || !contains(optionsLeft, option)) {
                return false;
            }
            optionsLeft &= ~(1 << option);
            position++;
            switch (option) {
                case 0:
                    meeting.room = readDigit(0, ROOMS - 1);
                    return meeting.room >= 0;
                case 1:
                    meeting.persons = readPersons();
                    return meeting.persons != 0;
                case 2:
                    weight = readDigit(1, MOST_WEIGHT);
                    return weight >= 0;
                default:
                    return readPeriod();
            }
        }

        private int readPersons() {
            int persons = 0;
            for (int person = 0; person < PERSONS; person++) {
                if (readDigit(person, person) >= 0) {
                    persons |= 1 << person;
                }
            }
            return persons;
        }

        private boolean readPeriod() {
            meeting.period = readNumber();
            if (meeting.period < 0 || !skip('x')) {
                return false;
            }
            meeting.count = readDigit(1, MOST_COUNT);
            return meeting.count >= 0;
        }

        private int readNumber() {
            int first = readDigit(0, 9);
            if (first < 0) {
                return NONE;
            }
            int second = readDigit(0, 9);
            return second < 0 ? first : 10 * first + second;
        }

        private int readDigit(int low, int high) {
            int digit = peek() - '0';
            if (!within(digit, low, high)) {
                return NONE;
            }
            position++;
            return digit;
        }

        private boolean skip(char sign) {
            if (peek() != sign) {
                return false;
            }
            position++;
            return true;
        }

        private boolean isAtEnd() {
            return position >= text.length();
        }

        /** At the end it gives the character 0, which no text has. */
        private char peek() {
            return position >= 0 && position < text.length() ? text.charAt(position) : (char) 0;
        }
    }
}
