import java.util.Arrays;

/**
 * A house of rooms joined by speaking tubes: ways of a voice, days of calls, calls that wait,
 * stretches that are stopped, further tubes. ../shared/DOC.md says what every call answers.
 *
 * All rows are made in constructors and used again: no call makes an object.
 * Sets of rooms, tubes and calls are held as bits of an int.
 */
public final class SpeakTubes {
    public static final int UNKNOWN = -1, OUTSIDE = -2, STATE = -3, FULL = -4, NO = -5, NONE = -6;

    private static final int ROOMS = 8, TUBES = 12, SIGNS = 60, PARTS = 20;
    private static final int WAITING = 5, MOST_TRIES = 99, IMAGES = 2;
    private static final int MOST_CARRIES = 60, FIRST_CARRIES = 20, MOST_MINUTES = 9, MOST_DUE = 60;
    private static final int MOST_LENGTH = 9, ALL_BITS = 255, NO_WAY = 99;
    private static final int NONE_STOPPED = 1 << TUBES, CANDIDATES = TUBES + 1;

    private final Pad pad = new Pad();
    private final Keeping now = new Keeping();
    private final Keeping image0 = new Keeping();
    private final Keeping image1 = new Keeping();
    private final boolean[] kept = new boolean[IMAGES];
    private final Route route = new Route();
    private final Day today = new Day();
    private final Orders orders = new Orders();
    private final Servants servants = new Servants();
    private final Stretches stretches = new Stretches();
    private final Distances distances = new Distances();
    private final Distances others = new Distances();

    public SpeakTubes() {
    }

    // ---- 1 the house

    public int say(int sign) {
        if (sign < 33 || sign > 126) {
            return OUTSIDE;
        }
        return pad.add(sign) ? pad.count : FULL;
    }

    public int wipe() {
        return pad.empty();
    }

    public int fault(int how) {
        if (how == 0) {
            return pad.houseFault();
        }
        return how == 1 ? pad.dayFault() : OUTSIDE;
    }

    public int house() {
        if (pad.houseFault() != NONE) {
            return NO;
        }
        now.house.read(pad);
        pad.empty();
        now.waiting = 0;
        now.beginTries();
        return now.house.count;
    }

    public int tube(int tube, int what) {
        if (tube < 0 || tube >= now.house.count) {
            return UNKNOWN;
        }
        switch (what) {
            case 0:
                return now.house.first[tube];
            case 1:
                return now.house.other[tube];
            case 2:
                return now.house.kind[tube];
            case 3:
                return now.house.length[tube];
            default:
                return OUTSIDE;
        }
    }

    public int set(int which, int v) {
        if (which == 0 && within(v, 1, MOST_CARRIES)) {
            int was = now.carries;
            now.carries = v;
            return was;
        }
        if (which == 1 && within(v, 0, ALL_BITS)) {
            int was = now.stoppers;
            now.stoppers = v;
            return was;
        }
        return OUTSIDE;
    }

    public int way(int from, int to, int i) {
        if (!twoRooms(from, to)) {
            return UNKNOWN;
        }
        if (!route.find(now, from, to, 0)) {
            return NONE;
        }
        if (i == -1) {
            return route.length;
        }
        if (i == -2) {
            return route.count;
        }
        return i >= 0 && i < route.count ? route.tubes[i] : NONE;
    }

    public int loud(int from, int to, int room) {
        if (!twoRooms(from, to) || !isRoom(room)) {
            return UNKNOWN;
        }
        return route.find(now, from, to, 0) ? route.loudness(now, room) : NONE;
    }

    public int heard(int from, int to) {
        if (!twoRooms(from, to)) {
            return UNKNOWN;
        }
        return route.find(now, from, to, 0) ? route.hearers(now.house, now.stoppers) : NONE;
    }

    // ---- 2 days

    public int judge(int what) {
        if (!within(what, 0, 1)) {
            return OUTSIDE;
        }
        if (pad.dayFault() != NONE) {
            return NO;
        }
        today.run(pad, now, route, now.stoppers);
        if (today.why == 0) {
            return NONE;
        }
        return what == 0 ? today.begun : today.why;
    }

    public int day(int what) {
        if (!within(what, 0, 2)) {
            return OUTSIDE;
        }
        if (pad.dayFault() != NONE) {
            return NO;
        }
        today.run(pad, now, route, now.stoppers);
        if (today.why != 0) {
            return STATE;
        }
        if (what == 0) {
            return today.last;
        }
        return what == 1 ? today.most : today.used;
    }

    public int know(int room, int matters) {
        if (!isRoom(room)) {
            return UNKNOWN;
        }
        if (!within(matters, 0, ALL_BITS)) {
            return OUTSIDE;
        }
        int was = now.matters[room];
        now.matters[room] = matters;
        return was;
    }

    public int knows(int room, int could) {
        if (!isRoom(room)) {
            return UNKNOWN;
        }
        if (!within(could, 0, 1)) {
            return OUTSIDE;
        }
        if (pad.dayFault() != NONE) {
            return NO;
        }
        today.run(pad, now, route, could == 1 ? 0 : now.stoppers);
        return today.why == 0 ? today.known[room] : STATE;
    }

    // ---- 3 calls that wait

    public int call(int from, int to, int minutes, int due) {
        if (!twoRooms(from, to)) {
            return UNKNOWN;
        }
        if (!within(minutes, 1, MOST_MINUTES) || !within(due, 1, MOST_DUE)) {
            return OUTSIDE;
        }
        return now.addWaiting(from, to, minutes, due) ? now.waiting - 1 : FULL;
    }

    public int clear() {
        int were = now.waiting;
        now.waiting = 0;
        return were;
    }

    public int soonest(int i) {
        if (!orders.gather(now, route)) {
            return NONE;
        }
        orders.seek(false);
        return i == -1 ? orders.minute : orders.callAt(i);
    }

    public int byDue(int i) {
        if (!orders.gather(now, route)) {
            return NONE;
        }
        orders.seek(true);
        if (!orders.found) {
            return NONE;
        }
        return i == -1 ? 1 : orders.callAt(i);
    }

    public int locked(int set, int rule) {
        if (set < 0 || set >= 1 << now.waiting || !within(rule, 0, 1)) {
            return OUTSIDE;
        }
        if (!servants.gather(now, route, set, rule)) {
            return STATE;
        }
        int standing = servants.leastLocked();
        return standing == 0 ? NONE : 1000000 + standing;
    }

    // ---- 4 stretches that are stopped, further ones

    public int tried(int from, int to, boolean heard) {
        if (!twoRooms(from, to)) {
            return UNKNOWN;
        }
        if (!route.find(now, from, to, 0)) {
            return STATE;
        }
        if (now.tries >= MOST_TRIES) {
            return FULL;
        }
        now.tries++;
        now.canBe &= heard ? ~route.mask : route.mask;
        return Integer.bitCount(now.canBe);
    }

    public int forget() {
        int were = now.tries;
        now.beginTries();
        return were;
    }

    public int stopped(int what) {
        if (!within(what, 0, 2)) {
            return OUTSIDE;
        }
        if (what == 0) {
            return now.canBe;
        }
        stretches.gather(now, route);
        return what == 1 ? stretches.nextTry(now.canBe) : stretches.fewestTries(now.canBe);
    }

    public int far(int from, int to) {
        if (!twoRooms(from, to)) {
            return UNKNOWN;
        }
        return route.find(now, from, to, 0) ? route.length : NO_WAY;
    }

    public int further(int length, int what) {
        if (!within(length, 1, MOST_LENGTH) || !within(what, 0, 2)) {
            return OUTSIDE;
        }
        distances.measure(now, 0);
        if (what == 2) {
            return distances.sum();
        }
        int least = 0;
        int rooms = NONE;
        for (int one = 0; one < ROOMS; one++) {
            for (int other = one + 1; other < ROOMS; other++) {
                int sum = distances.sumWith(one, other, length, now.carries);
                if (rooms == NONE || sum < least) {
                    least = sum;
                    rooms = 10 * one + other;
                }
            }
        }
        return what == 0 ? rooms : least;
    }

    public int bridges() {
        distances.measure(now, 0);
        int found = 0;
        for (int t = 0; t < now.house.count; t++) {
            others.measure(now, 1 << t);
            if (others.lacksOneOf(distances)) {
                found |= 1 << t;
            }
        }
        return found;
    }

    public int image(int n) {
        if (!within(n, 0, IMAGES - 1)) {
            return OUTSIDE;
        }
        imageOf(n).copy(now);
        kept[n] = true;
        return 1;
    }

    public int restore(int n) {
        if (!within(n, 0, IMAGES - 1)) {
            return OUTSIDE;
        }
        if (!kept[n]) {
            return STATE;
        }
        now.copy(imageOf(n));
        return 1;
    }

    private Keeping imageOf(int n) {
        return n == 0 ? image0 : image1;
    }

    public int told(int what) {
        if (within(what, 10, 9 + ROOMS)) {
            return now.matters[what - 10];
        }
        switch (what) {
            case 0:
                return pad.count;
            case 1:
                return now.house.count;
            case 2:
                return now.carries;
            case 3:
                return now.stoppers;
            case 4:
                return now.waiting;
            case 5:
                return now.tries;
            default:
                return OUTSIDE;
        }
    }

    private static boolean within(int v, int least, int most) {
        return v >= least && v <= most;
    }

    private static boolean isRoom(int room) {
        return within(room, 0, ROOMS - 1);
    }

    private static boolean twoRooms(int one, int other) {
        return isRoom(one) && isRoom(other) && one != other;
    }

    /** The tubes that can not be taken: a double one only when a second one holds it. */
    private static int takenOf(int once, int twice, int doubles) {
        return once & ~doubles | twice;
    }

    /** The signs told so far, read as a house or as a day. */
    private static final class Pad {
        final int[] signs = new int[SIGNS];
        int count;

        boolean add(int sign) {
            if (count >= SIGNS) {
                return false;
            }
            signs[count] = sign;
            count++;
            return true;
        }

        int empty() {
            int were = count;
            count = 0;
            return were;
        }

        /** 0, which no sign is, where none stands: so what is missing is a fault at its own place. */
        int signAt(int place) {
            return place >= 0 && place < count && place < SIGNS ? signs[place] : 0;
        }

        boolean roomAt(int place) {
            return within(signAt(place), 'A', 'A' + ROOMS - 1);
        }

        boolean otherRoomAt(int place, int room) {
            return roomAt(place) && signAt(place) != signAt(room);
        }

        boolean digitAt(int place) {
            return within(signAt(place), '1', '9');
        }

        boolean kindAt(int place) {
            int sign = signAt(place);
            return sign == '-' || sign == '>' || sign == '~' || sign == '=' || sign == 'x';
        }

        int roomOf(int place) {
            return signAt(place) - 'A';
        }

        int numberOf(int place) {
            return signAt(place) - '0';
        }

        int houseFault() {
            int place = 0;
            for (int t = 0; t < TUBES && place < count; t++) {
                if (!roomAt(place)) {
                    return place;
                }
                if (!kindAt(place + 1)) {
                    return place + 1;
                }
                if (!otherRoomAt(place + 2, place)) {
                    return place + 2;
                }
                if (!digitAt(place + 3)) {
                    return place + 3;
                }
                place += 4;
            }
            return place < count ? place : NONE;
        }

        int dayFault() {
            int place = 0;
            for (int part = 0; part < PARTS && place < count; part++) {
                int digit = place + 1;
                if (signAt(place) != '.') {
                    if (!roomAt(place)) {
                        return place;
                    }
                    if (!otherRoomAt(place + 1, place)) {
                        return place + 1;
                    }
                    digit = place + 2;
                }
                if (!digitAt(digit)) {
                    return digit;
                }
                place = digit + 1;
            }
            return place < count ? place : NONE;
        }
    }

    /** The tubes. */
    private static final class House {
        final int[] first = new int[TUBES];
        final int[] other = new int[TUBES];
        final int[] kind = new int[TUBES];
        final int[] length = new int[TUBES];
        int count;

        /** Only of a pad that has no fault as a house. */
        void read(Pad pad) {
            count = 0;
            for (int t = 0; t < TUBES && 4 * t < pad.count; t++) {
                first[t] = pad.roomOf(4 * t);
                kind[t] = pad.signAt(4 * t + 1);
                other[t] = pad.roomOf(4 * t + 2);
                length[t] = pad.numberOf(4 * t + 3);
                count++;
            }
        }

        void copy(House house) {
            System.arraycopy(house.first, 0, first, 0, TUBES);
            System.arraycopy(house.other, 0, other, 0, TUBES);
            System.arraycopy(house.kind, 0, kind, 0, TUBES);
            System.arraycopy(house.length, 0, length, 0, TUBES);
            count = house.count;
        }

        /** The room to which a tube leads from a room; NONE if it does not. */
        int beyond(int t, int room) {
            if (kind[t] == 'x') {
                return NONE;
            }
            if (first[t] == room) {
                return other[t];
            }
            return other[t] == room && kind[t] != '>' ? first[t] : NONE;
        }

        int ofKind(int sign) {
            int tubes = 0;
            for (int t = 0; t < count; t++) {
                if (kind[t] == sign) {
                    tubes |= 1 << t;
                }
            }
            return tubes;
        }
    }

    /** All that an image keeps. */
    private static final class Keeping {
        final House house = new House();
        int carries = FIRST_CARRIES;
        int stoppers = ALL_BITS;
        final int[] matters = new int[ROOMS];
        final int[] from = new int[WAITING];
        final int[] to = new int[WAITING];
        final int[] minutes = new int[WAITING];
        final int[] due = new int[WAITING];
        int waiting;
        int tries;
        int canBe = NONE_STOPPED;

        void copy(Keeping image) {
            house.copy(image.house);
            carries = image.carries;
            stoppers = image.stoppers;
            System.arraycopy(image.matters, 0, matters, 0, ROOMS);
            System.arraycopy(image.from, 0, from, 0, WAITING);
            System.arraycopy(image.to, 0, to, 0, WAITING);
            System.arraycopy(image.minutes, 0, minutes, 0, WAITING);
            System.arraycopy(image.due, 0, due, 0, WAITING);
            waiting = image.waiting;
            tries = image.tries;
            canBe = image.canBe;
        }

        void beginTries() {
            tries = 0;
            canBe = (1 << house.count) - 1 & ~house.ofKind('x') | NONE_STOPPED;
        }

        boolean addWaiting(int first, int other, int lasts, int by) {
            if (waiting >= WAITING) {
                return false;
            }
            from[waiting] = first;
            to[waiting] = other;
            minutes[waiting] = lasts;
            due[waiting] = by;
            waiting++;
            return true;
        }
    }

    /** THE WAY that was looked for last. */
    private static final class Route {
        /** A tube's cost holds its length above these bits and 1 below: the fewer tubes decide when lengths are alike. */
        static final int COUNT_BITS = 4, ENDLESS = 1 << 20;

        final int[] cost = new int[ROOMS];
        final int[] tubes = new int[ROOMS];
        final int[] rooms = new int[ROOMS];
        int count;
        int length;
        int mask;

        boolean find(Keeping now, int from, int to, int barred) {
            aim(now.house, to, barred);
            return walk(now, from, to, barred);
        }

        /** What it costs to come to a room from every room; walks to it need this first. */
        void aim(House house, int to, int barred) {
            for (int room = 0; room < ROOMS; room++) {
                cost[room] = room == to ? 0 : ENDLESS;
            }
            boolean nearer = true;
            for (int round = 0; round < ROOMS && nearer; round++) {
                nearer = false;
                for (int t = 0; t < house.count; t++) {
                    if ((barred >> t & 1) == 0 && bringsNearer(house, t)) {
                        nearer = true;
                    }
                }
            }
        }

        private boolean bringsNearer(House house, int t) {
            int one = house.first[t];
            int other = house.other[t];
            int kind = house.kind[t];
            int step = stepOf(house, t);
            if (kind != 'x' && cost[other] + step < cost[one]) {
                cost[one] = cost[other] + step;
                return true;
            }
            if (kind != 'x' && kind != '>' && cost[one] + step < cost[other]) {
                cost[other] = cost[one] + step;
                return true;
            }
            return false;
        }

        private static int stepOf(House house, int t) {
            return (house.length[t] << COUNT_BITS) + 1;
        }

        /** Each time the least tube that still keeps to the least cost: so the numbers are the first, too. */
        boolean walk(Keeping now, int from, int to, int barred) {
            count = 0;
            length = 0;
            mask = 0;
            rooms[0] = from;
            if (cost[from] >> COUNT_BITS > now.carries) {
                return false;
            }
            int at = from;
            for (int step = 1; step < ROOMS && at != to; step++) {
                int t = nextTube(now.house, at, barred);
                if (t == NONE) {
                    return false;
                }
                at = now.house.beyond(t, at);
                tubes[count] = t;
                count = step;
                rooms[step] = at;
                length += now.house.length[t];
                mask |= 1 << t;
            }
            return at == to;
        }

        private int nextTube(House house, int at, int barred) {
            for (int t = 0; t < house.count; t++) {
                int next = house.beyond(t, at);
                if ((barred >> t & 1) == 0 && next != NONE && cost[next] + stepOf(house, t) == cost[at]) {
                    return t;
                }
            }
            return NONE;
        }

        int loudness(Keeping now, int room) {
            int left = now.carries;
            for (int i = 0; i <= count; i++) {
                if (rooms[i] == room) {
                    return left;
                }
                if (i < count) {
                    left -= now.house.length[tubes[i]];
                }
            }
            return NONE;
        }

        int hearers(House house, int stoppers) {
            int heard = 1 << rooms[count];
            for (int i = 0; i < count; i++) {
                if (i > 0 && (stoppers >> rooms[i] & 1) == 0) {
                    heard |= 1 << rooms[i];
                }
                if (house.kind[tubes[i]] == '~') {
                    heard |= 1 << rooms[i] | 1 << rooms[i + 1];
                }
            }
            return heard;
        }
    }

    /** A day gone through: as far as its calls can begin. */
    private static final class Day {
        final int[] rooms = new int[PARTS];
        final int[] over = new int[PARTS];
        final int[] tubes = new int[PARTS];
        final int[] hearers = new int[PARTS];
        final int[] brings = new int[PARTS];
        final boolean[] ended = new boolean[PARTS];
        final int[] known = new int[ROOMS];
        int begun;
        int minute;
        int last;
        int most;
        int used;
        int why;

        /** Only of a pad that has no fault as a day. */
        void run(Pad pad, Keeping now, Route route, int stoppers) {
            System.arraycopy(now.matters, 0, known, 0, ROOMS);
            begun = 0;
            minute = 0;
            last = 0;
            most = 0;
            used = 0;
            why = 0;
            int place = 0;
            for (int part = 0; part < PARTS && place < pad.count && why == 0; part++) {
                if (pad.signAt(place) == '.') {
                    minute += pad.numberOf(place + 1);
                    endCalls();
                    place += 2;
                } else {
                    int from = pad.roomOf(place);
                    int to = pad.roomOf(place + 1);
                    why = whyNot(from, to, now, route);
                    if (why == 0) {
                        beginCall(from, to, pad.numberOf(place + 2), route, route.hearers(now.house, stoppers));
                    }
                    place += 3;
                }
            }
            minute = Math.max(minute, last);
            endCalls();
        }

        private void beginCall(int from, int to, int minutes, Route route, int heard) {
            if (begun >= PARTS) {
                return;
            }
            rooms[begun] = 1 << from | 1 << to;
            over[begun] = minute + minutes;
            tubes[begun] = route.mask;
            hearers[begun] = heard | rooms[begun];
            brings[begun] = known[from];
            ended[begun] = false;
            last = Math.max(last, over[begun]);
            used |= route.mask;
            begun++;
            most = Math.max(most, goingOn());
        }

        /** 0 when it can begin: then the route is its way. */
        private int whyNot(int from, int to, Keeping now, Route route) {
            int busy = 0;
            int once = 0;
            int twice = 0;
            for (int c = 0; c < begun; c++) {
                if (!ended[c]) {
                    busy |= rooms[c];
                    twice |= once & tubes[c];
                    once |= tubes[c];
                }
            }
            if (!route.find(now, from, to, 0)) {
                return 1;
            }
            if ((busy >> from & 1) != 0) {
                return 2;
            }
            if ((busy >> to & 1) != 0) {
                return 3;
            }
            return route.find(now, from, to, takenOf(once, twice, now.house.ofKind('='))) ? 0 : 4;
        }

        private int goingOn() {
            int calls = 0;
            for (int c = 0; c < begun; c++) {
                if (!ended[c]) {
                    calls++;
                }
            }
            return calls;
        }

        /** In no order of their ends: what a call brings was settled when it began. */
        private void endCalls() {
            for (int c = 0; c < begun; c++) {
                if (!ended[c] && over[c] <= minute) {
                    ended[c] = true;
                    for (int room = 0; room < ROOMS; room++) {
                        if ((hearers[c] >> room & 1) != 0) {
                            known[room] |= brings[c];
                        }
                    }
                }
            }
        }
    }

    /** Orders of the waiting calls, gone through by numbers. */
    private static final class Orders {
        /** Five calls have 120 orders; 45 minutes, five times the longest call, are enough for all, so a minute is a bit of a long. */
        static final int ALL_ORDERS = 120, LATE = 64;

        final int[] rooms = new int[WAITING];
        final int[] tubes = new int[WAITING];
        final int[] minutes = new int[WAITING];
        final int[] due = new int[WAITING];
        final int[] order = new int[WAITING];
        final int[] best = new int[WAITING];
        final long[] spans = new long[WAITING];
        int count;
        int doubles;
        int minute;
        boolean found;

        /** Whether every waiting call has a way. */
        boolean gather(Keeping now, Route route) {
            count = now.waiting;
            doubles = now.house.ofKind('=');
            for (int c = 0; c < count; c++) {
                if (!route.find(now, now.from[c], now.to[c], 0)) {
                    return false;
                }
                rooms[c] = 1 << now.from[c] | 1 << now.to[c];
                tubes[c] = route.mask;
                minutes[c] = now.minutes[c];
                due[c] = now.due[c];
            }
            return true;
        }

        void seek(boolean inTime) {
            for (int c = 0; c < WAITING; c++) {
                order[c] = c;
            }
            found = false;
            minute = LATE;
            boolean more = true;
            for (int n = 0; n < ALL_ORDERS && more; n++) {
                int end = orderEnd(inTime);
                if (end < minute) {
                    minute = end;
                    found = true;
                    System.arraycopy(order, 0, best, 0, WAITING);
                }
                more = !(inTime && found) && nextOrder();
            }
        }

        int callAt(int i) {
            return i >= 0 && i < count ? best[i] : NONE;
        }

        /** The minute by which all of this order are over; LATE if they are to be in time and one is not. */
        private int orderEnd(boolean inTime) {
            int end = 0;
            for (int i = 0; i < count; i++) {
                int c = order[i];
                int begin = firstFree(busyMinutes(i), minutes[c]);
                int over = begin + minutes[c];
                if (inTime && over > due[c]) {
                    return LATE;
                }
                spans[i] = span(begin, minutes[c]);
                end = Math.max(end, over);
            }
            return end;
        }

        private static long span(int begin, int minutes) {
            return (1L << minutes) - 1L << begin;
        }

        private static int firstFree(long busy, int minutes) {
            for (int begin = 0; begin < LATE - MOST_MINUTES; begin++) {
                if ((busy & span(begin, minutes)) == 0L) {
                    return begin;
                }
            }
            return LATE;
        }

        /** Minutes in which a call's rooms or tubes are in calls ahead of it in the order. */
        private long busyMinutes(int place) {
            long busy = 0L;
            int c = order[place];
            for (int i = 0; i < place; i++) {
                int ahead = order[i];
                int shared = tubes[c] & tubes[ahead];
                if ((rooms[c] & rooms[ahead]) != 0 || (shared & ~doubles) != 0) {
                    busy |= spans[i];
                } else {
                    busy |= spans[i] & minutesOf(shared, i);
                }
            }
            return busy;
        }

        /** Minutes in which one of these tubes is in a call ahead of a place. */
        private long minutesOf(int shared, int place) {
            long together = 0L;
            for (int i = 0; i < place; i++) {
                if ((tubes[order[i]] & shared) != 0) {
                    together |= spans[i];
                }
            }
            return together;
        }

        /** The next order by numbers; whether there is one. */
        private boolean nextOrder() {
            int turn = count - 2;
            while (turn >= 0 && order[turn] > order[turn + 1]) {
                turn--;
            }
            if (turn < 0) {
                return false;
            }
            int next = count - 1;
            while (next > turn + 1 && order[next] < order[turn]) {
                next--;
            }
            swap(turn, next);
            for (int low = turn + 1, high = count - 1; low < high; low++, high--) {
                swap(low, high);
            }
            return true;
        }

        private void swap(int one, int other) {
            int c = order[one];
            order[one] = order[other];
            order[other] = c;
        }
    }

    /**
     * Servants of waiting calls. Every standing in which no tube is held too often can come: those that
     * have done go first, one behind another, then the others take what they hold. So no standing is
     * followed step by step. In the least locked one whoever holds nothing may as well have done.
     */
    private static final class Servants {
        final int[][] takes = new int[WAITING][ROOMS];
        final int[] counts = new int[WAITING];
        int doubles;

        /** Whether every call of the set has a way. */
        boolean gather(Keeping now, Route route, int set, int rule) {
            doubles = now.house.ofKind('=');
            for (int c = 0; c < WAITING; c++) {
                counts[c] = 0;
                if ((set >> c & 1) != 0) {
                    if (!route.find(now, now.from[c], now.to[c], 0)) {
                        return false;
                    }
                    if (rule == 0) {
                        takeAsTheyCome(c, route);
                    } else {
                        takeByNumbers(c, route);
                    }
                }
            }
            return true;
        }

        private void takeAsTheyCome(int c, Route route) {
            System.arraycopy(route.tubes, 0, takes[c], 0, ROOMS);
            counts[c] = route.count;
        }

        private void takeByNumbers(int c, Route route) {
            for (int t = 0; t < TUBES && counts[c] < ROOMS; t++) {
                if ((route.mask >> t & 1) != 0) {
                    takes[c][counts[c]] = t;
                    counts[c]++;
                }
            }
        }

        /** The least locked standing as a number; 0: none can come. */
        int leastLocked() {
            return leastFrom(this, 0, 0, 0, 0, 0);
        }

        /** wanted: the next tubes of those that hold some, ahead of this call. */
        private static int leastFrom(Servants s, int call, int once, int twice, int wanted, int number) {
            if (call >= WAITING) {
                boolean stuck = wanted != 0 && (wanted & ~takenOf(once, twice, s.doubles)) == 0;
                return stuck ? number : 0;
            }
            int found = leastFrom(s, call + 1, once, twice, wanted, 10 * number);
            for (int holds = 1; holds < s.counts[call] && found == 0; holds++) {
                int last = 1 << s.takes[call][holds - 1];
                if ((takenOf(once, twice, s.doubles) & last) != 0) {
                    return 0;
                }
                twice |= once & last;
                once |= last;
                int next = 1 << s.takes[call][holds];
                found = leastFrom(s, call + 1, once, twice, wanted | next, 10 * number + holds);
            }
            return found;
        }
    }

    /** Tries that part the stretches of which one can be stopped. */
    private static final class Stretches {
        static final int NEVER = 99;

        final int[] ways = new int[ROOMS * ROOMS];
        final int[] parts = new int[ROOMS * ROOMS];
        int count;
        final int[] bounds = new int[CANDIDATES + 1];
        final byte[] fewest = new byte[1 << CANDIDATES];

        /** The tubes of every way there is now; 0 where there is none. */
        void gather(Keeping now, Route route) {
            for (int to = 0; to < ROOMS; to++) {
                route.aim(now.house, to, 0);
                for (int from = 0; from < ROOMS; from++) {
                    ways[ROOMS * from + to] = route.walk(now, from, to, 0) ? route.mask : 0;
                }
            }
        }

        int nextTry(int canBe) {
            int least = Integer.bitCount(canBe);
            int next = NONE;
            for (int from = 0; from < ROOMS; from++) {
                for (int to = 0; to < ROOMS; to++) {
                    int left = largerPart(canBe, ways[ROOMS * from + to]);
                    if (left < least) {
                        least = left;
                        next = 10 * from + to;
                    }
                }
            }
            return next;
        }

        private static int largerPart(int set, int part) {
            return Math.max(Integer.bitCount(set & part), Integer.bitCount(set & ~part));
        }

        int fewestTries(int canBe) {
            gatherParts(canBe);
            if (canBe == 0 || !allCanBeParted(canBe)) {
                return NONE;
            }
            layBounds(canBe);
            Arrays.fill(fewest, (byte) 0);
            return fewestOf(this, canBe, 0);
        }

        /** Ways that part the set, each kind of parting once; those that halve it best come first, as they lead to few tries. */
        private void gatherParts(int canBe) {
            count = 0;
            int size = Integer.bitCount(canBe);
            for (int larger = (size + 1) / 2; larger < size; larger++) {
                for (int way : ways) {
                    int part = way & canBe;
                    if (largerPart(canBe, way) == larger && !hasPart(part, canBe) && count < parts.length) {
                        parts[count] = part;
                        count++;
                    }
                }
            }
        }

        private boolean hasPart(int part, int canBe) {
            for (int i = 0; i < count; i++) {
                if (parts[i] == part || parts[i] == (canBe & ~part)) {
                    return true;
                }
            }
            return false;
        }

        private boolean allCanBeParted(int canBe) {
            for (int c = 0; c < CANDIDATES; c++) {
                int alike = canBe;
                for (int i = 0; i < count; i++) {
                    alike &= (parts[i] >> c & 1) != 0 ? parts[i] : ~parts[i];
                }
                if ((canBe >> c & 1) != 0 && alike != 1 << c) {
                    return false;
                }
            }
            return true;
        }

        /** Tries that so many candidates need at the least: none leaves less than half, nor takes more than the best part away. */
        private void layBounds(int canBe) {
            int best = 0;
            for (int i = 0; i < count; i++) {
                best = Math.max(best, Integer.bitCount(canBe) - largerPart(canBe, parts[i]));
            }
            for (int size = 2; size <= CANDIDATES; size++) {
                int left = Math.max((size + 1) / 2, size - best);
                bounds[size] = left < size ? 1 + bounds[left] : NEVER;
            }
        }

        /** Every level has one candidate less at the least: that bounds the depth. */
        private static int fewestOf(Stretches s, int set, int depth) {
            int size = Integer.bitCount(set);
            if (size <= 1 || size > CANDIDATES || depth > CANDIDATES || set >= s.fewest.length) {
                return 0;
            }
            if (s.fewest[set] != 0) {
                return s.fewest[set];
            }
            int least = NEVER;
            for (int i = 0; i < s.count && least > s.bounds[size]; i++) {
                int larger = largerPart(set, s.parts[i]);
                if (larger < size && 1 + s.bounds[larger] < least) {
                    int worse = fewestOf(s, set & s.parts[i], depth + 1);
                    worse = Math.max(worse, fewestOf(s, set & ~s.parts[i], depth + 1));
                    least = Math.min(least, 1 + worse);
                }
            }
            s.fewest[set] = (byte) least;
            return least;
        }
    }

    /** How far every room is from every other one. */
    private static final class Distances {
        final int[] lengths = new int[ROOMS * ROOMS];

        void measure(Keeping now, int barred) {
            for (int i = 0; i < lengths.length; i++) {
                lengths[i] = i % (ROOMS + 1) == 0 ? 0 : NO_WAY;
            }
            for (int t = 0; t < now.house.count; t++) {
                if ((barred >> t & 1) == 0) {
                    layTube(now.house, t);
                }
            }
            for (int by = 0; by < ROOMS; by++) {
                goBy(by);
            }
            for (int i = 0; i < lengths.length; i++) {
                lengths[i] = carried(lengths[i], now.carries);
            }
        }

        private void layTube(House house, int t) {
            int there = ROOMS * house.first[t] + house.other[t];
            int back = ROOMS * house.other[t] + house.first[t];
            if (house.kind[t] != 'x') {
                lengths[there] = Math.min(lengths[there], house.length[t]);
                if (house.kind[t] != '>') {
                    lengths[back] = Math.min(lengths[back], house.length[t]);
                }
            }
        }

        private void goBy(int by) {
            for (int from = 0; from < ROOMS; from++) {
                for (int to = 0; to < ROOMS; to++) {
                    int length = lengths[ROOMS * from + by] + lengths[ROOMS * by + to];
                    lengths[ROOMS * from + to] = Math.min(lengths[ROOMS * from + to], length);
                }
            }
        }

        private static int carried(int length, int carries) {
            return length <= carries ? length : NO_WAY;
        }

        int sum() {
            int sum = 0;
            for (int length : lengths) {
                sum += length;
            }
            return sum;
        }

        /** As if a plain tube more lay there. */
        int sumWith(int one, int other, int length, int carries) {
            int sum = 0;
            for (int from = 0; from < ROOMS; from++) {
                int toOne = lengths[ROOMS * from + one] + length;
                int toOther = lengths[ROOMS * from + other] + length;
                for (int to = 0; to < ROOMS; to++) {
                    int there = toOne + lengths[ROOMS * other + to];
                    int back = toOther + lengths[ROOMS * one + to];
                    int least = Math.min(lengths[ROOMS * from + to], Math.min(there, back));
                    sum += carried(least, carries);
                }
            }
            return sum;
        }

        boolean lacksOneOf(Distances whole) {
            for (int i = 0; i < lengths.length; i++) {
                if (lengths[i] == NO_WAY && whole.lengths[i] != NO_WAY) {
                    return true;
                }
            }
            return false;
        }
    }
}
