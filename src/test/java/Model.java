import java.util.ArrayDeque;
import java.util.ArrayList;
import java.util.Collections;
import java.util.HashMap;
import java.util.HashSet;
import java.util.List;
import java.util.Map;
import java.util.Set;

/**
 * The document once more, told at length and by other means than the program's: every way is written out,
 * standings are followed step by step, days minute by minute. ModelTest holds the two against each other.
 */
final class Model {
    static final int UNKNOWN = -1, OUTSIDE = -2, STATE = -3, FULL = -4, NO = -5, NONE = -6;

    record Tube(int first, int other, char kind, int length) {
        int beyond(int room) {
            if (kind == 'x') {
                return -1;
            }
            if (room == first) {
                return other;
            }
            return room == other && kind != '>' ? first : -1;
        }
    }

    record Waiting(int from, int to, int minutes, int due) {
    }

    record Image(List<Tube> tubes, int carries, int stoppers, List<Integer> matters, List<Waiting> waiting, int tries, int canBe) {
    }

    private String pad = "";
    private List<Tube> tubes = new ArrayList<>();
    private int carries = 20;
    private int stoppers = 255;
    private List<Integer> matters = new ArrayList<>(Collections.nCopies(8, 0));
    private List<Waiting> waiting = new ArrayList<>();
    private int tries = 0;
    private int canBe = 4096;
    private final Image[] images = new Image[2];

    // ---- ways

    private static boolean room(int room) {
        return room >= 0 && room < 8;
    }

    private static boolean pair(int from, int to) {
        return room(from) && room(to) && from != to;
    }

    private List<List<Integer>> allWays(int from, int to, int barred) {
        List<List<Integer>> found = new ArrayList<>();
        spread(from, to, barred, 1 << from, new ArrayList<>(), found);
        return found;
    }

    private void spread(int at, int to, int barred, int been, List<Integer> way, List<List<Integer>> found) {
        if (at == to) {
            if (lengthOf(way) <= carries) {
                found.add(new ArrayList<>(way));
            }
            return;
        }
        for (int t = 0; t < tubes.size(); t++) {
            int next = tubes.get(t).beyond(at);
            if ((barred >> t & 1) == 0 && next >= 0 && (been >> next & 1) == 0) {
                way.add(t);
                spread(next, to, barred, been | 1 << next, way, found);
                way.remove(way.size() - 1);
            }
        }
    }

    private int lengthOf(List<Integer> way) {
        int sum = 0;
        for (int t : way) {
            sum += tubes.get(t).length;
        }
        return sum;
    }

    private boolean ahead(List<Integer> one, List<Integer> other) {
        if (lengthOf(one) != lengthOf(other)) {
            return lengthOf(one) < lengthOf(other);
        }
        if (one.size() != other.size()) {
            return one.size() < other.size();
        }
        for (int i = 0; i < one.size(); i++) {
            if (!one.get(i).equals(other.get(i))) {
                return one.get(i) < other.get(i);
            }
        }
        return false;
    }

    private List<Integer> theWay(int from, int to, int barred) {
        List<Integer> best = null;
        for (List<Integer> way : allWays(from, to, barred)) {
            if (best == null || ahead(way, best)) {
                best = way;
            }
        }
        return best;
    }

    private static int maskOf(List<Integer> way) {
        int mask = 0;
        for (int t : way) {
            mask |= 1 << t;
        }
        return mask;
    }

    private List<Integer> roomsOf(int from, List<Integer> way) {
        List<Integer> rooms = new ArrayList<>(List.of(from));
        for (int t : way) {
            rooms.add(tubes.get(t).beyond(rooms.get(rooms.size() - 1)));
        }
        return rooms;
    }

    private Set<Integer> hearers(int from, List<Integer> way, int stoppers) {
        List<Integer> rooms = roomsOf(from, way);
        Set<Integer> heard = new HashSet<>();
        heard.add(rooms.get(rooms.size() - 1));
        for (int i = 1; i < rooms.size() - 1; i++) {
            if ((stoppers >> rooms.get(i) & 1) == 0) {
                heard.add(rooms.get(i));
            }
        }
        for (int t : way) {
            if (tubes.get(t).kind == '~') {
                heard.add(tubes.get(t).first);
                heard.add(tubes.get(t).other);
            }
        }
        return heard;
    }

    private static int bits(Iterable<Integer> numbers) {
        int bits = 0;
        for (int n : numbers) {
            bits |= 1 << n;
        }
        return bits;
    }

    private int capacity(int t) {
        return tubes.get(t).kind == '=' ? 2 : 1;
    }

    // ---- 1

    int say(int sign) {
        if (sign < 33 || sign > 126) {
            return OUTSIDE;
        }
        if (pad.length() == 60) {
            return FULL;
        }
        pad += (char) sign;
        return pad.length();
    }

    int wipe() {
        int were = pad.length();
        pad = "";
        return were;
    }

    private static boolean roomSign(String s, int i) {
        return s.charAt(i) >= 'A' && s.charAt(i) <= 'H';
    }

    /** Whether these signs are a beginning of a house. */
    private static boolean houseBegins(String s) {
        for (int i = 0; i < s.length(); i++) {
            boolean stands;
            switch (i % 4) {
                case 0:
                    stands = i < 48 && roomSign(s, i);
                    break;
                case 1:
                    stands = "->~=x".indexOf(s.charAt(i)) >= 0;
                    break;
                case 2:
                    stands = roomSign(s, i) && s.charAt(i) != s.charAt(i - 2);
                    break;
                default:
                    stands = s.charAt(i) >= '1' && s.charAt(i) <= '9';
            }
            if (!stands) {
                return false;
            }
        }
        return true;
    }

    /** The parts of a day; null: it is none, nor a beginning of one. The last one may not be whole. */
    private static List<String> parts(String s) {
        List<String> parts = new ArrayList<>();
        int i = 0;
        while (i < s.length()) {
            if (parts.size() == 20) {
                return null;
            }
            int size = s.charAt(i) == '.' ? 2 : 3;
            String part = s.substring(i, Math.min(s.length(), i + size));
            String form = size == 2 ? "\\.([1-9])?" : "[A-H]([A-H]([1-9])?)?";
            if (!part.matches(form) || size == 3 && part.length() > 1 && part.charAt(0) == part.charAt(1)) {
                return null;
            }
            parts.add(part);
            i += size;
        }
        return parts;
    }

    private static boolean whole(int how, String s) {
        if (how == 0) {
            return s.length() % 4 == 0;
        }
        int sum = 0;
        for (String part : parts(s)) {
            sum += part.charAt(0) == '.' ? 2 : 3;
        }
        return sum == s.length();
    }

    int fault(int how) {
        if (how != 0 && how != 1) {
            return OUTSIDE;
        }
        for (int n = 1; n <= pad.length(); n++) {
            String s = pad.substring(0, n);
            if (how == 0 ? !houseBegins(s) : parts(s) == null) {
                return n - 1;
            }
        }
        return whole(how, pad) ? NONE : pad.length();
    }

    int house() {
        if (fault(0) != NONE) {
            return NO;
        }
        tubes = new ArrayList<>();
        for (int i = 0; i < pad.length(); i += 4) {
            tubes.add(new Tube(pad.charAt(i) - 'A', pad.charAt(i + 2) - 'A', pad.charAt(i + 1), pad.charAt(i + 3) - '0'));
        }
        pad = "";
        waiting = new ArrayList<>();
        forget();
        return tubes.size();
    }

    int tube(int tube, int what) {
        if (tube < 0 || tube >= tubes.size()) {
            return UNKNOWN;
        }
        Tube t = tubes.get(tube);
        return what == 0 ? t.first : what == 1 ? t.other : what == 2 ? t.kind : what == 3 ? t.length : OUTSIDE;
    }

    int set(int which, int v) {
        int was = which == 0 ? carries : stoppers;
        if (which == 0 && v >= 1 && v <= 60) {
            carries = v;
            return was;
        }
        if (which == 1 && v >= 0 && v <= 255) {
            stoppers = v;
            return was;
        }
        return OUTSIDE;
    }

    int way(int from, int to, int i) {
        if (!pair(from, to)) {
            return UNKNOWN;
        }
        List<Integer> way = theWay(from, to, 0);
        if (way == null) {
            return NONE;
        }
        if (i == -1) {
            return lengthOf(way);
        }
        return i == -2 ? way.size() : i >= 0 && i < way.size() ? way.get(i) : NONE;
    }

    int loud(int from, int to, int room) {
        if (!pair(from, to) || !room(room)) {
            return UNKNOWN;
        }
        List<Integer> way = theWay(from, to, 0);
        if (way == null || !roomsOf(from, way).contains(room)) {
            return NONE;
        }
        return carries - lengthOf(way.subList(0, roomsOf(from, way).indexOf(room)));
    }

    int heard(int from, int to) {
        if (!pair(from, to)) {
            return UNKNOWN;
        }
        List<Integer> way = theWay(from, to, 0);
        return way == null ? NONE : bits(hearers(from, way, stoppers));
    }

    // ---- 2

    private static final class Going {
        int begins;
        int over;
        int from;
        int to;
        List<Integer> way;
        Set<Integer> hearers;
        int brings;
    }

    /** call, why, last, most, taken; or null for a fault. Into known goes what rooms know. */
    private int[] goThrough(int stoppers, List<Integer> known) {
        if (fault(1) != NONE) {
            return null;
        }
        List<Going> calls = new ArrayList<>();
        int minute = 0;
        int most = 0;
        int taken = 0;
        for (String part : parts(pad)) {
            if (part.charAt(0) == '.') {
                for (int n = part.charAt(1) - '0'; n > 0; n--) {
                    minute++;
                    endAt(calls, minute, known);
                }
                continue;
            }
            int from = part.charAt(0) - 'A';
            int to = part.charAt(1) - 'A';
            int why = whyNot(calls, minute, from, to);
            if (why != 0) {
                return new int[] {calls.size(), why};
            }
            Going call = new Going();
            call.begins = minute;
            call.over = minute + part.charAt(2) - '0';
            call.from = from;
            call.to = to;
            call.way = theWay(from, to, barredAt(calls, minute));
            call.hearers = hearers(from, call.way, stoppers);
            call.hearers.add(from);
            call.hearers.add(to);
            call.brings = known.get(from);
            calls.add(call);
            taken |= maskOf(call.way);
            int now = minute;
            most = Math.max(most, (int) calls.stream().filter(c -> c.over > now).count());
        }
        int last = calls.stream().mapToInt(c -> c.over).max().orElse(0);
        for (minute++; minute <= last; minute++) {
            endAt(calls, minute, known);
        }
        return new int[] {NONE, NONE, last, most, taken};
    }

    private static void endAt(List<Going> calls, int minute, List<Integer> known) {
        for (Going call : calls) {
            if (call.over == minute) {
                for (int room : call.hearers) {
                    known.set(room, known.get(room) | call.brings);
                }
            }
        }
    }

    private int barredAt(List<Going> calls, int minute) {
        int barred = 0;
        for (int t = 0; t < tubes.size(); t++) {
            int through = 0;
            for (Going call : calls) {
                if (call.over > minute && call.way.contains(t)) {
                    through++;
                }
            }
            if (through >= capacity(t)) {
                barred |= 1 << t;
            }
        }
        return barred;
    }

    private static boolean busyAt(List<Going> calls, int minute, int room) {
        return calls.stream().anyMatch(c -> c.over > minute && (c.from == room || c.to == room));
    }

    private int whyNot(List<Going> calls, int minute, int from, int to) {
        if (theWay(from, to, 0) == null) {
            return 1;
        }
        if (busyAt(calls, minute, from)) {
            return 2;
        }
        if (busyAt(calls, minute, to)) {
            return 3;
        }
        return theWay(from, to, barredAt(calls, minute)) == null ? 4 : 0;
    }

    int judge(int what) {
        if (what != 0 && what != 1) {
            return OUTSIDE;
        }
        int[] day = goThrough(stoppers, new ArrayList<>(matters));
        return day == null ? NO : day[what];
    }

    int day(int what) {
        if (what < 0 || what > 2) {
            return OUTSIDE;
        }
        int[] day = goThrough(stoppers, new ArrayList<>(matters));
        return day == null ? NO : day[0] != NONE ? STATE : day[2 + what];
    }

    int know(int room, int v) {
        if (!room(room)) {
            return UNKNOWN;
        }
        return v < 0 || v > 255 ? OUTSIDE : matters.set(room, v);
    }

    int knows(int room, int could) {
        if (!room(room)) {
            return UNKNOWN;
        }
        if (could != 0 && could != 1) {
            return OUTSIDE;
        }
        List<Integer> known = new ArrayList<>(matters);
        int[] day = goThrough(could == 1 ? 0 : stoppers, known);
        return day == null ? NO : day[0] != NONE ? STATE : known.get(room);
    }

    // ---- 3

    int call(int from, int to, int minutes, int due) {
        if (!pair(from, to)) {
            return UNKNOWN;
        }
        if (minutes < 1 || minutes > 9 || due < 1 || due > 60) {
            return OUTSIDE;
        }
        if (waiting.size() == 5) {
            return FULL;
        }
        waiting.add(new Waiting(from, to, minutes, due));
        return waiting.size() - 1;
    }

    int clear() {
        int were = waiting.size();
        waiting = new ArrayList<>();
        return were;
    }

    private static void orders(int n, List<Integer> order, List<List<Integer>> all) {
        if (order.size() == n) {
            all.add(new ArrayList<>(order));
        }
        for (int c = 0; c < n; c++) {
            if (!order.contains(c)) {
                order.add(c);
                orders(n, order, all);
                order.remove(order.size() - 1);
            }
        }
    }

    /** The minutes at which the calls of an order are over. */
    private int[] ends(List<Integer> order, List<List<Integer>> ways) {
        int[] begins = new int[5];
        int[] ends = new int[5];
        for (int i = 0; i < order.size(); i++) {
            int begin = 0;
            while (!free(order, i, begin, begins, ends, ways)) {
                begin++;
            }
            begins[order.get(i)] = begin;
            ends[order.get(i)] = begin + waiting.get(order.get(i)).minutes;
        }
        return ends;
    }

    private boolean free(List<Integer> order, int place, int begin, int[] begins, int[] ends, List<List<Integer>> ways) {
        Waiting mine = waiting.get(order.get(place));
        for (int minute = begin; minute < begin + mine.minutes; minute++) {
            int[] through = new int[12];
            for (int c : order.subList(0, place)) {
                Waiting call = waiting.get(c);
                if (minute < begins[c] || minute >= ends[c]) {
                    continue;
                }
                if (Set.of(call.from, call.to).contains(mine.from) || Set.of(call.from, call.to).contains(mine.to)) {
                    return false;
                }
                for (int t : ways.get(c)) {
                    through[t]++;
                }
            }
            for (int t : ways.get(order.get(place))) {
                if (through[t] >= capacity(t)) {
                    return false;
                }
            }
        }
        return true;
    }

    private List<List<Integer>> waysOfWaiting() {
        List<List<Integer>> ways = new ArrayList<>();
        for (Waiting call : waiting) {
            ways.add(theWay(call.from, call.to, 0));
        }
        return ways;
    }

    int soonest(int i) {
        List<List<Integer>> ways = waysOfWaiting();
        if (ways.contains(null)) {
            return NONE;
        }
        List<List<Integer>> all = new ArrayList<>();
        orders(waiting.size(), new ArrayList<>(), all);
        int least = 1000;
        List<Integer> best = null;
        for (List<Integer> order : all) {
            int last = 0;
            for (int end : ends(order, ways)) {
                last = Math.max(last, end);
            }
            if (last < least) {
                least = last;
                best = order;
            }
        }
        return i == -1 ? least : i >= 0 && i < best.size() ? best.get(i) : NONE;
    }

    int byDue(int i) {
        List<List<Integer>> ways = waysOfWaiting();
        if (ways.contains(null)) {
            return NONE;
        }
        List<List<Integer>> all = new ArrayList<>();
        orders(waiting.size(), new ArrayList<>(), all);
        for (List<Integer> order : all) {
            int[] ends = ends(order, ways);
            boolean inTime = true;
            for (int c : order) {
                inTime &= ends[c] <= waiting.get(c).due;
            }
            if (inTime) {
                return i == -1 ? 1 : i >= 0 && i < order.size() ? order.get(i) : NONE;
            }
        }
        return NONE;
    }

    int locked(int set, int rule) {
        if (set < 0 || set >= 1 << waiting.size() || rule < 0 || rule > 1) {
            return OUTSIDE;
        }
        List<List<Integer>> ways = waysOfWaiting();
        for (int c = 0; c < waiting.size(); c++) {
            if ((set >> c & 1) != 0 && ways.get(c) == null) {
                return STATE;
            }
            if ((set >> c & 1) == 0) {
                ways.set(c, List.of());
            } else if (rule == 1) {
                Collections.sort(ways.get(c));
            }
        }
        return leastLocked(ways);
    }

    private int leastLocked(List<List<Integer>> ways) {
        Set<List<Integer>> seen = new HashSet<>();
        ArrayDeque<List<Integer>> open = new ArrayDeque<>();
        List<Integer> begin = new ArrayList<>(Collections.nCopies(ways.size(), 0));
        open.add(begin);
        seen.add(begin);
        int least = NONE;
        while (!open.isEmpty()) {
            List<Integer> standing = open.poll();
            boolean some = false;
            boolean moved = false;
            for (int c = 0; c < ways.size(); c++) {
                if (standing.get(c) == ways.get(c).size()) {
                    continue;
                }
                some = true;
                if (held(standing, ways, ways.get(c).get(standing.get(c))) < capacity(ways.get(c).get(standing.get(c)))) {
                    moved = true;
                    List<Integer> next = new ArrayList<>(standing);
                    next.set(c, next.get(c) + 1);
                    if (seen.add(next)) {
                        open.add(next);
                    }
                }
            }
            if (some && !moved) {
                int number = numberOf(standing, ways);
                least = least == NONE ? number : Math.min(least, number);
            }
        }
        return least;
    }

    private static int held(List<Integer> standing, List<List<Integer>> ways, int t) {
        int by = 0;
        for (int c = 0; c < ways.size(); c++) {
            boolean done = standing.get(c) == ways.get(c).size();
            if (!done && ways.get(c).subList(0, standing.get(c)).contains(t)) {
                by++;
            }
        }
        return by;
    }

    private static int numberOf(List<Integer> standing, List<List<Integer>> ways) {
        int number = 0;
        for (int c = 0; c < 5; c++) {
            boolean holds = c < ways.size() && standing.get(c) < ways.get(c).size();
            number = 10 * number + (holds ? standing.get(c) : 0);
        }
        return 1000000 + number;
    }

    // ---- 4

    int tried(int from, int to, boolean heard) {
        if (!pair(from, to)) {
            return UNKNOWN;
        }
        List<Integer> way = theWay(from, to, 0);
        if (way == null) {
            return STATE;
        }
        if (tries == 99) {
            return FULL;
        }
        tries++;
        for (int c = 0; c <= 12; c++) {
            boolean wouldBeHeard = !way.contains(c);
            if (wouldBeHeard != heard) {
                canBe &= ~(1 << c);
            }
        }
        return Integer.bitCount(canBe);
    }

    int forget() {
        int were = tries;
        tries = 0;
        canBe = 4096;
        for (int t = 0; t < tubes.size(); t++) {
            if (tubes.get(t).kind != 'x') {
                canBe |= 1 << t;
            }
        }
        return were;
    }

    int stopped(int what) {
        if (what < 0 || what > 2) {
            return OUTSIDE;
        }
        if (what == 0) {
            return canBe;
        }
        Map<Integer, Integer> ways = new HashMap<>();
        for (int from = 0; from < 8; from++) {
            for (int to = 0; to < 8; to++) {
                List<Integer> way = from == to ? null : theWay(from, to, 0);
                if (way != null) {
                    ways.put(10 * from + to, maskOf(way));
                }
            }
        }
        if (what == 1) {
            return next(ways);
        }
        int fewest = fewest(canBe, new HashSet<>(ways.values()), new HashMap<>());
        return fewest > 12 ? NONE : fewest;
    }

    private int next(Map<Integer, Integer> ways) {
        int best = NONE;
        int least = Integer.bitCount(canBe);
        for (int rooms = 0; rooms < 88; rooms++) {
            if (ways.containsKey(rooms)) {
                int way = ways.get(rooms);
                int worse = Math.max(Integer.bitCount(canBe & way), Integer.bitCount(canBe & ~way));
                if (worse < least) {
                    least = worse;
                    best = rooms;
                }
            }
        }
        return best;
    }

    /** Over 12: it can not be. */
    private static int fewest(int set, Set<Integer> ways, Map<Integer, Integer> known) {
        if (set == 0) {
            return 99;
        }
        if (Integer.bitCount(set) == 1) {
            return 0;
        }
        if (known.containsKey(set)) {
            return known.get(set);
        }
        int least = 99;
        for (int way : ways) {
            if ((set & way) != 0 && (set & ~way) != 0) {
                int worse = Math.max(fewest(set & way, ways, known), fewest(set & ~way, ways, known));
                least = Math.min(least, 1 + worse);
            }
        }
        known.put(set, least);
        return least;
    }

    int far(int from, int to) {
        if (!pair(from, to)) {
            return UNKNOWN;
        }
        List<Integer> way = theWay(from, to, 0);
        return way == null ? 99 : lengthOf(way);
    }

    private int sum() {
        int sum = 0;
        for (int from = 0; from < 8; from++) {
            for (int to = 0; to < 8; to++) {
                sum += from == to ? 0 : far(from, to);
            }
        }
        return sum;
    }

    int further(int length, int what) {
        if (length < 1 || length > 9 || what < 0 || what > 2) {
            return OUTSIDE;
        }
        int least = Integer.MAX_VALUE;
        int rooms = 0;
        if (what == 2) {
            return sum();
        }
        for (int one = 0; one < 8; one++) {
            for (int other = one + 1; other < 8; other++) {
                tubes.add(new Tube(one, other, '-', length));
                int sum = sum();
                tubes.remove(tubes.size() - 1);
                if (sum < least) {
                    least = sum;
                    rooms = 10 * one + other;
                }
            }
        }
        return what == 0 ? rooms : least;
    }

    int bridges() {
        int found = 0;
        for (int t = 0; t < tubes.size(); t++) {
            for (int from = 0; from < 8; from++) {
                for (int to = 0; to < 8; to++) {
                    if (from != to && theWay(from, to, 0) != null && theWay(from, to, 1 << t) == null) {
                        found |= 1 << t;
                    }
                }
            }
        }
        return found;
    }

    int image(int n) {
        if (n != 0 && n != 1) {
            return OUTSIDE;
        }
        images[n] = new Image(List.copyOf(tubes), carries, stoppers, List.copyOf(matters), List.copyOf(waiting), tries, canBe);
        return 1;
    }

    int restore(int n) {
        if (n != 0 && n != 1) {
            return OUTSIDE;
        }
        if (images[n] == null) {
            return STATE;
        }
        tubes = new ArrayList<>(images[n].tubes);
        carries = images[n].carries;
        stoppers = images[n].stoppers;
        matters = new ArrayList<>(images[n].matters);
        waiting = new ArrayList<>(images[n].waiting);
        tries = images[n].tries;
        canBe = images[n].canBe;
        return 1;
    }

    int told(int what) {
        if (what >= 10 && what <= 17) {
            return matters.get(what - 10);
        }
        int[] all = {pad.length(), tubes.size(), carries, stoppers, waiting.size(), tries};
        return what >= 0 && what < all.length ? all[what] : OUTSIDE;
    }
}
