import java.util.ArrayDeque;
import java.util.ArrayList;
import java.util.HashMap;
import java.util.List;
import java.util.Map;
import java.util.TreeMap;
import java.util.regex.Matcher;
import java.util.regex.Pattern;

/**
 * The document told a second time, in another way, so that both can be compared: he walks mile by mile over a graph
 * of places, and nothing is worked out by the shorter end of a road.
 */
final class Model {
    static final int HOURS = 1400;

    private static final Pattern TOKEN = Pattern.compile("([a-z]+)|([0-9]+)|(;)|.", Pattern.DOTALL);

    static final class Told {
        final List<Integer> bids = new ArrayList<>();
        final List<int[]> roads = new ArrayList<>();
        final List<int[]> stops = new ArrayList<>();
        /** From each place the miles to the towns that can be reached; towns first, then by roads and miles. */
        final TreeMap<Integer, Map<Integer, Integer>> places = new TreeMap<>();
        final int[] place = new int[HOURS];
        final int[] road = new int[HOURS];
        final int[] gone = new int[HOURS];
        final int[] come = new int[HOURS];
        final List<Integer> comes = new ArrayList<>();
    }

    final StringBuilder text = new StringBuilder();
    Told land = new Told();
    int now = 0;
    List<int[]> seen = new ArrayList<>();
    int[] keptNow = new int[2];
    List<List<int[]>> kept = noImages();
    long trace = 0;

    Model() {
        walk(land);
    }

    private static List<List<int[]>> noImages() {
        List<List<int[]>> images = new ArrayList<>();
        images.add(null);
        images.add(null);
        return images;
    }

    // ---- reading

    /** Refuses the token at the matcher's place. */
    private static final class Fault extends RuntimeException {
        private static final long serialVersionUID = 1L;
        final int place;

        Fault(int place) {
            super(null, null, false, false);
            this.place = place;
        }
    }

    private static final class Tokens {
        final String text;
        final Matcher matcher;
        int place = 0;

        Tokens(String text) {
            this.text = text;
            this.matcher = TOKEN.matcher(text);
        }

        /** Empty at the end of the text. */
        String take() {
            while (place < text.length() && text.charAt(place) == ' ') place++;
            if (place == text.length()) return "";
            matcher.find(place);
            place = matcher.end();
            return matcher.group();
        }

        int placeOf(String token) {
            return place - token.length();
        }

        void want(boolean good, String token) {
            if (!good) throw new Fault(placeOf(token));
        }

        int number(int least, int most) {
            String token = take();
            want(token.matches("0|[1-9][0-9]?"), token);
            int n = Integer.parseInt(token);
            want(n >= least && n <= most, token);
            return n;
        }
    }

    int land() {
        Told fresh = new Told();
        int items = 0;
        try {
            Tokens tokens = new Tokens(text.toString());
            for (String word = tokens.take(); !word.isEmpty(); word = tokens.take()) {
                item(fresh, tokens, word);
                items++;
            }
        } catch (Fault fault) {
            return -10 - fault.place;
        }
        walk(fresh);
        land = fresh;
        text.setLength(0);
        now = 0;
        seen = new ArrayList<>();
        kept = noImages();
        return items;
    }

    private static void item(Told l, Tokens tokens, String word) {
        int last = l.bids.size() - 1;
        switch (word) {
            case "town" -> {
                tokens.want(l.bids.size() < 6, word);
                int bid = tokens.number(0, 99);
                end(tokens);
                l.bids.add(bid);
            }
            case "road" -> {
                tokens.want(l.roads.size() < 10, word);
                int a = tokens.number(0, last);
                int b = tokens.number(0, last);
                tokens.want(a != b, String.valueOf(b));
                int miles = tokens.number(1, 30);
                end(tokens);
                l.roads.add(new int[] {a, b, miles});
            }
            case "stop" -> {
                tokens.want(l.stops.size() < 10, word);
                int t = tokens.number(0, last);
                tokens.want(l.stops.isEmpty() || roadTo(l, l.stops.size() - 1, t) >= 0, String.valueOf(t));
                int rest = tokens.number(0, 9);
                end(tokens);
                l.stops.add(new int[] {t, rest});
            }
            default -> tokens.want(false, word);
        }
    }

    private static void end(Tokens tokens) {
        String token = tokens.take();
        tokens.want(token.equals(";"), token);
    }

    private static int roadTo(Told l, int stop, int town) {
        int from = l.stops.get(stop)[0];
        for (int r = 0; r < l.roads.size(); r++) {
            int[] road = l.roads.get(r);
            if (from != town && (road[0] == from || road[1] == from) && (road[0] == town || road[1] == town)) return r;
        }
        return -1;
    }

    // ---- the graph of places, and the walk

    private static void walk(Told l) {
        Map<Integer, List<Integer>> next = new HashMap<>();
        for (int t = 0; t < l.bids.size(); t++) next.put(t, new ArrayList<>());
        for (int r = 0; r < l.roads.size(); r++) {
            int[] road = l.roads.get(r);
            int from = road[0];
            for (int mile = 1; mile <= road[2]; mile++) {
                int to = mile == road[2] ? road[1] : 100 * (r + 1) + mile;
                next.computeIfAbsent(from, k -> new ArrayList<>()).add(to);
                next.computeIfAbsent(to, k -> new ArrayList<>()).add(from);
                from = to;
            }
        }
        for (int place : next.keySet()) l.places.put(place, new HashMap<>());
        for (int t = 0; t < l.bids.size(); t++) spread(l, next, t);
        List<int[]> hours = new ArrayList<>();
        for (int k = 0; k < l.stops.size(); k++) {
            int[] stop = l.stops.get(k);
            l.comes.add(hours.size());
            for (int i = 0; i <= stop[1]; i++) hours.add(new int[] {stop[0], -9, 0, k + 1});
            if (k + 1 == l.stops.size()) break;
            int r = roadTo(l, k, l.stops.get(k + 1)[0]);
            int[] road = l.roads.get(r);
            for (int gone = 1; gone < road[2]; gone++) {
                int mile = road[0] == stop[0] ? gone : road[2] - gone;
                hours.add(new int[] {100 * (r + 1) + mile, r, gone, k + 1});
            }
        }
        for (int h = 0; h < HOURS; h++) {
            int[] row = hours.isEmpty() ? new int[] {-9, -9, 0, 0} : hours.get(Math.min(h, hours.size() - 1));
            l.place[h] = row[0];
            l.road[h] = row[1];
            l.gone[h] = row[2];
            l.come[h] = row[3];
        }
    }

    private static void spread(Told l, Map<Integer, List<Integer>> next, int town) {
        ArrayDeque<Integer> open = new ArrayDeque<>();
        open.add(town);
        l.places.get(town).put(town, 0);
        while (!open.isEmpty()) {
            int place = open.remove();
            int miles = l.places.get(place).get(town);
            for (int other : next.get(place)) {
                if (l.places.get(other).putIfAbsent(town, miles + 1) == null) open.add(other);
            }
        }
    }

    private boolean isTown(int t) {
        return t >= 0 && t < land.bids.size();
    }

    private static boolean within(int n, int least, int most) {
        return n >= least && n <= most;
    }

    private int distance(int place, int town) {
        return place == -9 ? -9 : land.places.get(place).getOrDefault(town, -9);
    }

    private int time(int place, int town) {
        int miles = distance(place, town);
        return miles == -9 ? -9 : (12 + miles) % 24;
    }

    private int hourClock(int t, int hour) {
        return time(land.place[hour], t);
    }

    // ---- the calls

    int type(long v, int n) {
        if (!within(n, 1, 8)) return -1;
        if (text.length() + n > 300) return -3;
        for (int i = 0; i < n; i++) text.append((char) (v >> (8 * (n - 1 - i)) & 255));
        return text.length();
    }

    int clear() {
        int had = text.length();
        text.setLength(0);
        return had;
    }

    int town(int t, int what) {
        if (!isTown(t) || !within(what, 0, 2)) return -1;
        if (what == 0) return land.bids.get(t);
        if (what == 1) return (int) land.roads.stream().filter(r -> r[0] == t || r[1] == t).count();
        return (int) land.stops.stream().filter(s -> s[0] == t).count();
    }

    int road(int r, int what) {
        return within(r, 0, land.roads.size() - 1) && within(what, 0, 2) ? land.roads.get(r)[what] : -1;
    }

    int stop(int k, int what) {
        if (!within(k, 0, land.stops.size() - 1) || !within(what, 0, 3)) return -1;
        if (what < 2) return land.stops.get(k)[what];
        return land.comes.get(k) + (what == 3 ? land.stops.get(k)[1] : 0);
    }

    int far(int a, int b) {
        return isTown(a) && isTown(b) ? distance(a, b) : -1;
    }

    int where(int hour, int what) {
        if (!within(hour, 0, 999) || !within(what, 0, 3)) return -1;
        if (what == 0) return land.road[hour] == -9 ? land.place[hour] : -9;
        return what == 1 ? land.road[hour] : what == 2 ? land.gone[hour] : land.come[hour];
    }

    int off(int t, int hour) {
        return isTown(t) && within(hour, 0, 999) ? distance(land.place[hour], t) : -1;
    }

    int clock(int t, int hour) {
        return isTown(t) && within(hour, 0, 999) ? hourClock(t, hour) : -1;
    }

    int light(int t, int hour) {
        if (!isTown(t) || !within(hour, 0, 999)) return -1;
        int bits = 0;
        for (int h = hour; h < hour + 24 && h < 1000; h++) {
            if (within(hourClock(t, h), 6, 17)) bits += 1 << h - hour;
        }
        return bits;
    }

    int pace(int t, int hour) {
        if (!isTown(t) || !within(hour, 0, 998)) return -1000000;
        if (hourClock(t, hour) == -9) return -9;
        int less = hourClock(t, hour + 1) - hourClock(t, hour);
        while (less < -12) less += 24;
        while (less > 11) less -= 24;
        return less;
    }

    int early(int a, int b, int hour) {
        if (!isTown(a) || !isTown(b) || a == b || !within(hour, 0, 999)) return -1;
        int way = distance(a, b);
        int bits = 0;
        for (int h = hour; h < hour + 24 && h < 1000 && way != -9; h++) {
            if (hourClock(a, h) != -9 && hourClock(b, h + way) < hourClock(a, h)) bits += 1 << h - hour;
        }
        return bits;
    }

    int meets(int a, int from, int b, int then, int c, int what) {
        if (!isTown(a) || !isTown(b) || !isTown(c)) return -1;
        if (!within(from, 0, 900) || !within(then, 0, 900) || !within(what, 0, 1)) return -1;
        if (distance(a, c) == -9 || distance(b, c) == -9) return -9;
        int hour = Math.max(from + distance(a, c), then + distance(b, c));
        return what == 0 ? hour : hourClock(c, hour);
    }

    int midnights(int t, int a, int b) {
        if (!isTown(t) || !within(a, 0, 999) || !within(b, a, 1000)) return -1;
        int n = 0;
        for (int h = a; h < b; h++) {
            if (hourClock(t, h) == 0 && (h == 0 || hourClock(t, h - 1) != 0)) n++;
        }
        return n;
    }

    int gains(int t, int a, int b, int w) {
        if (!within(w, 1, 99) || midnights(t, a, b) == -1) return -1000000;
        int coins = midnights(t, a, b) * w;
        for (int hours = b - a; hours >= 24; hours -= 24) coins -= w;
        return coins;
    }

    int best(int t, int i) {
        if (!isTown(t) || !within(i, -1, 5)) return -1000000;
        List<List<Integer>> rows = new ArrayList<>();
        rows.add(List.of(t));
        for (int at = 0; at < rows.size(); at++) {
            for (int next = 0; next < land.bids.size(); next++) {
                List<Integer> row = new ArrayList<>(rows.get(at));
                if (row.contains(next) || distance(row.get(row.size() - 1), next) == -9) continue;
                row.add(next);
                rows.add(row);
            }
        }
        List<Integer> best = rows.get(0);
        for (List<Integer> row : rows) {
            int more = worth(row) - worth(best);
            if (more > 0 || more == 0 && isAhead(row, best)) best = row;
        }
        return i == -1 ? worth(best) : i < best.size() ? best.get(i) : -9;
    }

    private int worth(List<Integer> row) {
        int worth = 0;
        for (int k = 0; k < row.size(); k++) {
            worth += land.bids.get(row.get(k)) - distance(row.get(k), row.get((k + 1) % row.size()));
        }
        return worth;
    }

    private static boolean isAhead(List<Integer> a, List<Integer> b) {
        for (int k = 0; k < Math.min(a.size(), b.size()); k++) {
            if (!a.get(k).equals(b.get(k))) return a.get(k) < b.get(k);
        }
        return a.size() < b.size();
    }

    int saw(int t, int c, int hour) {
        if (!isTown(t) || !within(c, 0, 23) || !within(hour, 0, 999)) return -1;
        if (seen.size() == 8) return -3;
        seen.add(new int[] {t, c, hour});
        return seen.size();
    }

    int forget() {
        int had = seen.size();
        seen.clear();
        return had;
    }

    int so() {
        int bits = 0;
        for (int i = 0; i < seen.size(); i++) {
            if (hourClock(seen.get(i)[0], seen.get(i)[2]) == seen.get(i)[1]) bits += 1 << i;
        }
        return bits;
    }

    private List<Integer> fitting(int hour) {
        return land.places.keySet().stream()
            .filter(p -> seen.stream().allMatch(s -> s[2] != hour || time(p, s[0]) == s[1])).toList();
    }

    int stood(int hour, int what) {
        if (!within(hour, 0, 999) || !within(what, 0, 1)) return -1;
        List<Integer> fitting = fitting(hour);
        return what == 0 ? fitting.size() : fitting.isEmpty() ? -9 : fitting.get(0);
    }

    int two() {
        return seen.stream().anyMatch(s -> fitting(s[2]).isEmpty()) ? 1 : 0;
    }

    int go(int n) {
        if (!within(n, 1, 999)) return -1;
        if (now == 999) return -2;
        now = Math.min(999, now + n);
        return now;
    }

    int ill(int h, int by) {
        if (!within(h, 0, 99) || !within(by, 0, 999)) return -1;
        return (int) land.comes.stream().map(c -> c <= now ? c : c + h).filter(c -> c <= by).count();
    }

    int rate(int kind, int t) {
        if (!within(kind, 0, 5) || !isTown(t)) return -1000000;
        int[] up = {-1, 0, 0, 1, 2, 0};
        int[] marks = {1, 10, 100, 1000, 10000, 100000};
        trace += marks[kind];
        int above = up[kind] < 0 ? 0 : rate(up[kind], t);
        int time = hourClock(t, now);
        return switch (kind) {
            case 0 -> land.bids.get(t);
            case 1 -> above + town(t, 1);
            case 2 -> time == -9 ? above : above - time;
            case 3 -> above + above;
            case 4 -> above + t;
            default -> above + now;
        };
    }

    int keep(int image) {
        if (!within(image, 0, 1)) return -1;
        kept.set(image, new ArrayList<>(seen));
        keptNow[image] = now;
        return now;
    }

    int back(int image) {
        if (!within(image, 0, 1)) return -1;
        if (kept.get(image) == null) return -2;
        seen = new ArrayList<>(kept.get(image));
        now = keptNow[image];
        return now;
    }

    int count(int what) {
        int[] counts = {land.bids.size(), land.roads.size(), land.stops.size(), seen.size(), now, text.length()};
        return within(what, 0, 5) ? counts[what] : -1;
    }
}
