import java.util.ArrayList;
import java.util.List;
import java.util.Random;

/** Many lands and runs of calls, the same each time: the class must answer as the model does. */
public final class ModelTest {
    private static final int[] EDGES = {-1, 0, 1, 2, 5, 6, 7, 8, 9, 10, 11, 12, 22, 23, 24, 29, 30, 98, 99, 100, 899, 900, 901,
        998, 999, 1000, 1001, -2, -9, Integer.MIN_VALUE, Integer.MAX_VALUE, Integer.MIN_VALUE + 1, 65536, 256};
    private static final String[] PARTS = {"town", "road", "stop", ";", " ", "0", "1", "2", "9", "10", "30", "31", "99", "100", "00",
        "x", "A", "\u00ff", "\0", "\t", "-", "towns", "`", "{", "/", ":", "  "};

    private final Random random;
    private NoonWalker x = new NoonWalker();
    private Model m = new Model();
    private int calls = 0;
    private String text = "";

    private ModelTest(long seed) {
        random = new Random(seed);
    }

    private int upTo(int most) {
        return random.nextInt(most + 1);
    }

    private int edge() {
        return EDGES[random.nextInt(EDGES.length)];
    }

    /** A number that is mostly as told. */
    private int most(int least, int greatest) {
        int lot = upTo(29);
        if (lot == 0) return edge();
        if (lot == 1) return least - 1;
        if (lot == 2) return greatest + 1;
        if (lot == 3) return least;
        if (lot == 4) return greatest;
        return least + random.nextInt(Math.max(1, greatest - least + 1));
    }

    private int town() {
        return most(0, Math.max(0, m.land.bids.size() - 1));
    }

    /** Most of what happens happens early. */
    private int hour() {
        return upTo(3) == 0 ? most(0, 999) : upTo(1) == 0 ? upTo(60) : upTo(300);
    }

    private String blanks() {
        return upTo(5) == 0 ? " ".repeat(1 + upTo(2)) : "";
    }

    private String gap() {
        return upTo(5) == 0 ? "  " : " ";
    }

    private String newText() {
        List<String> items = new ArrayList<>();
        int towns = 1 + upTo(5);
        for (int t = 0; t < towns; t++) items.add("town" + gap() + (upTo(9) == 0 ? 99 : upTo(60)));
        int roads = upTo(10);
        List<int[]> ways = new ArrayList<>();
        int cap = upTo(2) == 0 ? 30 : upTo(1) == 0 ? 12 : 3;
        for (int r = 0; r < roads && towns > 1; r++) {
            int a = upTo(towns - 1);
            int b = (a + 1 + upTo(towns - 2)) % towns;
            ways.add(new int[] {a, b});
            items.add("road" + gap() + a + gap() + b + gap() + (1 + upTo(cap - 1)));
        }
        int stops = upTo(10);
        int at = upTo(towns - 1);
        for (int k = 0; k < stops; k++) {
            items.add("stop" + gap() + at + gap() + upTo(9));
            int here = at;
            List<int[]> out = ways.stream().filter(w -> w[0] == here || w[1] == here).toList();
            if (out.isEmpty()) break;
            int[] way = out.get(upTo(out.size() - 1));
            at = way[0] == here ? way[1] : way[0];
        }
        StringBuilder text = new StringBuilder(blanks());
        for (String item : items) {
            String more = item + blanks() + ";" + blanks();
            if (text.length() + more.length() <= 300) text.append(more);
        }
        return text.toString();
    }

    private String spoilt(String text) {
        StringBuilder s = new StringBuilder(text);
        int at = upTo(Math.max(0, s.length() - 1));
        String part = PARTS[random.nextInt(PARTS.length)];
        switch (upTo(4)) {
            case 0 -> s.setLength(at);
            case 1 -> s.insert(at, part);
            case 2 -> {
                if (s.length() > 0) s.deleteCharAt(at);
            }
            case 3 -> {
                if (s.length() > 0) s.setCharAt(at, part.charAt(0));
            }
            default -> s.append(part).append(gap()).append(upTo(9)).append(gap()).append(upTo(9)).append(";");
        }
        return s.toString();
    }

    private void due(String call, long got, long want) {
        calls++;
        Due.is(call + " [" + text + "] call " + calls, got, want);
    }

    private void type(String more) {
        for (int at = 0; at < more.length(); ) {
            int n = Math.min(1 + upTo(7), more.length() - at);
            long v = random.nextLong();
            for (int i = 0; i < n; i++) v = v << 8 | more.charAt(at + i);
            due("type", x.type(v, n), m.type(v, n));
            at += n;
        }
    }

    private void tell() {
        text = newText();
        while (upTo(3) == 0) text = spoilt(text);
        if (upTo(20) == 0) text = text + " ".repeat(upTo(300));
        type(text);
        due("land", x.land(), m.land());
        due("count", x.count(5), m.count(5));
        if (m.count(5) > 0) due("clear", x.clear(), m.clear());
    }

    /** Something that could well be so: the clock of a place that he can have stood at. */
    private int likelyClock(int t, int hour) {
        int time = m.clock(t, hour);
        return time >= 0 && upTo(1) == 0 ? time : upTo(4) == 0 ? most(0, 23) : 12 + upTo(6);
    }

    private void landCall() {
        switch (upTo(7)) {
            case 0 -> { int t = town(), what = most(0, 2); due("town " + t + " " + what, x.town(t, what), m.town(t, what)); }
            case 1 -> { int r = most(0, 9), what = most(0, 2); due("road " + r + " " + what, x.road(r, what), m.road(r, what)); }
            case 2 -> { int k = most(0, 9), what = most(0, 3); due("stop " + k + " " + what, x.stop(k, what), m.stop(k, what)); }
            case 3 -> { int a = town(), b = town(); due("far " + a + " " + b, x.far(a, b), m.far(a, b)); }
            case 4 -> { int what = most(0, 5); due("count " + what, x.count(what), m.count(what)); }
            case 5 -> due("trace", x.trace(), m.trace);
            case 6 -> { int n = edge(); long v = random.nextLong(); due("type " + n, x.type(v, n), m.type(v, n)); }
            default -> { if (upTo(20) == 0) tell(); }
        }
    }

    private void walkCall() {
        int t = town(), h = hour();
        switch (upTo(8)) {
            case 0, 1 -> { int what = most(0, 3); due("where " + h + " " + what, x.where(h, what), m.where(h, what)); }
            case 2 -> due("off " + t + " " + h, x.off(t, h), m.off(t, h));
            case 3 -> due("clock " + t + " " + h, x.clock(t, h), m.clock(t, h));
            case 4 -> due("light " + t + " " + h, x.light(t, h), m.light(t, h));
            case 5 -> due("pace " + t + " " + h, x.pace(t, h), m.pace(t, h));
            case 6 -> { int b = town(); due("early " + t + " " + b + " " + h, x.early(t, b, h), m.early(t, b, h)); }
            case 7 -> {
                int b = hour();
                due("midnights " + t + " " + h + " " + b, x.midnights(t, h, b), m.midnights(t, h, b));
                int last = most(h, 1000), w = most(1, 99);
                due("gains " + t + " " + h + " " + last + " " + w, x.gains(t, h, last, w), m.gains(t, h, last, w));
            }
            default -> {
                int b = town(), c = town(), from = most(0, 900), then = upTo(1) == 0 ? hour() : from, what = most(0, 1);
                due("meets", x.meets(t, from, b, then, c, what), m.meets(t, from, b, then, c, what));
            }
        }
    }

    private void seenCall() {
        int t = town(), h = upTo(3) == 0 ? hour() : upTo(4);
        switch (upTo(9)) {
            case 0, 1, 2 -> { int c = likelyClock(t, h); due("saw " + t + " " + c + " " + h, x.saw(t, c, h), m.saw(t, c, h)); }
            case 3 -> { if (upTo(2) == 0) due("forget", x.forget(), m.forget()); }
            case 4 -> due("so", x.so(), m.so());
            case 5, 6 -> { int what = most(0, 1); due("stood " + h + " " + what, x.stood(h, what), m.stood(h, what)); }
            case 7 -> due("two", x.two(), m.two());
            case 8 -> { int i = most(0, 1); due("keep " + i, x.keep(i), m.keep(i)); }
            default -> { int i = most(0, 1); due("back " + i, x.back(i), m.back(i)); }
        }
    }

    private void otherCall() {
        int t = town();
        switch (upTo(3)) {
            case 0 -> { int i = most(-1, 5); due("best " + t + " " + i, x.best(t, i), m.best(t, i)); }
            case 1 -> { int kind = most(0, 5); due("rate " + kind + " " + t, x.rate(kind, t), m.rate(kind, t)); }
            case 2 -> { int h = most(0, 99), by = hour(); due("ill " + h + " " + by, x.ill(h, by), m.ill(h, by)); }
            default -> { int n = upTo(4) == 0 ? edge() : upTo(40); due("go " + n, x.go(n), m.go(n)); }
        }
    }

    private void run() {
        if (upTo(9) != 0) tell();
        while (calls < 400) {
            switch (upTo(4)) {
                case 0 -> landCall();
                case 1, 2 -> walkCall();
                case 3 -> seenCall();
                default -> otherCall();
            }
        }
        due("trace", x.trace(), m.trace);
    }

    public static void main(String[] args) {
        int runs = args.length > 0 ? Integer.parseInt(args[0]) : 600;
        for (int seed = 1; seed <= runs; seed++) new ModelTest(seed).run();
        Due.finish("ModelTest");
    }
}
