/** One man walks about a land of towns and roads; it is noon where he is, and later the farther one is from him. */
public final class NoonWalker {
    public static final int BAD = -1, STATE = -2, FULL = -3, NONE = -9;
    public static final int NO = -1000000;

    private static final int TEXT_LIMIT = 300;
    private static final int TOWN_LIMIT = 6;
    private static final int BID_LIMIT = 99;
    private static final int ROAD_LIMIT = 10;
    private static final int MILE_LIMIT = 30;
    private static final int STOP_LIMIT = 10;
    private static final int REST_LIMIT = 9;
    private static final int SEEN_LIMIT = 8;
    private static final int LAST_HOUR = 999;
    private static final int LAST_START = 900;
    private static final int WAGE_LIMIT = 99;
    private static final int ILL_LIMIT = 99;
    private static final int DAY = 24;
    private static final int NOON = 12;
    private static final int FIRST_LIGHT = 6;
    private static final int LAST_LIGHT = 17;

    /** A place on a road is 100 times the road and 1, and the mile; below 100 it is a town. */
    private static final int ROAD_PLACE = 100;
    private static final int PLACE_LIMIT = TOWN_LIMIT + ROAD_LIMIT * (MILE_LIMIT - 1);

    private static final int TOWN_KIND = 0, MARKET = 1, INN = 2, FAIR = 3, FERRY = 4, MILL = 5;

    /** What a token of the text can be. */
    private static final int END = 0, TOWN_WORD = 1, ROAD_WORD = 2, STOP_WORD = 3, NUMBER = 4, SEMICOLON = 5, WRONG = 6;

    private final Reader reader = new Reader();
    private Land told = new Land();
    /** A text is read into this one, so that a fault leaves the land as it was told. */
    private Land draft = new Land();
    private final Circuit circuit = new Circuit();
    private final Memory present = new Memory();
    private final Memory image0 = new Memory();
    private final Memory image1 = new Memory();
    private long asked = 0;

    public NoonWalker() {
    }

    // ---- the land

    public int type(long v, int n) {
        if (n < 1 || n > 8) return BAD;
        if (reader.length + n > TEXT_LIMIT) return FULL;
        for (int i = n - 1; i >= 0; i--) reader.append((int) (v >>> (8 * i)) & 255);
        return reader.length;
    }

    public int clear() {
        int had = reader.length;
        reader.length = 0;
        return had;
    }

    public int land() {
        int items = reader.readAll(draft);
        if (items == NONE) return -10 - reader.begin;
        Land old = told;
        told = draft;
        draft = old;
        told.measure();
        reader.length = 0;
        present.reset();
        image0.reset();
        image1.reset();
        return items;
    }

    public int town(int t, int what) {
        if (!told.isTown(t)) return BAD;
        switch (what) {
            case 0: return told.bidOf(t);
            case 1: return told.roadsOf(t);
            case 2: return told.stopsOf(t);
            default: return BAD;
        }
    }

    public int road(int r, int what) {
        if (!told.isRoad(r)) return BAD;
        switch (what) {
            case 0: return told.roadA[r];
            case 1: return told.roadB[r];
            case 2: return told.miles[r];
            default: return BAD;
        }
    }

    public int stop(int k, int what) {
        if (!told.isStop(k)) return BAD;
        switch (what) {
            case 0: return told.stopTown[k];
            case 1: return told.rest[k];
            case 2: return told.comes[k];
            case 3: return told.leaves(k);
            default: return BAD;
        }
    }

    public int far(int a, int b) {
        if (!told.isTown(a) || !told.isTown(b)) return BAD;
        return told.distance(a, b);
    }

    // ---- where he is, clocks

    public int where(int hour, int what) {
        if (!isHour(hour)) return BAD;
        switch (what) {
            case 0: return told.townAt(hour);
            case 1: return told.roadAt(hour);
            case 2: return told.goneAt(hour);
            case 3: return told.lastCome(hour) + 1;
            default: return BAD;
        }
    }

    public int off(int t, int hour) {
        if (!told.isTown(t) || !isHour(hour)) return BAD;
        return told.distanceAt(t, hour);
    }

    public int clock(int t, int hour) {
        if (!told.isTown(t) || !isHour(hour)) return BAD;
        return told.clockAt(t, hour);
    }

    public int light(int t, int hour) {
        if (!told.isTown(t) || !isHour(hour)) return BAD;
        int bits = 0;
        for (int i = 0; i < DAY && hour + i <= LAST_HOUR; i++) {
            int c = told.clockAt(t, hour + i);
            if (c >= FIRST_LIGHT && c <= LAST_LIGHT) bits |= 1 << i;
        }
        return bits;
    }

    public int pace(int t, int hour) {
        if (!told.isTown(t) || hour < 0 || hour >= LAST_HOUR) return NO;
        int c = told.clockAt(t, hour);
        int next = told.clockAt(t, hour + 1);
        if (c == NONE || next == NONE) return NONE;
        return Math.floorMod(next - c + DAY / 2, DAY) - DAY / 2;
    }

    // ---- posts, meetings, wages

    public int early(int a, int b, int hour) {
        if (!told.isTown(a) || !told.isTown(b) || a == b || !isHour(hour)) return BAD;
        int way = told.distance(a, b);
        if (way == NONE) return 0;
        int bits = 0;
        for (int i = 0; i < DAY && hour + i <= LAST_HOUR; i++) {
            int sent = told.clockAt(a, hour + i);
            int come = told.clockAt(b, hour + i + way);
            if (sent != NONE && come != NONE && come < sent) bits |= 1 << i;
        }
        return bits;
    }

    public int meets(int a, int from, int b, int then, int c, int what) {
        if (!told.isTown(a) || !told.isTown(b) || !told.isTown(c)) return BAD;
        if (!isStart(from) || !isStart(then) || what < 0 || what > 1) return BAD;
        int wayOfA = told.distance(a, c);
        int wayOfB = told.distance(b, c);
        if (wayOfA == NONE || wayOfB == NONE) return NONE;
        int both = Math.max(from + wayOfA, then + wayOfB);
        return what == 0 ? both : told.clockAt(c, both);
    }

    public int midnights(int t, int a, int b) {
        if (!told.isTown(t) || !isSpan(a, b)) return BAD;
        return told.midnightsOf(t, a, b);
    }

    public int gains(int t, int a, int b, int w) {
        if (!told.isTown(t) || !isSpan(a, b) || w < 1 || w > WAGE_LIMIT) return NO;
        return w * (told.midnightsOf(t, a, b) - (b - a) / DAY);
    }

    public int best(int t, int i) {
        if (!told.isTown(t) || i < -1 || i >= TOWN_LIMIT) return NO;
        circuit.find(told, t);
        return i == -1 ? circuit.worth : circuit.townOf(i);
    }

    // ---- what was seen

    public int saw(int t, int c, int hour) {
        if (!told.isTown(t) || c < 0 || c >= DAY || !isHour(hour)) return BAD;
        if (present.seen >= SEEN_LIMIT) return FULL;
        present.add(t, c, hour);
        return present.seen;
    }

    public int forget() {
        int had = present.seen;
        present.seen = 0;
        return had;
    }

    public int so() {
        int bits = 0;
        for (int i = 0; i < present.seen; i++) {
            if (told.clockAt(present.towns[i], present.hours[i]) == present.clocks[i]) bits |= 1 << i;
        }
        return bits;
    }

    public int stood(int hour, int what) {
        if (!isHour(hour)) return BAD;
        switch (what) {
            case 0: return fittingPlaces(hour);
            case 1: return firstFitting(hour);
            default: return BAD;
        }
    }

    public int two() {
        for (int i = 0; i < present.seen; i++) {
            if (firstFitting(present.hours[i]) == NONE) return 1;
        }
        return 0;
    }

    // ---- now

    public int go(int n) {
        if (n < 1 || n > LAST_HOUR) return BAD;
        if (present.now >= LAST_HOUR) return STATE;
        present.now = Math.min(present.now + n, LAST_HOUR);
        return present.now;
    }

    public int ill(int h, int by) {
        if (h < 0 || h > ILL_LIMIT || !isHour(by)) return BAD;
        int come = 0;
        for (int k = 0; k < told.stops; k++) {
            int delay = told.comes[k] > present.now ? h : 0;
            if (told.comes[k] + delay <= by) come++;
        }
        return come;
    }

    // ---- kinds, images

    public int rate(int kind, int t) {
        if (!told.isTown(t)) return NO;
        switch (kind) {
            case TOWN_KIND: return townRate(t);
            case MARKET: return marketRate(t);
            case INN: return innRate(t);
            case FAIR: return fairRate(t);
            case FERRY: return ferryRate(t);
            case MILL: return millRate(t);
            default: return NO;
        }
    }

    public int keep(int image) {
        if (!isImage(image)) return BAD;
        Memory kept = imageOf(image);
        kept.copy(present);
        kept.full = true;
        return present.now;
    }

    public int back(int image) {
        if (!isImage(image)) return BAD;
        Memory kept = imageOf(image);
        if (!kept.full) return STATE;
        present.copy(kept);
        return present.now;
    }

    public int count(int what) {
        switch (what) {
            case 0: return told.towns;
            case 1: return told.roads;
            case 2: return told.stops;
            case 3: return present.seen;
            case 4: return present.now;
            case 5: return reader.length;
            default: return BAD;
        }
    }

    public long trace() {
        return asked;
    }

    // ---- within

    private static boolean isHour(int hour) {
        return hour >= 0 && hour <= LAST_HOUR;
    }

    private static boolean isStart(int hour) {
        return hour >= 0 && hour <= LAST_START;
    }

    private static boolean isSpan(int a, int b) {
        return isHour(a) && b >= a && b <= LAST_HOUR + 1;
    }

    private static boolean isImage(int image) {
        return image == 0 || image == 1;
    }

    private Memory imageOf(int image) {
        return image == 0 ? image0 : image1;
    }

    private int fittingPlaces(int hour) {
        int fitting = 0;
        for (int p = 0; p < told.places; p++) {
            if (fits(told.placeList[p], hour)) fitting++;
        }
        return fitting;
    }

    private int firstFitting(int hour) {
        for (int p = 0; p < told.places; p++) {
            if (fits(told.placeList[p], hour)) return told.placeList[p];
        }
        return NONE;
    }

    /** Whether all that was seen in the hour would be so if he stood at the place. */
    private boolean fits(int place, int hour) {
        for (int i = 0; i < present.seen; i++) {
            if (present.hours[i] != hour) continue;
            if (clockFor(told.distanceFromPlace(place, present.towns[i])) != present.clocks[i]) return false;
        }
        return true;
    }

    private static int clockFor(int distance) {
        return distance == NONE ? NONE : (NOON + distance) % DAY;
    }

    private int townRate(int t) {
        asked += 1;
        return told.bidOf(t);
    }

    private int marketRate(int t) {
        asked += 10;
        return townRate(t) + told.roadsOf(t);
    }

    private int innRate(int t) {
        asked += 100;
        int c = told.clockAt(t, present.now);
        return townRate(t) - (c == NONE ? 0 : c);
    }

    private int fairRate(int t) {
        asked += 1000;
        return 2 * marketRate(t);
    }

    private int ferryRate(int t) {
        asked += 10000;
        return innRate(t) + t;
    }

    private int millRate(int t) {
        asked += 100000;
        return townRate(t) + present.now;
    }

    /** What one text has told, and what follows from it alone. */
    private static final class Land {
        int towns = 0;
        final int[] bids = new int[TOWN_LIMIT];
        int roads = 0;
        final int[] roadA = new int[ROAD_LIMIT];
        final int[] roadB = new int[ROAD_LIMIT];
        final int[] miles = new int[ROAD_LIMIT];
        int stops = 0;
        final int[] stopTown = new int[STOP_LIMIT];
        final int[] rest = new int[STOP_LIMIT];
        final int[] comes = new int[STOP_LIMIT];
        /** The road by which he comes to a stop; the first stop has none. */
        final int[] comesBy = new int[STOP_LIMIT];
        /** The shortest way from town a to town b, at a * TOWN_LIMIT + b. */
        final int[] ways = new int[TOWN_LIMIT * TOWN_LIMIT];
        int places = 0;
        final int[] placeList = new int[PLACE_LIMIT];

        void reset() {
            towns = 0;
            roads = 0;
            stops = 0;
        }

        void addTown(int bid) {
            if (towns >= TOWN_LIMIT) return;
            bids[towns] = bid;
            towns++;
        }

        void addRoad(int a, int b, int way) {
            if (roads >= ROAD_LIMIT) return;
            roadA[roads] = a;
            roadB[roads] = b;
            miles[roads] = way;
            roads++;
        }

        void addStop(int t, int hours) {
            if (stops >= STOP_LIMIT) return;
            int by = wayToNextStop(t);
            stopTown[stops] = t;
            rest[stops] = hours;
            comesBy[stops] = by;
            comes[stops] = isRoad(by) && isStop(stops - 1) ? leaves(stops - 1) + miles[by] : 0;
            stops++;
        }

        /** The road that was told first between the last stop and the town. */
        int wayToNextStop(int t) {
            if (!isStop(stops - 1)) return NONE;
            int from = stopTown[stops - 1];
            for (int r = 0; r < roads; r++) {
                if (roadA[r] == from && roadB[r] == t || roadA[r] == t && roadB[r] == from) return r;
            }
            return NONE;
        }

        boolean canStopNext(int t) {
            return isTown(t) && (stops == 0 || wayToNextStop(t) != NONE);
        }

        /** The ways and the places follow from the towns and roads, once all are told. */
        void measure() {
            measureRoads();
            for (int via = 0; via < towns; via++) {
                for (int a = 0; a < towns; a++) {
                    for (int b = 0; b < towns; b++) {
                        int first = distance(a, via);
                        int second = distance(via, b);
                        if (first != NONE && second != NONE) shorten(a, b, first + second);
                    }
                }
            }
            listPlaces();
        }

        void measureRoads() {
            for (int i = 0; i < ways.length; i++) ways[i] = NONE;
            for (int t = 0; t < towns; t++) shorten(t, t, 0);
            for (int r = 0; r < roads; r++) {
                shorten(roadA[r], roadB[r], miles[r]);
                shorten(roadB[r], roadA[r], miles[r]);
            }
        }

        void shorten(int a, int b, int way) {
            if (!isTown(a) || !isTown(b)) return;
            int old = distance(a, b);
            if (old == NONE || way < old) ways[a * TOWN_LIMIT + b] = way;
        }

        void listPlaces() {
            places = 0;
            for (int t = 0; t < towns; t++) addPlace(t);
            for (int r = 0; r < roads; r++) {
                for (int mile = 1; mile < miles[r]; mile++) addPlace(ROAD_PLACE * (r + 1) + mile);
            }
        }

        void addPlace(int place) {
            if (places >= PLACE_LIMIT) return;
            placeList[places] = place;
            places++;
        }

        boolean isTown(int t) {
            return t >= 0 && t < towns;
        }

        boolean isRoad(int r) {
            return r >= 0 && r < roads;
        }

        boolean isStop(int k) {
            return k >= 0 && k < stops;
        }

        int bidOf(int t) {
            return isTown(t) ? bids[t] : 0;
        }

        int roadsOf(int t) {
            int ends = 0;
            for (int r = 0; r < roads; r++) {
                if (roadA[r] == t || roadB[r] == t) ends++;
            }
            return ends;
        }

        int stopsOf(int t) {
            int here = 0;
            for (int k = 0; k < stops; k++) {
                if (stopTown[k] == t) here++;
            }
            return here;
        }

        int leaves(int k) {
            return isStop(k) ? comes[k] + rest[k] : 0;
        }

        int distance(int a, int b) {
            return isTown(a) && isTown(b) ? ways[a * TOWN_LIMIT + b] : NONE;
        }

        int distanceFromPlace(int place, int t) {
            if (place < ROAD_PLACE) return distance(place, t);
            int r = place / ROAD_PLACE - 1;
            if (!isRoad(r)) return NONE;
            int mile = place % ROAD_PLACE;
            int fromA = distance(roadA[r], t);
            int fromB = distance(roadB[r], t);
            if (fromA == NONE || fromB == NONE) return NONE;
            return Math.min(mile + fromA, miles[r] - mile + fromB);
        }

        /** The last stop to which he has come; -1: none. */
        int lastCome(int hour) {
            int last = -1;
            for (int k = 0; k < stops; k++) {
                if (comes[k] <= hour) last = k;
            }
            return last;
        }

        /** NONE: he is nowhere. */
        int placeAt(int hour) {
            int k = lastCome(hour);
            if (!isStop(k)) return NONE;
            int gone = hour - leaves(k);
            int r = isStop(k + 1) ? comesBy[k + 1] : NONE;
            if (gone <= 0 || !isRoad(r)) return stopTown[k];
            int mile = roadA[r] == stopTown[k] ? gone : miles[r] - gone;
            return ROAD_PLACE * (r + 1) + mile;
        }

        int townAt(int hour) {
            int place = placeAt(hour);
            return place < ROAD_PLACE ? place : NONE;
        }

        int roadAt(int hour) {
            int place = placeAt(hour);
            return place < ROAD_PLACE ? NONE : place / ROAD_PLACE - 1;
        }

        /** The miles behind him on his road, from whichever end he left. */
        int goneAt(int hour) {
            return placeAt(hour) < ROAD_PLACE ? 0 : hour - leaves(lastCome(hour));
        }

        int distanceAt(int t, int hour) {
            return distanceFromPlace(placeAt(hour), t);
        }

        int clockAt(int t, int hour) {
            return clockFor(distanceAt(t, hour));
        }

        int midnightsOf(int t, int a, int b) {
            int found = 0;
            int ahead = a > 0 ? clockAt(t, a - 1) : NONE;
            for (int hour = a; hour < b; hour++) {
                int c = clockAt(t, hour);
                if (c == 0 && ahead != 0) found++;
                ahead = c;
            }
            return found;
        }
    }

    /** The text, and where it is being read: one token at a time. */
    private static final class Reader {
        final int[] text = new int[TEXT_LIMIT];
        int length = 0;
        int kind = END;
        int number = 0;
        /** Of the token: its first byte, and the first one behind it. */
        int begin = 0;
        int end = 0;

        void append(int letter) {
            if (length >= TEXT_LIMIT) return;
            text[length] = letter;
            length++;
        }

        /** How many items were read into the land; NONE: the token that begins at begin can't stand there. */
        int readAll(Land into) {
            into.reset();
            end = 0;
            next();
            int items = 0;
            while (kind != END && items < TEXT_LIMIT) {
                int word = kind;
                boolean good = word == TOWN_WORD ? readTown(into)
                    : word == ROAD_WORD ? readRoad(into)
                    : word == STOP_WORD && readStop(into);
                if (!good) return NONE;
                items++;
            }
            return items;
        }

        boolean readTown(Land into) {
            if (into.towns >= TOWN_LIMIT) return false;
            if (!readNumber(0, BID_LIMIT)) return false;
            int bid = number;
            if (!readSemicolon()) return false;
            into.addTown(bid);
            return true;
        }

        boolean readRoad(Land into) {
            if (into.roads >= ROAD_LIMIT) return false;
            if (!readNumber(0, into.towns - 1)) return false;
            int a = number;
            if (!readNumber(0, into.towns - 1) || number == a) return false;
            int b = number;
            if (!readNumber(1, MILE_LIMIT)) return false;
            int miles = number;
            if (!readSemicolon()) return false;
            into.addRoad(a, b, miles);
            return true;
        }

        boolean readStop(Land into) {
            if (into.stops >= STOP_LIMIT) return false;
            if (!readNumber(0, into.towns - 1) || !into.canStopNext(number)) return false;
            int t = number;
            if (!readNumber(0, REST_LIMIT)) return false;
            int hours = number;
            if (!readSemicolon()) return false;
            into.addStop(t, hours);
            return true;
        }

        boolean readNumber(int least, int most) {
            next();
            return kind == NUMBER && number >= least && number <= most;
        }

        /** An item ends here, so that the token behind it becomes the one to read. */
        boolean readSemicolon() {
            next();
            if (kind != SEMICOLON) return false;
            next();
            return true;
        }

        void next() {
            begin = end;
            while (begin < length && byteAt(begin) == ' ') begin++;
            end = begin;
            if (begin >= length) {
                kind = END;
            } else if (isLetter(byteAt(begin))) {
                while (end < length && isLetter(byteAt(end))) end++;
                kind = kindOfWord();
            } else if (isDigit(byteAt(begin))) {
                while (end < length && isDigit(byteAt(end))) end++;
                number = numberOfDigits();
                kind = number == NONE ? WRONG : NUMBER;
            } else {
                end++;
                kind = byteAt(begin) == ';' ? SEMICOLON : WRONG;
            }
        }

        int kindOfWord() {
            if (isWord("town")) return TOWN_WORD;
            if (isWord("road")) return ROAD_WORD;
            if (isWord("stop")) return STOP_WORD;
            return WRONG;
        }

        boolean isWord(String word) {
            if (end - begin != word.length()) return false;
            for (int i = 0; i < word.length(); i++) {
                if (byteAt(begin + i) != word.charAt(i)) return false;
            }
            return true;
        }

        /** NONE: no number may have three digits, or a 0 ahead of others. */
        int numberOfDigits() {
            int digits = end - begin;
            if (digits == 1) return byteAt(begin) - '0';
            if (digits != 2 || byteAt(begin) == '0') return NONE;
            return 10 * (byteAt(begin) - '0') + byteAt(begin + 1) - '0';
        }

        static boolean isLetter(int sign) {
            return sign >= 'a' && sign <= 'z';
        }

        static boolean isDigit(int sign) {
            return sign >= '0' && sign <= '9';
        }

        int byteAt(int at) {
            return at >= 0 && at < length && at < TEXT_LIMIT ? text[at] : NONE;
        }
    }

    /** What images keep: NOW, and what was seen. */
    private static final class Memory {
        int now = 0;
        int seen = 0;
        final int[] towns = new int[SEEN_LIMIT];
        final int[] clocks = new int[SEEN_LIMIT];
        final int[] hours = new int[SEEN_LIMIT];
        /** Of an image: whether it was kept. */
        boolean full = false;

        void reset() {
            now = 0;
            seen = 0;
            full = false;
        }

        void add(int t, int c, int hour) {
            if (seen >= SEEN_LIMIT) return;
            towns[seen] = t;
            clocks[seen] = c;
            hours[seen] = hour;
            seen++;
        }

        void copy(Memory other) {
            now = other.now;
            seen = 0;
            for (int i = 0; i < other.seen; i++) add(other.towns[i], other.clocks[i], other.hours[i]);
        }
    }

    /** Tries all rows of towns that begin with one and come back, those with lower towns first. */
    private static final class Circuit {
        final int[] row = new int[TOWN_LIMIT];
        final int[] bestRow = new int[TOWN_LIMIT];
        int bestLength = 0;
        int worth = NO;

        void find(Land land, int t) {
            worth = NO;
            bestLength = 0;
            row[0] = t;
            extend(this, land, 1, 1 << t, land.bidOf(t));
        }

        /** Rows that begin with so many towns of the row; used: these as bits; gain: their bids less the miles so far. */
        private static void extend(Circuit c, Land land, int towns, int used, int gain) {
            if (towns < 1 || towns > TOWN_LIMIT) return;
            int last = c.row[towns - 1];
            c.offer(towns, gain - land.distance(last, c.row[0]));
            if (towns >= TOWN_LIMIT) return;
            for (int t = 0; t < land.towns; t++) {
                int way = land.distance(last, t);
                if ((used & (1 << t)) != 0 || way == NONE) continue;
                c.row[towns] = t;
                extend(c, land, towns + 1, used | (1 << t), gain + land.bidOf(t) - way);
            }
        }

        /** Only a better row takes the place of an earlier one, which is the first by towns. */
        void offer(int towns, int value) {
            if (value <= worth || towns > TOWN_LIMIT) return;
            worth = value;
            bestLength = towns;
            for (int i = 0; i < towns; i++) bestRow[i] = row[i];
        }

        int townOf(int i) {
            return i >= 0 && i < bestLength ? bestRow[i] : NONE;
        }
    }
}
