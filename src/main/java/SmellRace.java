import java.util.Arrays;

/**
 * A race in fog, steered by nose. A text tells the bay, the boats and the laws;
 * then hours go by, boats are turned by hand, and questions are answered about
 * what is, what would be, and what can be known from what was smelt.
 */
public final class SmellRace {
    public static final int NONE = -1;

    private static final int NOT_SO = -2;

    private static final int TAPE_MOST = 2000;
    private static final int FEED_BYTES = 20;
    private static final int TOKENS_MOST = 400;
    private static final int ROWS_MOST = 5;
    private static final int ROW_LENGTH = 8;
    private static final int CELLS = ROWS_MOST * ROW_LENGTH;
    private static final int BOATS_MOST = 6;
    private static final int SETS = 1 << BOATS_MOST;
    private static final int IFS_MOST = 4;
    private static final int OPEN_MOST = 6;
    private static final int DIGIT_MOST = 9;
    private static final int COLD_MOST = 100;
    private static final int SEED_MOST = 9999;
    private static final int LIES_MOST = 9;

    private static final int AHEAD_MOST = 100;
    private static final int STEERED_MOST = 40;
    private static final int OUT_MOST = 24;
    private static final int ROCK_MOST = 60;
    private static final int SEEDS_MOST = 20;
    private static final int WIND_MOST = 999;
    private static final int UNDO_MOST = 30;
    private static final int SLOTS = 3;
    private static final int TOLD_MOST = 20;

    private static final int WATER = 0;
    private static final int ROCK = 1;
    private static final int MARK = 2;
    private static final int BEYOND = 3;

    private static final int EAST_WAY = 1;
    private static final int SOUTH_WAY = 2;
    private static final int WEST_WAY = 3;
    private static final int NORTH_WAY = 4;
    private static final int WAYS = 5;

    private static final int WENT = 0;
    private static final int CAME_HOME = 1;
    private static final int GOT_LOST = 2;
    private static final int STAYED = 3;

    private static final int SYNTAX = 1;
    private static final int ROOM = 2;
    private static final int TWICE = 3;
    private static final int WRONG = 5;
    private static final int BAY = 6;

    private static final int VAR_HOUR = 0;
    private static final int VAR_EAST = 1;
    private static final int VAR_SOUTH = 2;
    private static final int VAR_BLOWS = 3;
    private static final int VAR_SMELLS = 4;
    private static final int VAR_NEAR = 5;
    private static final int VAR_WHICH = 6;
    private static final int VAR_STRONG = 7;
    private static final int VAR_PLACED = 8;
    private static final int VARS = 9;

    private final Reader reader = new Reader();
    private Bay bay = new Bay();
    private final Scene now = new Scene();
    private final Scene ahead = new Scene();
    private final Past past = new Past();
    private final Scene[] slots = new Scene[SLOTS];
    private int slotsHeld = 0;
    private final Told told = new Told();
    private final Outs outs = new Outs();
    private final long[] covered = new long[BOATS_MOST];

    public SmellRace() {
        for (int i = 0; i < SLOTS; i++) {
            slots[i] = new Scene();
        }
    }

    // ---- the tape and the text ----

    public int feed(int a, int b, int c, int d, int e) {
        if (reader.length + FEED_BYTES > TAPE_MOST) {
            return NONE;
        }
        reader.addBytes(a);
        reader.addBytes(b);
        reader.addBytes(c);
        reader.addBytes(d);
        reader.addBytes(e);
        return reader.length;
    }

    public int back(int n) {
        if (n < 0 || n > reader.length) {
            return NONE;
        }
        reader.length -= n;
        return reader.length;
    }

    public int read() {
        int fault = reader.parse();
        reader.length = 0;
        if (fault == 0) {
            takeDraft();
        }
        return fault;
    }

    // The bay that ends is kept to be written over by the next text.
    private void takeDraft() {
        Bay ended = bay;
        bay = reader.draft;
        reader.draft = ended;
        bay.chart();
        bay.begin(now);
        past.clear();
        slotsHeld = 0;
        told.size = 0;
    }

    public int place() {
        return reader.faultPlace;
    }

    // ---- what is ----

    public int boat(int boat, int what) {
        if (!isBoat(boat)) {
            return NONE;
        }
        switch (what) {
            case 0:
                return now.eastOf(boat);
            case 1:
                return now.southOf(boat);
            case 2:
                return now.arrivalOf(boat);
            case 3:
                return (now.lost >> boat) & 1;
            case 4:
                return (now.pans >> boat) & 1;
            case 5:
                return bay.dishesSmelledBy(now, boat, bay.seed);
            case 6:
                return bay.hasCold(boat, now.hour, bay.seed) ? 1 : 0;
            case 7:
                return now.rankOf(boat, bay.boats);
            default:
                return NONE;
        }
    }

    public int cell(int x, int y, int what) {
        if (!bay.isInside(x, y)) {
            return NONE;
        }
        int cell = ROW_LENGTH * y + x;
        switch (what) {
            case 0:
                return bay.kinds[cell];
            case 1:
                return now.dishesIn(cell, bay.boats);
            case 2:
                return boatsIn(cell);
            default:
                return NONE;
        }
    }

    private int boatsIn(int cell) {
        int found = 0;
        for (int k = 0; k < bay.boats; k++) {
            if (now.isSailing(k) && now.cells[k] == cell) {
                found |= 1 << k;
            }
        }
        return found;
    }

    public int laid(int x, int y, int dish, boolean till) {
        if (!bay.isInside(x, y) || !isBoat(dish)) {
            return NONE;
        }
        int at = CELLS * dish + ROW_LENGTH * y + x;
        if (!now.wasLaid(at)) {
            return NOT_SO;
        }
        return till ? now.liesTill(at) : now.laidHour(at);
    }

    public int wind(int hour) {
        return isWithin(hour, 0, WIND_MOST) ? bay.windAt(hour) : NONE;
    }

    public int steers(int boat) {
        if (!isBoat(boat)) {
            return NONE;
        }
        return now.isSailing(boat) ? bay.wayOf(now, boat, bay.windAt(now.hour), bay.seed) : NOT_SO;
    }

    // ---- what is done ----

    public int hours(int n) {
        if (!isWithin(n, 0, AHEAD_MOST)) {
            return NONE;
        }
        if (n > 0) {
            past.keep(now);
            bay.passHours(now, n, bay.seed);
        }
        return now.hour;
    }

    public int go(int boat, int way) {
        if (!isBoat(boat) || !isWithin(way, EAST_WAY, NORTH_WAY)) {
            return NONE;
        }
        if (!now.isSailing(boat)) {
            return NOT_SO;
        }
        past.keep(now);
        return bay.move(now, boat, way);
    }

    public boolean pan(int boat, boolean on) {
        if (!isBoat(boat) || ((now.pans >> boat) & 1) == (on ? 1 : 0)) {
            return false;
        }
        past.keep(now);
        now.pans ^= 1 << boat;
        return true;
    }

    public boolean undo() {
        return past.giveBack(now);
    }

    // ---- what would be ----

    public int then(int boat, int n, int what) {
        if (!isBoat(boat) || !isWithin(n, 0, AHEAD_MOST) || !isWithin(what, 0, 2)) {
            return NONE;
        }
        lookAhead(n);
        if (what == 0) {
            return ahead.eastOf(boat);
        }
        return what == 1 ? ahead.southOf(boat) : ahead.arrivalOf(boat);
    }

    public int many(int n, boolean lost) {
        if (!isWithin(n, 0, AHEAD_MOST)) {
            return NONE;
        }
        lookAhead(n);
        return Integer.bitCount(lost ? ahead.lost : ahead.home);
    }

    public int ranked(int rank) {
        return now.boatRanked(rank, bay.boats);
    }

    public int soonest(int boat) {
        if (!isBoat(boat)) {
            return NONE;
        }
        return stepsToMark(boat);
    }

    public int route(int boat, int i) {
        if (!isBoat(boat) || i < 0) {
            return NONE;
        }
        int steps = stepsToMark(boat);
        if (steps <= 0) {
            return NOT_SO;
        }
        if (i >= steps) {
            return NONE;
        }
        int cell = now.cells[boat];
        for (int j = 0; j < i; j++) {
            cell = bay.beside(cell, bay.wayNearer(cell));
        }
        return bay.wayNearer(cell);
    }

    private int stepsToMark(int boat) {
        if (!now.isSailing(boat)) {
            return ((now.home >> boat) & 1) == 1 ? 0 : NOT_SO;
        }
        int steps = bay.steps[now.cells[boat]];
        return steps == NONE ? NOT_SO : steps;
    }

    public int hidden(int boat) {
        if (!isBoat(boat)) {
            return NONE;
        }
        int steps = stepsToMark(boat);
        if (steps <= 0) {
            return steps;
        }
        lookWithout(boat);
        long reached = 1L << now.cells[boat];
        long marks = bay.cellsOf(MARK);
        for (int t = 1; t <= STEERED_MOST; t++) {
            bay.passHour(ahead, bay.seed);
            reached = bay.spread(reached);
            if ((reached & marks) != 0) {
                return t;
            }
            reached = bay.unsmelt(ahead, reached, bay.strong[boat]);
        }
        return NOT_SO;
    }

    public int inPlace(int boat, int p) {
        if (!isBoat(boat) || !isWithin(p, 1, BOATS_MOST)) {
            return NONE;
        }
        int steps = stepsToMark(boat);
        if (steps <= 0) {
            return NOT_SO;
        }
        lookWithout(boat);
        int lesser = (1 << boat) - 1;
        for (int t = 1; t <= STEERED_MOST; t++) {
            int before = ahead.home;
            bay.passHour(ahead, bay.seed);
            int first = before | (ahead.home & lesser);
            if (t >= steps && Integer.bitCount(first) == p - 1) {
                return t;
            }
        }
        return NOT_SO;
    }

    public int smelt(int boat, int other) {
        if (!arePair(boat, other)) {
            return NONE;
        }
        lookAhead(0);
        for (int t = 0; t <= AHEAD_MOST; t++) {
            if (((bay.dishesSmelledBy(ahead, boat, bay.seed) >> other) & 1) == 1) {
                return t;
            }
            bay.passHour(ahead, bay.seed);
        }
        return NOT_SO;
    }

    public int bare(int n) {
        if (!isWithin(n, 0, AHEAD_MOST)) {
            return NONE;
        }
        lookAhead(n);
        int found = 0;
        for (int cell = 0; cell < CELLS; cell++) {
            if (bay.kinds[cell] == WATER && ahead.dishesIn(cell, bay.boats) == 0) {
                found++;
            }
        }
        return found;
    }

    public int met(int boat, int other, int n) {
        if (!arePair(boat, other) || !isWithin(n, 1, AHEAD_MOST)) {
            return NONE;
        }
        lookAhead(0);
        int found = 0;
        for (int t = 1; t <= n; t++) {
            bay.passHour(ahead, bay.seed);
            if (ahead.areTogether(boat, other)) {
                found++;
            }
        }
        return found;
    }

    public int leader(int n) {
        if (!isWithin(n, 0, AHEAD_MOST)) {
            return NONE;
        }
        if (bay.boats == 0) {
            return NOT_SO;
        }
        lookAhead(n);
        return ahead.boatRanked(0, bay.boats);
    }

    public int cover(int what) {
        if (!isWithin(what, 0, 2)) {
            return NONE;
        }
        int all = bay.sailing(now) & now.pans;
        for (int k = 0; k < bay.boats; k++) {
            covered[k] = bay.waterSmelling(now, k);
        }
        long whole = coveredBy(all);
        if (what == 2) {
            return Long.bitCount(whole);
        }
        int best = all;
        for (int set = 0; set < all; set++) {
            boolean fewer = Integer.bitCount(set) < Integer.bitCount(best);
            if ((set & ~all) == 0 && fewer && coveredBy(set) == whole) {
                best = set;
            }
        }
        return what == 0 ? Integer.bitCount(best) : best;
    }

    private long coveredBy(int set) {
        long cells = 0;
        for (int k = 0; k < bay.boats; k++) {
            if (((set >> k) & 1) == 1) {
                cells |= covered[k];
            }
        }
        return cells;
    }

    public int out(int n, int i) {
        if (!isWithin(n, 1, OUT_MOST) || i < NONE) {
            return NONE;
        }
        return outs.nthRest(bay, now, n, i);
    }

    public int odds(int boat, int n, int s) {
        if (!isBoat(boat) || !isWithin(n, 0, AHEAD_MOST) || !isWithin(s, 1, SEEDS_MOST)) {
            return NONE;
        }
        int found = 0;
        for (int i = 0; i < s; i++) {
            ahead.copyFrom(now);
            bay.passHours(ahead, n, bay.seed + i);
            found += (ahead.home >> boat) & 1;
        }
        return found;
    }

    public int lost(int what) {
        if (!isWithin(what, 0, 1)) {
            return NONE;
        }
        lookAhead(0);
        for (int t = 1; t <= AHEAD_MOST; t++) {
            bay.passHour(ahead, bay.seed);
            int fresh = ahead.lost & ~now.lost;
            if (fresh != 0) {
                return what == 1 ? t : leastOf(fresh);
            }
        }
        return NOT_SO;
    }

    private void lookAhead(int n) {
        ahead.copyFrom(now);
        bay.passHours(ahead, n, bay.seed);
    }

    // Among what would be, a boat that is nowhere does all that a lost one does: nothing.
    private void lookWithout(int boat) {
        ahead.copyFrom(now);
        ahead.lost |= 1 << boat;
    }

    // ---- what can be known ----

    public int tell(int boat, int pan) {
        if (told.size >= TOLD_MOST || !isBoat(boat) || !isBoat(pan)) {
            return NONE;
        }
        return told.add(pan, bay.dishesSmelledBy(now, boat, bay.seed));
    }

    public int forget() {
        int size = told.size;
        told.size = 0;
        return size;
    }

    public int fried(int k) {
        if (!isWithin(k, 0, told.size)) {
            return NONE;
        }
        told.allowFirst(k, bay.boats);
        return told.waysLeft(bay.boats);
    }

    public int sure(int k, int pan) {
        if (!isWithin(k, 0, told.size) || !isBoat(pan)) {
            return NONE;
        }
        told.allowFirst(k, bay.boats);
        return told.ownerOf(pan, bay.boats);
    }

    public int rock(int n, int set, int i) {
        if (!isWithin(n, 1, ROCK_MOST) || !isWithin(set, 0, bay.allBoats()) || i < NONE) {
            return NONE;
        }
        int found = 0;
        for (int cell = 0; cell < CELLS; cell++) {
            if (mayBeRock(cell) && lostWithRock(cell, n) == set) {
                if (found == i) {
                    return cell;
                }
                found++;
            }
        }
        return i == NONE ? found : NONE;
    }

    private boolean mayBeRock(int cell) {
        if (bay.kinds[cell] != WATER) {
            return false;
        }
        for (int k = 0; k < bay.boats; k++) {
            if (bay.startOf(k) == cell) {
                return false;
            }
        }
        return true;
    }

    private int lostWithRock(int cell, int n) {
        bay.kinds[cell] = ROCK;
        bay.begin(ahead);
        bay.passHours(ahead, n, bay.seed);
        bay.kinds[cell] = WATER;
        return ahead.lost;
    }

    // ---- what is held ----

    public boolean hold(int slot) {
        if (!isWithin(slot, 0, SLOTS - 1)) {
            return false;
        }
        slots[slot].copyFrom(now);
        slotsHeld |= 1 << slot;
        return true;
    }

    public boolean restore(int slot) {
        if (!isWithin(slot, 0, SLOTS - 1) || ((slotsHeld >> slot) & 1) == 0) {
            return false;
        }
        now.copyFrom(slots[slot]);
        past.clear();
        return true;
    }

    public int count(int what) {
        switch (what) {
            case 0:
                return bay.width;
            case 1:
                return bay.height;
            case 2:
                return bay.boats;
            case 3:
                return now.hour;
            case 4:
                return now.home;
            case 5:
                return now.lost;
            case 6:
                return now.pans;
            case 7:
                return bay.windAt(now.hour);
            case 8:
                return reader.length;
            case 9:
                return past.size;
            case 10:
                return told.size;
            case 11:
                return Integer.bitCount(slotsHeld);
            case 12:
                return Long.bitCount(bay.cellsOf(WATER));
            case 13:
                return bay.sailing(now);
            default:
                return NONE;
        }
    }

    // ---- small looks ----

    private boolean isBoat(int k) {
        return k >= 0 && k < bay.boats;
    }

    private boolean arePair(int boat, int other) {
        return isBoat(boat) && isBoat(other) && boat != other;
    }

    private static boolean isWithin(int n, int least, int most) {
        return n >= least && n <= most;
    }

    private static int leastOf(int set) {
        for (int k = 0; k < BOATS_MOST; k++) {
            if (((set >> k) & 1) == 1) {
                return k;
            }
        }
        return NONE;
    }

    /** A law: its pieces in postfix, "if a < b then c else" as three of them, the last E as one. */
    private static final class Law {
        private static final int PIECES_MOST = 3 * IFS_MOST + 1;
        private static final int STACK = 32;
        // Codes: a number by itself, FIRST_VAR + a var, FIRST_SIGN + 0 plus, 1 minus, 2 times, 3 divided.
        private static final int FIRST_VAR = 10000;
        private static final int FIRST_SIGN = 10100;
        private static final int PLUS = 10100;
        private static final int MINUS = 10101;
        private static final int TIMES = 10102;

        final int[] vars = new int[VARS];
        private final int[] codes = new int[TOKENS_MOST];
        private final int[] ends = new int[PIECES_MOST];
        private final int[] stack = new int[STACK];
        private int length = 0;
        private int pieces = 0;
        private boolean broken = false;

        void clear() {
            length = 0;
            pieces = 0;
        }

        void becomeNumber(int number) {
            clear();
            addCode(number);
            endPiece();
        }

        void addCode(int code) {
            if (length < TOKENS_MOST) {
                codes[length] = code;
                length++;
            }
        }

        void endPiece() {
            if (pieces < PIECES_MOST) {
                ends[pieces] = length;
                pieces++;
            }
        }

        int tells() {
            broken = false;
            int last = pieces - 1;
            for (int i = 0; i + 2 < last; i += 3) {
                int less = value(i);
                int more = value(i + 1);
                if (broken) {
                    return 0;
                }
                if (less < more) {
                    return whole(value(i + 2));
                }
            }
            return whole(value(last));
        }

        private int whole(int answer) {
            return broken ? 0 : answer;
        }

        private int value(int piece) {
            if (piece < 0 || piece >= pieces) {
                return 0;
            }
            int top = 0;
            for (int i = piece == 0 ? 0 : ends[piece - 1]; i < ends[piece]; i++) {
                int code = codes[i];
                if (code < FIRST_SIGN && top < STACK) {
                    stack[top] = code < FIRST_VAR ? code : vars[code - FIRST_VAR];
                    top++;
                } else if (code >= FIRST_SIGN && top >= 2) {
                    top--;
                    int left = stack[top - 1];
                    int right = stack[top];
                    if (code == PLUS) {
                        stack[top - 1] = left + right;
                    } else if (code == MINUS) {
                        stack[top - 1] = left - right;
                    } else if (code == TIMES) {
                        stack[top - 1] = left * right;
                    } else if (right != 0) {
                        stack[top - 1] = left / right;
                    } else {
                        broken = true;
                        return 0;
                    }
                }
            }
            return stack[0];
        }
    }

    /** What the text tells: the cells, the boats, the laws; and how an hour goes by there. */
    private static final class Bay {
        int width = 0;
        int height = 0;
        int boats = 0;
        int cold = 0;
        int seed = 0;
        final int[] kinds = new int[CELLS];
        final int[] steps = new int[CELLS];
        final long[] names = new long[BOATS_MOST];
        final int[] startX = new int[BOATS_MOST];
        final int[] startY = new int[BOATS_MOST];
        final int[] strong = new int[BOATS_MOST];
        final int[] nose = new int[BOATS_MOST];
        final Law blowing = new Law();
        final Law steering = new Law();
        final Law lying = new Law();

        Bay() {
            clear();
        }

        void clear() {
            width = 0;
            height = 0;
            boats = 0;
            cold = 0;
            seed = 0;
            Arrays.fill(kinds, BEYOND);
            blowing.becomeNumber(0);
            steering.becomeNumber(1);
            lying.becomeNumber(1);
        }

        boolean isNamed(long name) {
            for (int k = 0; k < boats; k++) {
                if (names[k] == name) {
                    return true;
                }
            }
            return false;
        }

        boolean areBoatsAfloat() {
            for (int k = 0; k < boats; k++) {
                if (!isInside(startX[k], startY[k]) || kinds[startOf(k)] == ROCK) {
                    return false;
                }
            }
            return true;
        }

        int startOf(int boat) {
            return ROW_LENGTH * startY[boat] + startX[boat];
        }

        boolean isInside(int x, int y) {
            return x >= 0 && x < width && y >= 0 && y < height;
        }

        int allBoats() {
            return (1 << boats) - 1;
        }

        int sailing(Scene scene) {
            return allBoats() & ~(scene.lost | scene.home);
        }

        long cellsOf(int kind) {
            long found = 0;
            for (int cell = 0; cell < CELLS; cell++) {
                if (kinds[cell] == kind) {
                    found |= 1L << cell;
                }
            }
            return found;
        }

        /** The cell one way further; NONE beyond the bay. */
        int beside(int cell, int way) {
            int x = cell % ROW_LENGTH;
            int y = cell / ROW_LENGTH;
            switch (way) {
                case EAST_WAY:
                    x++;
                    break;
                case SOUTH_WAY:
                    y++;
                    break;
                case WEST_WAY:
                    x--;
                    break;
                case NORTH_WAY:
                    y--;
                    break;
                default:
                    break;
            }
            // Not by isInside: calls would go nine deep from out() on.
            boolean inside = x >= 0 && x < width && y >= 0 && y < height;
            return inside ? ROW_LENGTH * y + x : NONE;
        }

        // ---- the way to the mark ----

        /** Fills in how many steps each cell is from a mark. */
        void chart() {
            for (int cell = 0; cell < CELLS; cell++) {
                steps[cell] = kinds[cell] == MARK ? 0 : NONE;
            }
            boolean found = true;
            for (int far = 1; far <= STEERED_MOST && found; far++) {
                found = false;
                for (int cell = 0; cell < CELLS; cell++) {
                    if (kinds[cell] == WATER && steps[cell] == NONE && wayTo(cell, far - 1) != NONE) {
                        steps[cell] = far;
                        found = true;
                    }
                }
            }
        }

        int wayNearer(int cell) {
            return wayTo(cell, steps[cell] - 1);
        }

        private int wayTo(int cell, int far) {
            for (int way = EAST_WAY; way < WAYS && far >= 0; way++) {
                int next = beside(cell, way);
                if (next != NONE && steps[next] == far) {
                    return way;
                }
            }
            return NONE;
        }

        /** All cells to which one hour leads from some, never on a rock. */
        long spread(long from) {
            long found = from;
            for (int cell = 0; cell < CELLS; cell++) {
                for (int way = EAST_WAY; way < WAYS && ((from >> cell) & 1) == 1; way++) {
                    int next = beside(cell, way);
                    if (next != NONE && kinds[next] != ROCK) {
                        found |= 1L << next;
                    }
                }
            }
            return found;
        }

        /** Those of some cells from which a dish would be laid where no boat sails. */
        long unsmelt(Scene scene, long from, int strength) {
            int blows = windAt(scene.hour);
            long noses = 0;
            for (int k = 0; k < boats; k++) {
                if (scene.isSailing(k)) {
                    noses |= 1L << scene.cells[k];
                }
            }
            long found = 0;
            for (int cell = 0; cell < CELLS; cell++) {
                if (((from >> cell) & 1) == 1 && (plume(cell, strength, blows) & noses) == 0) {
                    found |= 1L << cell;
                }
            }
            return found;
        }

        private long plume(int from, int strength, int blows) {
            long found = 0;
            int cell = from;
            for (int i = 0; i <= strength && cell != NONE; i++) {
                found |= 1L << cell;
                cell = downwind(cell, blows);
            }
            return found;
        }

        private int downwind(int cell, int blows) {
            int next = beside(cell, blows);
            return next != NONE && kinds[next] == ROCK ? NONE : next;
        }

        // ---- smells ----

        int windAt(int hour) {
            blowing.vars[VAR_HOUR] = hour;
            int tells = blowing.tells();
            return tells < 0 ? 1 : tells % 4 + 1;
        }

        boolean hasCold(int boat, int hour, int ofSeed) {
            return cold > 0 && lot(COLD_MOST, ofSeed, 16 * hour + boat) < cold;
        }

        private static int lot(int n, int ofSeed, int which) {
            int h = ofSeed;
            for (int i = 0; i < 2; i++) {
                h = (h ^ (i == 0 ? 69 : which)) * 1103515245 + 12345;
                h ^= h >>> 15;
            }
            return n <= 0 ? 0 : (h >>> 1) % n;
        }

        int dishesSmelledBy(Scene scene, int boat, int ofSeed) {
            if (!scene.isSailing(boat) || hasCold(boat, scene.hour, ofSeed)) {
                return 0;
            }
            int found = 0;
            for (int dish = 0; dish < boats; dish++) {
                int at = CELLS * dish + scene.cells[boat];
                boolean fresh = scene.hour - scene.laidHour(at) <= nose[boat];
                if (dish != boat && scene.lies(at) && fresh) {
                    found |= 1 << dish;
                }
            }
            return found;
        }

        /** The cells of water in which a dish is smelt. */
        long waterSmelling(Scene scene, int dish) {
            long found = 0;
            for (int cell = 0; cell < CELLS; cell++) {
                if (kinds[cell] == WATER && scene.lies(CELLS * dish + cell)) {
                    found |= 1L << cell;
                }
            }
            return found;
        }

        private void layDishes(Scene scene) {
            int blows = windAt(scene.hour);
            int frying = sailing(scene) & scene.pans;
            for (int k = 0; k < boats; k++) {
                if (((frying >> k) & 1) == 1) {
                    layDish(scene, k, blows);
                }
            }
        }

        private void layDish(Scene scene, int boat, int blows) {
            lying.vars[VAR_HOUR] = scene.hour;
            lying.vars[VAR_STRONG] = strong[boat];
            lying.vars[VAR_WHICH] = boat;
            int cell = scene.cells[boat];
            for (int i = 0; i <= strong[boat] && cell != NONE; i++) {
                lying.vars[VAR_EAST] = cell % ROW_LENGTH;
                lying.vars[VAR_SOUTH] = cell / ROW_LENGTH;
                scene.lay(CELLS * boat + cell, Math.max(0, Math.min(LIES_MOST, lying.tells())));
                cell = downwind(cell, blows);
            }
        }

        // ---- hours ----

        /** Sets a scene to how the text begins. */
        void begin(Scene scene) {
            scene.clear();
            scene.pans = allBoats();
            for (int k = 0; k < boats; k++) {
                scene.cells[k] = startOf(k);
                if (kinds[startOf(k)] == MARK) {
                    scene.bringHome(k);
                }
            }
            layDishes(scene);
        }

        void passHours(Scene scene, int n, int ofSeed) {
            for (int i = 0; i < n; i++) {
                passHour(scene, ofSeed);
            }
        }

        void passHour(Scene scene, int ofSeed) {
            int sailing = sailing(scene);
            int blows = windAt(scene.hour);
            int ways = 0;
            for (int k = 0; k < boats; k++) {
                if (((sailing >> k) & 1) == 1) {
                    ways |= wayOf(scene, k, blows, ofSeed) << (3 * k);
                }
            }
            for (int k = 0; k < boats; k++) {
                if (((sailing >> k) & 1) == 1) {
                    move(scene, k, (ways >> (3 * k)) & 7);
                }
            }
            scene.hour++;
            layDishes(scene);
        }

        int wayOf(Scene scene, int boat, int blows, int ofSeed) {
            int dishes = dishesSmelledBy(scene, boat, ofSeed);
            int[] vars = steering.vars;
            vars[VAR_HOUR] = scene.hour;
            vars[VAR_EAST] = scene.eastOf(boat);
            vars[VAR_SOUTH] = scene.southOf(boat);
            vars[VAR_BLOWS] = blows;
            vars[VAR_SMELLS] = Integer.bitCount(dishes);
            vars[VAR_NEAR] = leastOf(dishes);
            vars[VAR_WHICH] = boat;
            vars[VAR_STRONG] = strong[boat];
            vars[VAR_PLACED] = Integer.bitCount(scene.home);
            int tells = steering.tells();
            return tells < 0 ? 0 : tells % WAYS;
        }

        int move(Scene scene, int boat, int way) {
            int next = beside(scene.cells[boat], way);
            if (next == NONE || way == 0) {
                return STAYED;
            }
            scene.cells[boat] = next;
            if (kinds[next] == ROCK) {
                scene.lost |= 1 << boat;
                return GOT_LOST;
            }
            if (kinds[next] == MARK) {
                scene.bringHome(boat);
                return CAME_HOME;
            }
            return WENT;
        }
    }

    /** How all is: the hour, the boats, the pans, and what lies on the water. */
    private static final class Scene {
        int hour = 0;
        int pans = 0;
        int lost = 0;
        int home = 0;
        final int[] cells = new int[BOATS_MOST];
        final int[] arrivals = new int[BOATS_MOST];
        // By dish and cell: 0 never laid, else 16 * (the hour of laying + 1) + how long it lies.
        final int[] layings = new int[BOATS_MOST * CELLS];

        void clear() {
            hour = 0;
            pans = 0;
            lost = 0;
            home = 0;
            Arrays.fill(cells, 0);
            Arrays.fill(arrivals, 0);
            Arrays.fill(layings, 0);
        }

        void copyFrom(Scene other) {
            hour = other.hour;
            pans = other.pans;
            lost = other.lost;
            home = other.home;
            System.arraycopy(other.cells, 0, cells, 0, BOATS_MOST);
            System.arraycopy(other.arrivals, 0, arrivals, 0, BOATS_MOST);
            System.arraycopy(other.layings, 0, layings, 0, BOATS_MOST * CELLS);
        }

        boolean isSailing(int boat) {
            return (((lost | home) >> boat) & 1) == 0;
        }

        boolean isLost(int boat) {
            return ((lost >> boat) & 1) == 1;
        }

        boolean isHome(int boat) {
            return ((home >> boat) & 1) == 1;
        }

        boolean areTogether(int boat, int other) {
            return isSailing(boat) && isSailing(other) && cells[boat] == cells[other];
        }

        int eastOf(int boat) {
            return isLost(boat) ? NOT_SO : cells[boat] % ROW_LENGTH;
        }

        int southOf(int boat) {
            return isLost(boat) ? NOT_SO : cells[boat] / ROW_LENGTH;
        }

        int arrivalOf(int boat) {
            return isHome(boat) ? arrivals[boat] : NOT_SO;
        }

        void bringHome(int boat) {
            home |= 1 << boat;
            arrivals[boat] = Integer.bitCount(home);
        }

        // ---- ranks ----

        int rankOf(int boat, int boats) {
            int rank = 0;
            for (int k = 0; k < boats; k++) {
                if (behindness(k) < behindness(boat)) {
                    rank++;
                }
            }
            return rank;
        }

        int boatRanked(int rank, int boats) {
            for (int k = 0; k < boats; k++) {
                if (rankOf(k, boats) == rank) {
                    return k;
                }
            }
            return NONE;
        }

        // A number of each boat's own: less is further ahead.
        private int behindness(int boat) {
            if (isHome(boat)) {
                return arrivals[boat];
            }
            if (isLost(boat)) {
                return 1000 + boat;
            }
            return 10 * (ROW_LENGTH - eastOf(boat)) + boat;
        }

        // ---- layings, by CELLS * dish + cell ----

        void lay(int at, int hoursMore) {
            layings[at] = 16 * (hour + 1) + hoursMore;
        }

        boolean wasLaid(int at) {
            return layings[at] != 0;
        }

        int laidHour(int at) {
            return layings[at] / 16 - 1;
        }

        int liesTill(int at) {
            return layings[at] / 16 - 1 + layings[at] % 16;
        }

        boolean lies(int at) {
            return wasLaid(at) && hour <= liesTill(at);
        }

        int dishesIn(int cell, int boats) {
            int found = 0;
            for (int dish = 0; dish < boats; dish++) {
                if (lies(CELLS * dish + cell)) {
                    found |= 1 << dish;
                }
            }
            return found;
        }
    }

    /** The last scenes before something was done, the oldest given up for a new one. */
    private static final class Past {
        int size = 0;
        private final Scene[] scenes = new Scene[UNDO_MOST];
        private int next = 0;

        Past() {
            for (int i = 0; i < UNDO_MOST; i++) {
                scenes[i] = new Scene();
            }
        }

        void clear() {
            size = 0;
        }

        void keep(Scene scene) {
            scenes[next].copyFrom(scene);
            next = (next + 1) % UNDO_MOST;
            size = Math.min(UNDO_MOST, size + 1);
        }

        boolean giveBack(Scene scene) {
            if (size == 0) {
                return false;
            }
            next = (next + UNDO_MOST - 1) % UNDO_MOST;
            size--;
            scene.copyFrom(scenes[next]);
            return true;
        }
    }

    /** Sets of boats that put their pans out, and how far each boat comes then. */
    private static final class Outs {
        private static final int FAR_EAST = 100;

        private final int[] reached = new int[SETS * BOATS_MOST];
        private final Scene scene = new Scene();

        /** The i-th set at rest, or how many there are if i is NONE. */
        int nthRest(Bay bay, Scene now, int n, int i) {
            for (int set = 0; set <= now.pans; set++) {
                if ((set & ~now.pans) == 0) {
                    sail(bay, now, n, set);
                }
            }
            int found = 0;
            for (int set = 0; set <= now.pans; set++) {
                if ((set & ~now.pans) == 0 && isRest(now.pans, set)) {
                    if (found == i) {
                        return set;
                    }
                    found++;
                }
            }
            return i == NONE ? found : NONE;
        }

        private void sail(Bay bay, Scene now, int n, int set) {
            scene.copyFrom(now);
            scene.pans &= ~set;
            for (int i = 0; i < n; i++) {
                bay.passHour(scene, bay.seed);
            }
            for (int k = 0; k < bay.boats; k++) {
                reached[BOATS_MOST * set + k] = howFar(k);
            }
        }

        private int howFar(int boat) {
            if (scene.isHome(boat)) {
                return FAR_EAST;
            }
            return scene.isLost(boat) ? -1 : scene.eastOf(boat);
        }

        private boolean isRest(int pans, int set) {
            for (int k = 0; k < BOATS_MOST; k++) {
                int other = set ^ (1 << k);
                boolean free = ((pans >> k) & 1) == 1;
                if (free && reached[BOATS_MOST * other + k] > reached[BOATS_MOST * set + k]) {
                    return false;
                }
            }
            return true;
        }
    }

    /** What was told of pans, and whose they can be by it. */
    private static final class Told {
        int size = 0;
        private final int[] pans = new int[TOLD_MOST];
        private final int[] dishes = new int[TOLD_MOST];
        private final int[] allowed = new int[BOATS_MOST];
        private final int[] ways = new int[SETS];

        int add(int pan, int smelled) {
            if (size >= TOLD_MOST) {
                return NONE;
            }
            pans[size] = pan;
            dishes[size] = smelled;
            size++;
            return size - 1;
        }

        /** Sets which boats each pan can be of, by the first k. */
        void allowFirst(int k, int boats) {
            Arrays.fill(allowed, (1 << boats) - 1);
            for (int i = 0; i < k && i < size; i++) {
                allowed[pans[i]] &= dishes[i];
            }
        }

        // By sets of boats: in how many ways the first pans, as many as the set has, are theirs.
        int waysLeft(int boats) {
            int all = (1 << boats) - 1;
            Arrays.fill(ways, 0);
            ways[0] = 1;
            for (int set = 0; set < all; set++) {
                int free = allowed[Integer.bitCount(set)] & ~set;
                for (int k = 0; k < boats; k++) {
                    if (((free >> k) & 1) == 1) {
                        ways[set | (1 << k)] += ways[set];
                    }
                }
            }
            return ways[all];
        }

        int ownerOf(int pan, int boats) {
            int total = waysLeft(boats);
            int able = allowed[pan];
            for (int k = 0; k < boats && total > 0; k++) {
                allowed[pan] = able & (1 << k);
                if (waysLeft(boats) == total) {
                    return k;
                }
            }
            return NOT_SO;
        }
    }

    /** The tape, and how it is read: into tokens first, then into a bay. */
    private static final class Reader {
        private static final int END = 0;
        private static final int JUNK = 1;
        private static final int NAME = 2;
        private static final int INT = 3;
        private static final int FIRST_WORD = 4;
        private static final int ROW = 4;
        private static final int BOAT = 5;
        private static final int WIND = 6;
        private static final int STEERS = 7;
        private static final int LIES = 8;
        private static final int COLD = 9;
        private static final int SEED = 10;
        private static final int IF = 11;
        private static final int THEN = 12;
        private static final int ELSE = 13;
        private static final int FIRST_VAR = 14;
        private static final int FIRST_SIGN = 23;
        private static final int SEMICOLON = 23;
        private static final int EQUALS = 24;
        private static final int PLUS = 25;
        private static final int MINUS = 26;
        private static final int TIMES = 27;
        private static final int DIVIDED = 28;
        private static final int LESS = 29;
        private static final int OPEN = 30;
        private static final int CLOSE = 31;

        private static final int NAME_MOST = 8;
        private static final int DIGITS_MOST = 4;
        private static final int WORD_COUNT = 19;
        // Each word is filled up to eight signs; the kinds of words, from FIRST_WORD on, stand in this order.
        private static final String WORDS = "row     boat    wind    steers  lies    cold    seed    if      then    else    hour    east    south   blows   smells  near    which   strong  placed  ";
        // The kinds of signs, from FIRST_SIGN on, stand in this order.
        private static final String SIGNS = ";=+-*/<()";
        // By what a cell is: water, rock, mark.
        private static final String LETTERS = "orm";

        final byte[] tape = new byte[TAPE_MOST];
        int length = 0;
        Bay draft = new Bay();
        int faultPlace = NONE;
        private int fault = 0;
        // The first of the faults that count only where there is neither SYNTAX nor ROOM.
        private int flaw = 0;
        private int flawPlace = NONE;
        private final int[] kinds = new int[TOKENS_MOST + 1];
        private final int[] places = new int[TOKENS_MOST + 1];
        // Of an INT its number, of a NAME how many letters it has.
        private final int[] values = new int[TOKENS_MOST + 1];
        private int at = 0;

        void addBytes(int four) {
            for (int shift = 24; shift >= 0 && length < TAPE_MOST; shift -= 8) {
                tape[length] = (byte) (four >>> shift);
                length++;
            }
        }

        /** Reads the tape into the draft: 0, or the number of its fault. */
        int parse() {
            fault = 0;
            faultPlace = NONE;
            flaw = 0;
            flawPlace = NONE;
            at = 0;
            draft.clear();
            scan();
            for (int i = 0; i < TOKENS_MOST && fault == 0 && kinds[at] != END; i++) {
                tellOne();
            }
            if (!draft.areBoatsAfloat()) {
                addFlaw(BAY, length);
            }
            if (fault == 0) {
                fault = flaw;
                faultPlace = flawPlace;
            }
            return fault;
        }

        // ---- tokens ----

        // One token more than a text may have is looked at, since it may be SYNTAX, too.
        private void scan() {
            int from = 0;
            for (int i = 0; i <= TOKENS_MOST; i++) {
                from = behindBlanks(from);
                places[i] = from;
                from = scanToken(i, from);
                if (kinds[i] == END || kinds[i] == JUNK) {
                    return;
                }
            }
        }

        private int behindBlanks(int from) {
            int till = from;
            while (till < length && isBlank(tape[till])) {
                till++;
            }
            return till;
        }

        private static boolean isBlank(int sign) {
            return sign == 9 || sign == 10 || sign == 13 || sign == 32;
        }

        private int scanToken(int i, int from) {
            if (from >= length) {
                kinds[i] = END;
                return from;
            }
            int letters = runOf(from, 'a', 'z');
            if (letters > 0) {
                kinds[i] = letters > NAME_MOST ? JUNK : kindOfWord(from, letters);
                values[i] = letters;
                return from + letters;
            }
            int digits = runOf(from, '0', '9');
            if (digits > 0) {
                kinds[i] = digits > DIGITS_MOST ? JUNK : INT;
                values[i] = numberAt(from, Math.min(digits, DIGITS_MOST));
                return from + digits;
            }
            int sign = SIGNS.indexOf((char) (tape[from] & 255));
            kinds[i] = sign < 0 ? JUNK : FIRST_SIGN + sign;
            return from + 1;
        }

        private int runOf(int from, int least, int most) {
            int till = from;
            while (till < length && tape[till] >= least && tape[till] <= most) {
                till++;
            }
            return till - from;
        }

        private int kindOfWord(int from, int letters) {
            for (int w = 0; w < WORD_COUNT; w++) {
                if (isWord(w, from, letters)) {
                    return FIRST_WORD + w;
                }
            }
            return NAME;
        }

        private boolean isWord(int w, int from, int letters) {
            for (int i = 0; i < NAME_MOST; i++) {
                char sign = i < letters ? (char) tape[from + i] : ' ';
                if (WORDS.charAt(NAME_MOST * w + i) != sign) {
                    return false;
                }
            }
            return true;
        }

        private int numberAt(int from, int digits) {
            int number = 0;
            for (int i = 0; i < digits; i++) {
                number = 10 * number + tape[from + i] - '0';
            }
            return number;
        }

        // ---- faults ----

        private void fail(int number) {
            if (fault == 0) {
                fault = number;
                faultPlace = places[at];
            }
        }

        // They are come upon by their places, so that the first one stays.
        private void addFlaw(int number, int place) {
            if (flaw == 0) {
                flaw = number;
                flawPlace = place;
            }
        }

        /** Goes on behind a token of a kind; SYNTAX if it is none, ROOM if it is one too many. */
        private boolean need(int kind) {
            if (fault == 0 && kinds[at] == kind && at < TOKENS_MOST) {
                at++;
                return true;
            }
            if (fault == 0) {
                fault = kinds[at] == kind ? ROOM : SYNTAX;
                faultPlace = places[at];
            }
            return false;
        }

        // ---- what is told ----

        private void tellOne() {
            switch (kinds[at]) {
                case ROW:
                    tellRow();
                    break;
                case BOAT:
                    tellBoat();
                    break;
                case WIND:
                    tellLaw(draft.blowing);
                    break;
                case STEERS:
                    tellLaw(draft.steering);
                    break;
                case LIES:
                    tellLaw(draft.lying);
                    break;
                case COLD:
                    need(COLD);
                    draft.cold = number(COLD_MOST);
                    break;
                case SEED:
                    need(SEED);
                    draft.seed = number(SEED_MOST);
                    break;
                default:
                    fail(SYNTAX);
                    break;
            }
            need(SEMICOLON);
        }

        private int number(int most) {
            int token = at;
            if (!need(INT)) {
                return 0;
            }
            if (values[token] > most) {
                addFlaw(WRONG, places[token]);
            }
            return values[token];
        }

        private void tellRow() {
            if (draft.height >= ROWS_MOST) {
                fail(ROOM);
            }
            need(ROW);
            int token = at;
            if (need(NAME)) {
                addRow(places[token], values[token]);
            }
        }

        private void addRow(int from, int letters) {
            if (draft.height == 0) {
                draft.width = letters;
            }
            boolean fits = letters == draft.width;
            for (int i = 0; i < letters; i++) {
                int kind = LETTERS.indexOf((char) tape[from + i]);
                fits = fits && kind >= 0;
                draft.kinds[ROW_LENGTH * draft.height + i] = kind;
            }
            draft.height++;
            if (!fits) {
                addFlaw(BAY, from);
            }
        }

        private void tellBoat() {
            if (draft.boats >= BOATS_MOST) {
                fail(ROOM);
            }
            need(BOAT);
            int token = at;
            if (!need(NAME)) {
                return;
            }
            long name = nameAt(places[token], values[token]);
            if (draft.isNamed(name)) {
                addFlaw(TWICE, places[token]);
            }
            int x = number(DIGIT_MOST);
            int y = number(DIGIT_MOST);
            int strong = number(DIGIT_MOST);
            int nose = number(DIGIT_MOST);
            int k = draft.boats;
            draft.names[k] = name;
            draft.startX[k] = x;
            draft.startY[k] = y;
            draft.strong[k] = strong;
            draft.nose[k] = nose;
            draft.boats++;
        }

        private long nameAt(int from, int letters) {
            long name = 0;
            for (int i = 0; i < letters; i++) {
                name = 32 * name + tape[from + i] - 'a' + 1;
            }
            return name;
        }

        // ---- laws ----

        private void tellLaw(Law law) {
            need(kinds[at]);
            need(EQUALS);
            law.clear();
            for (int ifs = 0; ifs < IFS_MOST && fault == 0 && kinds[at] == IF; ifs++) {
                need(IF);
                sum(law, 0);
                law.endPiece();
                need(LESS);
                sum(law, 0);
                law.endPiece();
                need(THEN);
                sum(law, 0);
                law.endPiece();
                need(ELSE);
            }
            if (kinds[at] == IF) {
                fail(ROOM);
            }
            sum(law, 0);
            law.endPiece();
        }

        private void sum(Law law, int depth) {
            product(law, depth);
            for (int i = 0; i < TOKENS_MOST && fault == 0 && (kinds[at] == PLUS || kinds[at] == MINUS); i++) {
                int sign = kinds[at];
                need(sign);
                product(law, depth);
                law.addCode(Law.FIRST_SIGN + sign - PLUS);
            }
        }

        private void product(Law law, int depth) {
            unit(law, depth);
            for (int i = 0; i < TOKENS_MOST && fault == 0 && (kinds[at] == TIMES || kinds[at] == DIVIDED); i++) {
                int sign = kinds[at];
                need(sign);
                unit(law, depth);
                law.addCode(Law.FIRST_SIGN + sign - PLUS);
            }
        }

        private void unit(Law law, int depth) {
            int token = at;
            int kind = kinds[token];
            if (fault != 0) {
                return;
            }
            if (kind == OPEN && depth >= OPEN_MOST) {
                fail(ROOM);
            } else if (kind == OPEN) {
                need(OPEN);
                sum(law, depth + 1);
                need(CLOSE);
            } else if (kind >= FIRST_VAR && kind < FIRST_SIGN) {
                need(kind);
                law.addCode(Law.FIRST_VAR + kind - FIRST_VAR);
            } else if (need(INT)) {
                law.addCode(values[token]);
            }
        }
    }
}
