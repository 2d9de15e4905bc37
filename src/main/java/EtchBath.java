/**
 * An etcher's three plates: grounds, baths, wished tones, kept states, prints and editions.
 *
 * <p>A cell is named by 100 times its plate, and its number. Answers below -1000000 are findings.
 */
public final class EtchBath {
    private static final int LOW = -1000000;
    private static final int BEYOND = LOW - 1;
    private static final int NONE = LOW - 2;
    private static final int STATE = LOW - 3;
    private static final int FULL = LOW - 4;
    private static final int KIND = LOW - 5;
    private static final int FINDINGS = 5;

    private static final int PLATES = 3;
    private static final int SIDE = 6;
    private static final int CELLS = SIDE * SIDE;
    private static final int SPOTS = PLATES * CELLS;
    private static final int STATES = 4;

    private static final int BARE = 0;
    private static final int LINE = 1;
    private static final int DUST = 2;
    private static final int RESIN = 60;

    private static final int DEEPEST = 9999;
    private static final int TONE_STEP = 40;
    private static final int DARKEST = 15;
    private static final int LONGEST = 200;
    /** Stands for a minute behind all that a span may hold. */
    private static final int NEVER = LONGEST + 1;

    private static final int MOST_TURNS = 100;
    private static final int MOST_WISHES = 8;
    private static final int MOST_GUARDS = 8;
    private static final int MOST_PULLS = 100;
    private static final int STEEL_PULLS = 100;
    private static final int LONGEST_EDITION = 300;

    private final Plates plates = new Plates();
    private final Plates[] states = new Plates[STATES];
    private final Wishes wishes = new Wishes();
    private final Press press = new Press();
    private final Guards guards = new Guards();
    private final int[] numbers = new int[CELLS];
    private final int[] findings = new int[FINDINGS + 1];
    private int waiting = 0;
    private int strength = 4;
    private int heat = 2;

    public EtchBath() {
    }

    // ---- plates

    public int ground(int cell, int kind) {
        int spot = spotOf(cell);
        if (spot < 0 || !isKind(kind)) {
            return finding(BEYOND);
        }
        int was = plates.kinds[spot];
        plates.layGround(spot, kind);
        return was;
    }

    public int as(int cell, int kind) {
        int spot = spotOf(cell);
        if (spot < 0 || !isKind(kind)) {
            return finding(BEYOND);
        }
        if (!isUnder(plates.kinds[spot], kind)) {
            return finding(KIND);
        }
        return plates.timesBite(spot);
    }

    public int stop(int cell, int is) {
        int spot = spotOf(cell);
        if (spot < 0 || !isSwitch(is)) {
            return finding(BEYOND);
        }
        int was = plates.stops[spot] ? 1 : 0;
        plates.stops[spot] = is == 1;
        return was;
    }

    public int clean(int plate) {
        if (!isPlate(plate)) {
            return finding(BEYOND);
        }
        return plates.cleanPlate(plate);
    }

    public int bath(int strength, int heat) {
        if (strength < 1 || strength > 9 || heat < 0 || heat > 4) {
            return finding(BEYOND);
        }
        this.strength = strength;
        this.heat = heat;
        return bite();
    }

    public int bathe(int plate, int n) {
        if (!isPlate(plate) || n < 1 || n > LONGEST) {
            return finding(BEYOND);
        }
        plates.bathePlate(plate, bite(), n);
        return plates.depthOfPlate(plate);
    }

    public int scrape(int cell, int n) {
        int spot = spotOf(cell);
        if (spot < 0 || n < 1 || n > MOST_TURNS) {
            return finding(BEYOND);
        }
        plates.scrapeCell(spot, n);
        return plates.depths[spot];
    }

    public int about(int cell, int what) {
        int spot = spotOf(cell);
        if (spot < 0) {
            return finding(BEYOND);
        }
        switch (what) {
            case 0: return plates.kinds[spot];
            case 1: return plates.depths[spot];
            case 2: return plates.stops[spot] ? 1 : 0;
            case 3: return plates.toneAt(spot);
            case 4: return plates.lives[spot];
            default: return finding(BEYOND);
        }
    }

    // ---- tones that are wished

    public int span(int cell, int tone, boolean last) {
        int spot = spotOf(cell);
        if (spot < 0 || !isTone(tone)) {
            return finding(BEYOND);
        }
        if (plates.stops[spot]) {
            return finding(STATE);
        }
        int firstMinute = plates.firstMinute(spot, tone, bite());
        int lastMinute = plates.lastMinute(spot, tone, bite());
        if (firstMinute > lastMinute) {
            return finding(NONE);
        }
        return last ? lastMinute : firstMinute;
    }

    public int wish(int cell, int tone) {
        int spot = spotOf(cell);
        if (spot < 0 || !isTone(tone)) {
            return finding(BEYOND);
        }
        if (plates.stops[spot] || !wishes.isOfSamePlate(spot) || wishes.hasSpot(spot)) {
            return finding(STATE);
        }
        if (wishes.size >= MOST_WISHES) {
            return finding(FULL);
        }
        wishes.addWish(spot, tone);
        return wishes.size;
    }

    public int clear() {
        int many = wishes.size;
        wishes.size = 0;
        return many;
    }

    public int baths() {
        return wishes.plan(plates, bite()) ? wishes.planned : finding(NONE);
    }

    public int minute(int i) {
        if (i < 0) {
            return finding(BEYOND);
        }
        if (!wishes.plan(plates, bite()) || i >= wishes.planned) {
            return finding(NONE);
        }
        return wishes.minutes[i];
    }

    public int work() {
        if (!wishes.plan(plates, bite())) {
            return finding(NONE);
        }
        wishes.fulfil(plates, bite());
        return wishes.planned;
    }

    // ---- states

    public int keep(int k) {
        if (!isState(k)) {
            return finding(BEYOND);
        }
        Plates state = states[k];
        boolean isNew = state == null;
        if (state == null) {
            state = new Plates();
            states[k] = state;
        }
        for (int plate = 0; plate < PLATES; plate++) {
            state.copyPlate(plates, plate);
        }
        return isNew ? 1 : 0;
    }

    public int changed(int plate, int k) {
        if (!isPlate(plate) || !isState(k)) {
            return finding(BEYOND);
        }
        Plates state = states[k];
        if (state == null) {
            return finding(NONE);
        }
        return plates.differences(state, plate);
    }

    public int back(int plate, int k) {
        if (!isPlate(plate) || !isState(k)) {
            return finding(BEYOND);
        }
        Plates state = states[k];
        if (state == null) {
            return finding(NONE);
        }
        int many = plates.differences(state, plate);
        plates.copyPlate(state, plate);
        return many;
    }

    // ---- prints

    public int offset(int plate, int down, int right) {
        if (!isPlate(plate) || down < -1 || down > 1 || right < -1 || right > 1) {
            return finding(BEYOND);
        }
        press.downs[plate] = down;
        press.rights[plate] = right;
        return 1;
    }

    public int colour(int place) {
        if (place < 0 || place >= CELLS) {
            return finding(BEYOND);
        }
        return press.colourAt(plates, place);
    }

    public int steel(int plate, int is) {
        if (!isPlate(plate) || !isSwitch(is)) {
            return finding(BEYOND);
        }
        int held = press.steels[plate];
        press.steels[plate] = is == 1 ? STEEL_PULLS : 0;
        return held;
    }

    public int pull(int n) {
        if (n < 1 || n > MOST_PULLS) {
            return finding(BEYOND);
        }
        press.pullAll(plates, n);
        return press.colourOfAll(plates);
    }

    public int guard(int cell, int low, int high) {
        int spot = spotOf(cell);
        if (spot < 0 || !isTone(low) || !isTone(high) || low > high) {
            return finding(BEYOND);
        }
        if (guards.size > 0 && guards.plateOfAll() != spot / CELLS) {
            return finding(STATE);
        }
        if (guards.size >= MOST_GUARDS) {
            return finding(FULL);
        }
        guards.addGuard(spot, low, high);
        return guards.size;
    }

    public int edition() {
        if (guards.size == 0) {
            return finding(NONE);
        }
        int pulls = guards.pullsHeld(plates, press.steels[guards.plateOfAll()]);
        guards.size = 0;
        return pulls;
    }

    // ---- what is told

    public int tell(int v) {
        if (waiting >= CELLS) {
            return finding(FULL);
        }
        numbers[waiting] = v;
        waiting++;
        return waiting;
    }

    public int check(int plate) {
        int many = waiting;
        // A plate that isn't there takes the numbers away, too.
        waiting = 0;
        if (!isPlate(plate)) {
            return finding(BEYOND);
        }
        for (int i = 0; i < many; i++) {
            if (numbers[i] != plates.toneAt(plate * CELLS + i)) {
                return 1 + i;
            }
        }
        return 0;
    }

    public int count(int what) {
        switch (what) {
            case 0: return bite();
            case 1: return wishes.size;
            case 2: return guards.size;
            case 3: return statesKept();
            case 4: return waiting;
            case 5: return plates.stoppedOfAll();
            case 6: return press.pulls;
            default: return finding(BEYOND);
        }
    }

    public int found(int k) {
        if (k < 1 || k > FINDINGS) {
            return finding(BEYOND);
        }
        return findings[k];
    }

    // ---- what the calls share

    private int finding(int answer) {
        int k = LOW - answer;
        if (k >= 1 && k <= FINDINGS) {
            findings[k]++;
        }
        return answer;
    }

    private int bite() {
        return Math.max(1, strength * (heat + 2) / 4);
    }

    private int statesKept() {
        int many = 0;
        for (int k = 0; k < STATES; k++) {
            if (states[k] != null) {
                many++;
            }
        }
        return many;
    }

    /** A cell's index in the rows of Plates, which hold all three plates; -1 if there is no such cell. */
    private static int spotOf(int cell) {
        if (cell < 0 || cell / 100 >= PLATES || cell % 100 >= CELLS) {
            return -1;
        }
        return cell / 100 * CELLS + cell % 100;
    }

    private static boolean isPlate(int plate) {
        return plate >= 0 && plate < PLATES;
    }

    private static boolean isKind(int kind) {
        return kind >= BARE && kind <= DUST;
    }

    private static boolean isUnder(int kind, int upper) {
        return kind == upper || upper == BARE;
    }

    private static boolean isTone(int tone) {
        return tone >= 0 && tone <= DARKEST;
    }

    private static boolean isState(int k) {
        return k >= 0 && k < STATES;
    }

    private static boolean isSwitch(int is) {
        return is == 0 || is == 1;
    }

    private static int toneOf(int depth) {
        return Math.min(DARKEST, depth / TONE_STEP);
    }

    private static int worn(int depth) {
        return depth - depth / 50;
    }

    /** The cells of all three plates, now or as a state keeps them. */
    private static final class Plates {
        private final int[] kinds = new int[SPOTS];
        private final int[] depths = new int[SPOTS];
        private final int[] lives = new int[SPOTS];
        private final boolean[] stops = new boolean[SPOTS];

        void layGround(int spot, int kind) {
            kinds[spot] = kind;
            lives[spot] = kind == DUST ? RESIN : 0;
        }

        int toneAt(int spot) {
            return toneOf(depths[spot]);
        }

        int timesBite(int spot) {
            switch (kinds[spot]) {
                case LINE: return 2;
                case DUST: return lives[spot] > 0 ? 3 : 0;
                default: return 1;
            }
        }

        int cleanPlate(int plate) {
            int many = 0;
            for (int spot = plate * CELLS; spot < (plate + 1) * CELLS; spot++) {
                if (stops[spot]) {
                    many++;
                    stops[spot] = false;
                }
            }
            return many;
        }

        void bathePlate(int plate, int bite, int minutes) {
            for (int spot = plate * CELLS; spot < (plate + 1) * CELLS; spot++) {
                if (!stops[spot]) {
                    batheCell(spot, bite, minutes);
                }
            }
        }

        private void batheCell(int spot, int bite, int minutes) {
            int biting = bitingMinutes(spot, minutes);
            depths[spot] = Math.min(DEEPEST, depths[spot] + timesBite(spot) * bite * biting);
            if (kinds[spot] == DUST) {
                lives[spot] -= biting;
            }
        }

        private int bitingMinutes(int spot, int minutes) {
            return kinds[spot] == DUST ? Math.min(minutes, lives[spot]) : minutes;
        }

        int depthOfPlate(int plate) {
            int sum = 0;
            for (int spot = plate * CELLS; spot < (plate + 1) * CELLS; spot++) {
                sum += depths[spot];
            }
            return sum;
        }

        void scrapeCell(int spot, int turns) {
            int depth = depths[spot];
            for (int i = 0; i < turns && depth > 0; i++) {
                depth = Math.max(0, depth - depth / 10 - 1);
            }
            depths[spot] = depth;
        }

        int firstMinute(int spot, int tone, int bite) {
            return minuteOfDepth(spot, tone * TONE_STEP, bite);
        }

        /** Below firstMinute if the span is empty: a bath never makes a tone lighter, so spans have no gaps. */
        int lastMinute(int spot, int tone, int bite) {
            if (tone >= DARKEST) {
                return LONGEST;
            }
            return minuteOfDepth(spot, (tone + 1) * TONE_STEP, bite) - 1;
        }

        private int minuteOfDepth(int spot, int depth, int bite) {
            int missing = depth - depths[spot];
            if (missing <= 0) {
                return 0;
            }
            int perMinute = timesBite(spot) * bite;
            if (perMinute <= 0) {
                return NEVER;
            }
            int minutes = (missing + perMinute - 1) / perMinute;
            return minutes <= bitingMinutes(spot, LONGEST) ? minutes : NEVER;
        }

        int differences(Plates other, int plate) {
            int many = 0;
            for (int spot = plate * CELLS; spot < (plate + 1) * CELLS; spot++) {
                if (kinds[spot] != other.kinds[spot] || depths[spot] != other.depths[spot]
                        || stops[spot] != other.stops[spot]) {
                    many++;
                }
            }
            return many;
        }

        void copyPlate(Plates from, int plate) {
            for (int spot = plate * CELLS; spot < (plate + 1) * CELLS; spot++) {
                kinds[spot] = from.kinds[spot];
                depths[spot] = from.depths[spot];
                lives[spot] = from.lives[spot];
                stops[spot] = from.stops[spot];
            }
        }

        int stoppedOfAll() {
            int many = 0;
            for (int spot = 0; spot < SPOTS; spot++) {
                if (stops[spot]) {
                    many++;
                }
            }
            return many;
        }
    }

    /** The wishes, and the baths last planned for them. */
    private static final class Wishes {
        private final int[] spots = new int[MOST_WISHES];
        private final int[] tones = new int[MOST_WISHES];
        private final int[] firsts = new int[MOST_WISHES];
        private final int[] lasts = new int[MOST_WISHES];
        private final int[] minutes = new int[MOST_WISHES];
        private int size = 0;
        private int planned = 0;

        boolean isOfSamePlate(int spot) {
            return size == 0 || spots[0] / CELLS == spot / CELLS;
        }

        boolean hasSpot(int spot) {
            for (int i = 0; i < size; i++) {
                if (spots[i] == spot) {
                    return true;
                }
            }
            return false;
        }

        void addWish(int spot, int tone) {
            spots[size] = spot;
            tones[size] = tone;
            size++;
        }

        /** False if some wish can't be met; else the minutes are the baths from now on. */
        boolean plan(Plates plates, int bite) {
            planned = 0;
            if (!findSpans(plates, bite)) {
                return false;
            }
            int fewest = fewestBehind(-1);
            int previous = -1;
            for (int left = fewest; left > 0; left--) {
                previous = leastMinuteBehind(previous, left);
                minutes[planned] = previous;
                planned++;
            }
            return true;
        }

        private boolean findSpans(Plates plates, int bite) {
            for (int i = 0; i < size; i++) {
                firsts[i] = plates.firstMinute(spots[i], tones[i], bite);
                lasts[i] = plates.lastMinute(spots[i], tones[i], bite);
                if (plates.stops[spots[i]] || firsts[i] > lasts[i]) {
                    return false;
                }
            }
            return true;
        }

        /** How many minutes the spans that begin behind a minute need at least. */
        private int fewestBehind(int minute) {
            int many = 0;
            int end = earliestLastBehind(minute);
            for (int i = 0; i < size && end < NEVER; i++) {
                many++;
                end = earliestLastBehind(end);
            }
            return many;
        }

        private int earliestLastBehind(int minute) {
            int earliest = NEVER;
            for (int i = 0; i < size; i++) {
                if (firsts[i] > minute && lasts[i] < earliest) {
                    earliest = lasts[i];
                }
            }
            return earliest;
        }

        /**
         * The least next minute that leaves one fewer to find. Only first minutes of spans are tried: a minute
         * between two of them meets no span that the one ahead of it doesn't meet.
         */
        private int leastMinuteBehind(int previous, int left) {
            int least = earliestLastBehind(previous);
            for (int i = 0; i < size; i++) {
                int minute = firsts[i];
                if (minute > previous && minute < least && fewestBehind(minute) < left) {
                    least = minute;
                }
            }
            return least;
        }

        void fulfil(Plates plates, int bite) {
            int now = 0;
            for (int i = 0; i < planned; i++) {
                plates.bathePlate(spots[0] / CELLS, bite, minutes[i] - now);
                now = minutes[i];
                stopDue(plates, now);
            }
            size = 0;
        }

        private void stopDue(Plates plates, int now) {
            for (int i = 0; i < size; i++) {
                if (firsts[i] <= now && now <= lasts[i]) {
                    plates.stops[spots[i]] = true;
                }
            }
        }
    }

    /** How each plate lies in the press, and what steel it has left. */
    private static final class Press {
        private final int[] downs = new int[PLATES];
        private final int[] rights = new int[PLATES];
        private final int[] steels = new int[PLATES];
        private int pulls = 0;

        int colourAt(Plates plates, int place) {
            return ink(plates, 0, place) + 16 * ink(plates, 1, place) + 256 * ink(plates, 2, place);
        }

        int colourOfAll(Plates plates) {
            int sum = 0;
            for (int place = 0; place < CELLS; place++) {
                sum += colourAt(plates, place);
            }
            return sum;
        }

        private int ink(Plates plates, int plate, int place) {
            int row = place / SIDE - downs[plate];
            int column = SIDE - 1 - (place % SIDE - rights[plate]);
            if (row < 0 || row >= SIDE || column < 0 || column >= SIDE) {
                return 0;
            }
            return plates.toneAt(plate * CELLS + row * SIDE + column);
        }

        void pullAll(Plates plates, int n) {
            for (int plate = 0; plate < PLATES; plate++) {
                int shielded = Math.min(n, steels[plate]);
                steels[plate] -= shielded;
                wearPlate(plates, plate, n - shielded);
            }
            pulls += n;
        }

        private static void wearPlate(Plates plates, int plate, int n) {
            for (int spot = plate * CELLS; spot < (plate + 1) * CELLS; spot++) {
                int depth = plates.depths[spot];
                for (int i = 0; i < n && worn(depth) < depth; i++) {
                    depth = worn(depth);
                }
                plates.depths[spot] = depth;
            }
        }
    }

    /** The guards of the next edition. */
    private static final class Guards {
        private final int[] spots = new int[MOST_GUARDS];
        private final int[] lows = new int[MOST_GUARDS];
        private final int[] highs = new int[MOST_GUARDS];
        private int size = 0;

        int plateOfAll() {
            return spots[0] / CELLS;
        }

        void addGuard(int spot, int low, int high) {
            spots[size] = spot;
            lows[size] = low;
            highs[size] = high;
            size++;
        }

        int pullsHeld(Plates plates, int steel) {
            int pulls = LONGEST_EDITION;
            for (int i = 0; i < size; i++) {
                pulls = Math.min(pulls, pullsHeldBy(i, plates.depths[spots[i]], steel));
            }
            return pulls;
        }

        /** Wear only makes a tone lighter, so behind the first look the high tone needs none. */
        private int pullsHeldBy(int i, int depth, int steel) {
            if (toneOf(depth) < lows[i] || toneOf(depth) > highs[i]) {
                return 0;
            }
            int pulls = Math.min(steel, LONGEST_EDITION);
            int left = worn(depth);
            while (pulls < LONGEST_EDITION && toneOf(left) >= lows[i]) {
                pulls++;
                left = worn(left);
            }
            return pulls;
        }
    }
}
