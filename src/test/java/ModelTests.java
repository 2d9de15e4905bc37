import java.util.ArrayList;
import java.util.List;
import java.util.Random;

/**
 * Long runs of calls, drawn from fixed seeds, against a model that does what the document's words say minute by
 * minute and pull by pull, and looks for the baths among all minutes.
 */
public final class ModelTests {
    private static final int RUNS = 600;
    private static final int CALLS = 512;

    public static void main(String[] args) {
        int wrong = 0;
        int[] answered = new int[28];
        for (int seed = 0; seed < RUNS; seed++) {
            wrong += run(seed, answered) + wishRun(seed);
        }
        for (int call = 1; call < answered.length; call++) {
            if (answered[call] == 0) {
                wrong++;
                System.out.println("no run got an answer other than a finding from call " + call);
            }
        }
        System.out.println(wrong == 0 ? "ModelTests: all as due" : "ModelTests: " + wrong + " wrong");
        if (wrong != 0) {
            System.exit(1);
        }
    }

    private static int run(int seed, int[] answered) {
        Random random = new Random(seed);
        Pair pair = new Pair("seed " + seed);
        for (int i = 0; i < CALLS && !pair.parted; i++) {
            int call = 1 + random.nextInt(27);
            int[] a = arguments(random, call, seed);
            if (pair.ask(call, a[0], a[1], a[2]) > -1000000) {
                answered[call]++;
            }
        }
        return pair.parted ? 1 : 0;
    }

    /** Cells of different depths and grounds, and as many wishes as can be met: the random runs seldom have them. */
    private static int wishRun(int seed) {
        Random random = new Random(seed);
        Pair pair = new Pair("wishes, seed " + seed);
        int plate = random.nextInt(3);
        for (int c = 0; c < 9; c++) {
            pair.ask(1, 100 * plate + c, random.nextInt(3), 0);
        }
        for (int c = 0; c < 9; c++) {
            pair.ask(6, plate, 1 + random.nextInt(5), 0);
            pair.ask(3, 100 * plate + c, random.nextInt(2), 0);
        }
        pair.ask(4, plate, 0, 0);
        pair.ask(5, 1 + random.nextInt(seed % 2 == 0 ? 3 : 9), random.nextInt(5), 0);
        for (int i = 0; i < 16; i++) {
            int cell = 100 * plate + random.nextInt(9);
            int tone = random.nextInt(16);
            if (pair.ask(9, cell, tone, 0) >= 0) {
                pair.ask(10, cell, tone, 0);
            }
        }
        pair.ask(12, 0, 0, 0);
        for (int i = 0; i < 10; i++) {
            pair.ask(13, i, 0, 0);
        }
        pair.ask(14, 0, 0, 0);
        for (int c = 0; c < 10; c++) {
            for (int what = 0; what < 5; what++) {
                pair.ask(8, 100 * plate + c, what, 0);
            }
        }
        return pair.parted ? 1 : 0;
    }

    /** The class and the model, asked the same until they part. */
    private static final class Pair {
        final EtchBath x = new EtchBath();
        final Model model = new Model();
        final String name;
        boolean parted;
        int calls;

        Pair(String name) {
            this.name = name;
        }

        int ask(int call, int a, int b, int c) {
            if (parted) {
                return 0;
            }
            int[] all = {a, b, c};
            int got = ModelTests.ask(x, call, all);
            int want = model.ask(call, all);
            if (got != want) {
                parted = true;
                System.out.println(name + ", call " + calls + ": " + call + "(" + a + ", " + b + ", " + c
                    + ") answered " + got + ", the model " + want);
            }
            calls++;
            return got;
        }
    }

    /** Runs differ in how often a call is wrong, so that some go deep and some are refused much. */
    private static int[] arguments(Random random, int call, int seed) {
        int odd = seed % 3 == 0 ? 6 : 60;
        int plate = pick(random, odd, 0, 2);
        int cell = 100 * (seed % 2 == 0 ? plate : pick(random, 6 * odd, 1, 1)) + pick(random, odd, 0, seed % 5 == 0 ? 35 : 9);
        switch (call) {
            case 1: case 2: return row(cell, pick(random, odd, 0, 2), 0);
            case 3: return row(cell, random.nextInt(4) == 0 ? 1 : pick(random, odd, 0, 0), 0);
            case 4: return row(plate, 0, 0);
            case 5: return row(pick(random, odd, 1, 9), pick(random, odd, 0, 4), 0);
            case 6: return row(plate, pick(random, odd, 1, random.nextInt(4) == 0 ? 200 : 9), 0);
            case 7: return row(cell, pick(random, odd, 1, random.nextBoolean() ? 100 : 9), 0);
            case 8: return row(cell, pick(random, odd, 0, 4), 0);
            case 9: return row(cell, pick(random, odd, 0, 15), random.nextInt(2));
            case 10: return row(cell, pick(random, odd, 0, 15), 0);
            case 11: case 12: case 14: case 23: return row(0, 0, 0);
            case 13: return row(pick(random, odd, 0, 4), 0, 0);
            case 15: return row(pick(random, odd, 0, 3), 0, 0);
            case 16: case 17: return row(plate, pick(random, odd, 0, 3), 0);
            case 18: return row(plate, pick(random, odd, -1, 1), pick(random, odd, -1, 1));
            case 19: return row(pick(random, odd, 0, 35), 0, 0);
            case 20: return row(plate, pick(random, odd, 0, 1), 0);
            case 21: return row(pick(random, odd, 1, random.nextInt(4) == 0 ? 100 : 5), 0, 0);
            case 22: return row(cell, pick(random, odd, 0, 7), pick(random, odd, 7, 15));
            case 24: return row(random.nextInt(3), 0, 0);
            case 25: return row(plate, 0, 0);
            case 26: return row(pick(random, odd, 0, 6), 0, 0);
            default: return row(pick(random, odd, 1, 5), 0, 0);
        }
    }

    private static int pick(Random random, int odd, int low, int high) {
        if (random.nextInt(odd) == 0) {
            int[] wild = {low - 1, high + 1, Integer.MIN_VALUE, Integer.MAX_VALUE, -low, -high, low + 100};
            return wild[random.nextInt(wild.length)];
        }
        return low + random.nextInt(high - low + 1);
    }

    private static int[] row(int a, int b, int c) {
        return new int[] {a, b, c};
    }

    private static int ask(EtchBath x, int call, int[] a) {
        switch (call) {
            case 1: return x.ground(a[0], a[1]);
            case 2: return x.as(a[0], a[1]);
            case 3: return x.stop(a[0], a[1]);
            case 4: return x.clean(a[0]);
            case 5: return x.bath(a[0], a[1]);
            case 6: return x.bathe(a[0], a[1]);
            case 7: return x.scrape(a[0], a[1]);
            case 8: return x.about(a[0], a[1]);
            case 9: return x.span(a[0], a[1], a[2] == 1);
            case 10: return x.wish(a[0], a[1]);
            case 11: return x.clear();
            case 12: return x.baths();
            case 13: return x.minute(a[0]);
            case 14: return x.work();
            case 15: return x.keep(a[0]);
            case 16: return x.changed(a[0], a[1]);
            case 17: return x.back(a[0], a[1]);
            case 18: return x.offset(a[0], a[1], a[2]);
            case 19: return x.colour(a[0]);
            case 20: return x.steel(a[0], a[1]);
            case 21: return x.pull(a[0]);
            case 22: return x.guard(a[0], a[1], a[2]);
            case 23: return x.edition();
            case 24: return x.tell(a[0]);
            case 25: return x.check(a[0]);
            case 26: return x.count(a[0]);
            default: return x.found(a[0]);
        }
    }

    private static final class Cell {
        int kind;
        int depth;
        int life;
        boolean stopped;

        Cell copy() {
            Cell c = new Cell();
            c.kind = kind;
            c.depth = depth;
            c.life = life;
            c.stopped = stopped;
            return c;
        }

        int tone() {
            int tone = depth / 40;
            return tone > 15 ? 15 : tone;
        }

        int times() {
            return kind == 0 ? 1 : kind == 1 ? 2 : life > 0 ? 3 : 0;
        }

        void minute(int bite) {
            if (!stopped) {
                depth += times() * bite;
                if (depth > 9999) {
                    depth = 9999;
                }
                if (life > 0) {
                    life--;
                }
            }
        }

        boolean[] span(int tone, int bite) {
            boolean[] span = new boolean[201];
            Cell c = copy();
            for (int m = 0; m <= 200; m++) {
                span[m] = c.tone() == tone;
                c.minute(bite);
            }
            return span;
        }
    }

    private static final class Model {
        Cell[][] plates = fresh();
        final Cell[][][] states = new Cell[4][][];
        final int[] down = new int[3];
        final int[] right = new int[3];
        final int[] steel = new int[3];
        final int[] found = new int[6];
        final List<int[]> wishes = new ArrayList<>();
        final List<int[]> guards = new ArrayList<>();
        final List<Integer> told = new ArrayList<>();
        int strength = 4;
        int heat = 2;
        int pulls;

        static Cell[][] fresh() {
            Cell[][] all = new Cell[3][36];
            for (Cell[] plate : all) {
                for (int c = 0; c < 36; c++) {
                    plate[c] = new Cell();
                }
            }
            return all;
        }

        static Cell[] copy(Cell[] plate) {
            Cell[] copy = new Cell[36];
            for (int c = 0; c < 36; c++) {
                copy[c] = plate[c].copy();
            }
            return copy;
        }

        int ask(int call, int[] a) {
            int answer = answer(call, a[0], a[1], a[2]);
            if (answer < -1000000) {
                found[-1000000 - answer]++;
            }
            return answer;
        }

        int bite() {
            int bite = strength * (heat + 2) / 4;
            return bite == 0 ? 1 : bite;
        }

        Cell cell(int cell) {
            for (int plate = 0; plate < 3; plate++) {
                for (int c = 0; c < 36; c++) {
                    if (100 * plate + c == cell) {
                        return plates[plate][c];
                    }
                }
            }
            return null;
        }

        static boolean in(int v, int low, int high) {
            return low <= v && v <= high;
        }

        static int finding(int k) {
            return -1000000 - k;
        }

        int answer(int call, int a, int b, int c) {
            if (call <= 3 || call >= 7 && call <= 10 || call == 22) {
                return cell(a) == null ? finding(1) : ofCell(call, a, cell(a), b, c);
            }
            if (call == 4 || call == 6 || call >= 16 && call <= 18 || call == 20 || call == 25) {
                return ofPlate(call, a, b, c);
            }
            switch (call) {
                case 5:
                    if (!in(a, 1, 9) || !in(b, 0, 4)) {
                        return finding(1);
                    }
                    strength = a;
                    heat = b;
                    return bite();
                case 11: {
                    int many = wishes.size();
                    wishes.clear();
                    return many;
                }
                case 12: return baths() == null ? finding(2) : baths().size();
                case 13:
                    if (a < 0) {
                        return finding(1);
                    }
                    return baths() == null || a >= baths().size() ? finding(2) : baths().get(a);
                case 14: return baths() == null ? finding(2) : work(baths());
                case 15: return in(a, 0, 3) ? keep(a) : finding(1);
                case 19: return in(a, 0, 35) ? colour(a) : finding(1);
                case 21: return in(a, 1, 100) ? pull(a) : finding(1);
                case 23: return guards.isEmpty() ? finding(2) : edition();
                case 24:
                    if (told.size() == 36) {
                        return finding(4);
                    }
                    told.add(a);
                    return told.size();
                case 26: return in(a, 0, 6) ? count(a) : finding(1);
                default: return in(a, 1, 5) ? found[a] : finding(1);
            }
        }

        int ofCell(int call, int name, Cell cell, int b, int c) {
            int was = cell.kind;
            switch (call) {
                case 1:
                    if (!in(b, 0, 2)) {
                        return finding(1);
                    }
                    cell.kind = b;
                    cell.life = b == 2 ? 60 : 0;
                    return was;
                case 2:
                    return !in(b, 0, 2) ? finding(1) : b != 0 && b != cell.kind ? finding(5) : cell.times();
                case 3:
                    if (!in(b, 0, 1)) {
                        return finding(1);
                    }
                    was = cell.stopped ? 1 : 0;
                    cell.stopped = b == 1;
                    return was;
                case 7:
                    if (!in(b, 1, 100)) {
                        return finding(1);
                    }
                    for (int i = 0; i < b; i++) {
                        cell.depth -= cell.depth / 10 + 1;
                        if (cell.depth < 0) {
                            cell.depth = 0;
                        }
                    }
                    return cell.depth;
                case 8:
                    return !in(b, 0, 4) ? finding(1)
                        : new int[] {cell.kind, cell.depth, cell.stopped ? 1 : 0, cell.tone(), cell.life}[b];
                case 9: return span(cell, b, c == 1);
                case 10: return wish(name, cell, b);
                default: return guard(name, b, c);
            }
        }

        int span(Cell cell, int tone, boolean last) {
            if (!in(tone, 0, 15)) {
                return finding(1);
            }
            if (cell.stopped) {
                return finding(3);
            }
            int answer = finding(2);
            boolean[] span = cell.span(tone, bite());
            for (int m = 0; m <= 200; m++) {
                if (span[m] && (last || answer < 0)) {
                    answer = m;
                }
            }
            return answer;
        }

        int wish(int name, Cell cell, int tone) {
            if (!in(tone, 0, 15)) {
                return finding(1);
            }
            if (cell.stopped) {
                return finding(3);
            }
            for (int[] wish : wishes) {
                if (wish[0] == name || wish[0] / 100 != name / 100) {
                    return finding(3);
                }
            }
            if (wishes.size() == 8) {
                return finding(4);
            }
            wishes.add(new int[] {name, tone});
            return wishes.size();
        }

        int guard(int name, int low, int high) {
            if (!in(low, 0, 15) || !in(high, 0, 15) || low > high) {
                return finding(1);
            }
            if (!guards.isEmpty() && guards.get(0)[0] / 100 != name / 100) {
                return finding(3);
            }
            if (guards.size() == 8) {
                return finding(4);
            }
            guards.add(new int[] {name, low, high});
            return guards.size();
        }

        /** The wishes that each minute meets, as bits; null if some wish has no span, or is stopped. */
        int[] met() {
            int[] met = new int[201];
            for (int i = 0; i < wishes.size(); i++) {
                Cell cell = cell(wishes.get(i)[0]);
                boolean some = false;
                boolean[] span = cell.span(wishes.get(i)[1], bite());
                for (int m = 0; m <= 200; m++) {
                    some |= span[m];
                    met[m] |= span[m] ? 1 << i : 0;
                }
                if (cell.stopped || !some) {
                    return null;
                }
            }
            return met;
        }

        List<Integer> baths() {
            int[] met = met();
            if (met == null) {
                return null;
            }
            int sets = 1 << wishes.size();
            int[][] fewest = new int[202][sets];
            for (int set = 1; set < sets; set++) {
                fewest[201][set] = 1000;
            }
            for (int m = 200; m >= 0; m--) {
                for (int set = 0; set < sets; set++) {
                    fewest[m][set] = Math.min(fewest[m + 1][set], 1 + fewest[m + 1][set & ~met[m]]);
                }
            }
            List<Integer> minutes = new ArrayList<>();
            int set = sets - 1;
            for (int m = 0; m <= 200 && set != 0; m++) {
                if (1 + fewest[m + 1][set & ~met[m]] == fewest[m][set]) {
                    minutes.add(m);
                    set &= ~met[m];
                }
            }
            return minutes;
        }

        int work(List<Integer> minutes) {
            int[] met = met();
            int now = 0;
            for (int m : minutes) {
                for (; now < m; now++) {
                    for (Cell cell : plates[wishes.get(0)[0] / 100]) {
                        cell.minute(bite());
                    }
                }
                for (int i = 0; i < wishes.size(); i++) {
                    if ((met[m] >> i & 1) == 1) {
                        cell(wishes.get(i)[0]).stopped = true;
                    }
                }
            }
            wishes.clear();
            return minutes.size();
        }

        int keep(int k) {
            int answer = states[k] == null ? 1 : 0;
            states[k] = new Cell[][] {copy(plates[0]), copy(plates[1]), copy(plates[2])};
            return answer;
        }

        int ofPlate(int call, int plate, int b, int c) {
            List<Integer> numbers = new ArrayList<>(told);
            if (call == 25) {
                told.clear();
            }
            if (!in(plate, 0, 2)) {
                return finding(1);
            }
            switch (call) {
                case 4: {
                    int many = 0;
                    for (Cell cell : plates[plate]) {
                        many += cell.stopped ? 1 : 0;
                        cell.stopped = false;
                    }
                    return many;
                }
                case 6: return in(b, 1, 200) ? bathe(plate, b) : finding(1);
                case 16: case 17:
                    return !in(b, 0, 3) ? finding(1) : states[b] == null ? finding(2) : changed(plate, b, call == 17);
                case 18:
                    if (!in(b, -1, 1) || !in(c, -1, 1)) {
                        return finding(1);
                    }
                    down[plate] = b;
                    right[plate] = c;
                    return 1;
                case 20: {
                    if (!in(b, 0, 1)) {
                        return finding(1);
                    }
                    int held = steel[plate];
                    steel[plate] = 100 * b;
                    return held;
                }
                default:
                    for (int i = 0; i < numbers.size(); i++) {
                        if (numbers.get(i) != plates[plate][i].tone()) {
                            return 1 + i;
                        }
                    }
                    return 0;
            }
        }

        int bathe(int plate, int n) {
            int sum = 0;
            for (Cell cell : plates[plate]) {
                for (int i = 0; i < n; i++) {
                    cell.minute(bite());
                }
                sum += cell.depth;
            }
            return sum;
        }

        int changed(int plate, int k, boolean back) {
            int many = 0;
            for (int i = 0; i < 36; i++) {
                Cell now = plates[plate][i];
                Cell then = states[k][plate][i];
                if (now.kind != then.kind || now.depth != then.depth || now.stopped != then.stopped) {
                    many++;
                }
            }
            if (back) {
                plates[plate] = copy(states[k][plate]);
            }
            return many;
        }

        int colour(int place) {
            int colour = 0;
            for (int plate = 2; plate >= 0; plate--) {
                int ink = 0;
                for (int i = 0; i < 36; i++) {
                    if (i / 6 + down[plate] == place / 6 && 5 - i % 6 + right[plate] == place % 6) {
                        ink = plates[plate][i].tone();
                    }
                }
                colour = 16 * colour + ink;
            }
            return colour;
        }

        int pull(int n) {
            for (int i = 0; i < n; i++) {
                pulls++;
                for (int plate = 0; plate < 3; plate++) {
                    if (steel[plate] > 0) {
                        steel[plate]--;
                    } else {
                        for (Cell cell : plates[plate]) {
                            cell.depth -= cell.depth / 50;
                        }
                    }
                }
            }
            int sum = 0;
            for (int place = 0; place < 36; place++) {
                sum += colour(place);
            }
            return sum;
        }

        int edition() {
            int plate = guards.get(0)[0] / 100;
            Cell[] now = copy(plates[plate]);
            int held = steel[plate];
            int many = -1;
            boolean holds = true;
            while (holds && many < 300) {
                for (int[] guard : guards) {
                    holds &= in(now[guard[0] % 100].tone(), guard[1], guard[2]);
                }
                many += holds ? 1 : 0;
                for (Cell cell : now) {
                    cell.depth -= held > 0 ? 0 : cell.depth / 50;
                }
                held--;
            }
            guards.clear();
            return many < 0 ? 0 : many;
        }

        int count(int what) {
            int kept = 0;
            int stopped = 0;
            for (Cell[][] state : states) {
                kept += state == null ? 0 : 1;
            }
            for (Cell[] plate : plates) {
                for (Cell cell : plate) {
                    stopped += cell.stopped ? 1 : 0;
                }
            }
            return new int[] {bite(), wishes.size(), guards.size(), kept, told.size(), stopped, pulls}[what];
        }
    }
}
