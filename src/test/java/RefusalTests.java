import java.util.ArrayList;
import java.util.List;

/**
 * Refused calls: which finding each tells, which of two it tells first, and that it changes nothing but what found()
 * tells. For the last, two objects are made alike, one is asked what is refused, and both are then asked all else.
 */
public final class RefusalTests {
    private static final int BEYOND = 1;
    private static final int NONE = 2;
    private static final int STATE = 3;
    private static final int FULL = 4;
    private static final int KIND = 5;
    private static final int MIN = Integer.MIN_VALUE;
    private static final int MAX = Integer.MAX_VALUE;
    private static final int MOST_CALLS = 512;
    /** Numbers that could fall on a cell if a product or a remainder wrapped around. */
    private static final int[] FAR = {MIN, MIN + 35, MIN + 100, -1000000, 1000, 1 << 30, MAX - 100, MAX - 35, MAX};

    private interface Act {
        int on(EtchBath x);
    }

    private static final class Refusal {
        final String name;
        final int finding;
        final Act ahead;
        final Act act;

        Refusal(String name, int finding, Act ahead, Act act) {
            this.name = name;
            this.finding = finding;
            this.ahead = ahead;
            this.act = act;
        }
    }

    private static final List<Refusal> REFUSALS = new ArrayList<>();
    private static int wrong = 0;

    public static void main(String[] args) {
        noSuchCell();
        noSuchPlate();
        noSuchNumber();
        notNow();
        inTheirOrder();
        for (Refusal refusal : REFUSALS) {
            tellsItsFinding(refusal);
            changesNothing(refusal);
        }
        System.out.println(wrong == 0 ? "RefusalTests: all as due" : "RefusalTests: " + wrong + " wrong");
        if (wrong != 0) {
            System.exit(1);
        }
    }

    private static void due(String what, int got, int want) {
        if (got != want) {
            wrong++;
            System.out.println(what + " answered " + got + ", due is " + want);
        }
    }

    private static void refused(int finding, String name, Act act) {
        refused(finding, name, x -> 0, act);
    }

    /** The act ahead makes what the refusal needs. */
    private static void refused(int finding, String name, Act ahead, Act act) {
        REFUSALS.add(new Refusal(name, finding, ahead, act));
    }

    // ---- what is refused

    private static boolean isThere(int cell) {
        return cell >= 0 && cell <= 35 || cell >= 100 && cell <= 135 || cell >= 200 && cell <= 235;
    }

    private static void noSuchCell() {
        for (int cell = -136; cell <= 436; cell++) {
            askCell(cell);
        }
        for (int cell : FAR) {
            askCell(cell);
        }
        for (int cell : new int[] {MIN, -100, -1, 36, 99, 136, 199, 236, 300, 335, MAX}) {
            refused(BEYOND, "ground(" + cell + ", 1)", x -> x.ground(cell, 1));
            refused(BEYOND, "as(" + cell + ", 0)", x -> x.as(cell, 0));
            refused(BEYOND, "stop(" + cell + ", 1)", x -> x.stop(cell, 1));
            refused(BEYOND, "scrape(" + cell + ", 1)", x -> x.scrape(cell, 1));
            refused(BEYOND, "about(" + cell + ", 0)", x -> x.about(cell, 0));
            refused(BEYOND, "span(" + cell + ", 0, true)", x -> x.span(cell, 0, true));
            refused(BEYOND, "wish(" + cell + ", 0)", x -> x.wish(cell, 0));
            refused(BEYOND, "guard(" + cell + ", 0, 15)", x -> x.guard(cell, 0, 15));
        }
    }

    private static void askCell(int cell) {
        int no = -1000001;
        boolean there = isThere(cell);
        EtchBath x = new EtchBath();
        due("about(" + cell + ", 0)", x.about(cell, 0), there ? 0 : no);
        due("as(" + cell + ", 0)", x.as(cell, 0), there ? 1 : no);
        due("ground(" + cell + ", 1)", x.ground(cell, 1), there ? 0 : no);
        due("ground(" + cell + ", 1) again", x.ground(cell, 1), there ? 1 : no);
        due("scrape(" + cell + ", 1)", x.scrape(cell, 1), there ? 0 : no);
        due("span(" + cell + ", 0, false)", x.span(cell, 0, false), there ? 0 : no);
        due("wish(" + cell + ", 0)", x.wish(cell, 0), there ? 1 : no);
        due("guard(" + cell + ", 0, 0)", x.guard(cell, 0, 0), there ? 1 : no);
        due("stop(" + cell + ", 1)", x.stop(cell, 1), there ? 0 : no);
        due("count(5) behind stop(" + cell + ", 1)", x.count(5), there ? 1 : 0);
    }

    private static void noSuchPlate() {
        for (int plate : new int[] {MIN, -100, -1, 3, 4, 100, MAX}) {
            refused(BEYOND, "clean(" + plate + ")", x -> x.clean(plate));
            refused(BEYOND, "bathe(" + plate + ", 1)", x -> x.bathe(plate, 1));
            refused(BEYOND, "changed(" + plate + ", 0)", x -> x.changed(plate, 0));
            refused(BEYOND, "back(" + plate + ", 0)", x -> x.back(plate, 0));
            refused(BEYOND, "offset(" + plate + ", 1, 1)", x -> x.offset(plate, 1, 1));
            refused(BEYOND, "steel(" + plate + ", 1)", x -> x.steel(plate, 1));
            // The numbers are gone by check(), which is told elsewhere: here none wait.
            refused(BEYOND, "check(" + plate + ")", x -> x.check(0), x -> x.check(plate));
        }
    }

    private static void noSuchNumber() {
        for (int v : new int[] {MIN, -1, 3, MAX}) {
            refused(BEYOND, "ground(0, " + v + ")", x -> x.ground(0, v));
            refused(BEYOND, "as(0, " + v + ")", x -> x.as(0, v));
        }
        for (int v : new int[] {MIN, -1, 2, MAX}) {
            refused(BEYOND, "stop(0, " + v + ")", x -> x.stop(0, v));
            refused(BEYOND, "steel(0, " + v + ")", x -> x.steel(0, v));
        }
        for (int v : new int[] {MIN, -1, 0, 10, MAX}) {
            refused(BEYOND, "bath(" + v + ", 4)", x -> x.bath(v, 4));
        }
        for (int v : new int[] {MIN, -2, -1, 5, MAX}) {
            refused(BEYOND, "bath(9, " + v + ")", x -> x.bath(9, v));
            refused(BEYOND, "about(0, " + v + ")", x -> x.about(0, v));
        }
        for (int v : new int[] {MIN, -1, 0, 201, MAX}) {
            refused(BEYOND, "bathe(0, " + v + ")", x -> x.bathe(0, v));
        }
        for (int v : new int[] {MIN, -1, 0, 101, MAX}) {
            refused(BEYOND, "scrape(0, " + v + ")", x -> x.scrape(0, v));
            refused(BEYOND, "pull(" + v + ")", x -> x.pull(v));
        }
        for (int v : new int[] {MIN, -1, 16, MAX}) {
            refused(BEYOND, "span(0, " + v + ", true)", x -> x.span(0, v, true));
            refused(BEYOND, "wish(4, " + v + ")", x -> x.wish(4, v));
            refused(BEYOND, "guard(101, " + v + ", 15)", x -> x.guard(101, v, 15));
            refused(BEYOND, "guard(101, 0, " + v + ")", x -> x.guard(101, 0, v));
        }
        refused(BEYOND, "guard(101, 15, 14)", x -> x.guard(101, 15, 14));
        refused(BEYOND, "guard(101, 1, 0)", x -> x.guard(101, 1, 0));
        refused(BEYOND, "minute(-1)", x -> x.minute(-1));
        refused(BEYOND, "minute(MIN)", x -> x.minute(MIN));
        for (int v : new int[] {MIN, -1, 4, MAX}) {
            refused(BEYOND, "keep(" + v + ")", x -> x.keep(v));
            refused(BEYOND, "changed(0, " + v + ")", x -> x.changed(0, v));
            refused(BEYOND, "back(0, " + v + ")", x -> x.back(0, v));
        }
        for (int v : new int[] {MIN, -2, 2, MAX}) {
            refused(BEYOND, "offset(0, " + v + ", 1)", x -> x.offset(0, v, 1));
            refused(BEYOND, "offset(0, 1, " + v + ")", x -> x.offset(0, 1, v));
        }
        for (int v : new int[] {MIN, -1, 36, MAX}) {
            refused(BEYOND, "colour(" + v + ")", x -> x.colour(v));
        }
        for (int v : new int[] {MIN, -1, 7, MAX}) {
            refused(BEYOND, "count(" + v + ")", x -> x.count(v));
        }
        for (int v : new int[] {MIN, -1, 0, 6, MAX}) {
            refused(BEYOND, "found(" + v + ")", x -> x.found(v));
        }
    }

    private static void notNow() {
        refused(KIND, "bare as line", x -> x.as(0, 1));
        refused(KIND, "bare as dust", x -> x.as(0, 2));
        refused(KIND, "line as dust", x -> x.as(1, 2));
        refused(KIND, "dust as line", x -> x.as(2, 1));
        refused(STATE, "span of a stopped one", x -> x.span(3, 1, false));
        refused(NONE, "span of a tone that is past", x -> x.span(0, 0, false));
        refused(NONE, "span of a tone that can't be had", x -> x.bath(1, 0), x -> x.span(0, 9, true));
        refused(STATE, "wish of a stopped one", x -> x.wish(3, 1));
        refused(STATE, "wish of another plate", x -> x.wish(104, 1));
        refused(STATE, "wish of one wished already", x -> x.wish(1, 1));
        refused(FULL, "a ninth wish", RefusalTests::wishEight, x -> x.wish(20, 3));
        refused(NONE, "baths of a stopped wish", x -> x.stop(1, 1), EtchBath::baths);
        refused(NONE, "minute of a stopped wish", x -> x.stop(1, 1), x -> x.minute(0));
        refused(NONE, "work of a stopped wish", x -> x.stop(1, 1), EtchBath::work);
        refused(NONE, "baths of a tone that is past", x -> x.wish(5, 0), EtchBath::baths);
        refused(NONE, "minute of a tone that is past", x -> x.wish(5, 0), x -> x.minute(0));
        refused(NONE, "work of a tone that is past", x -> x.wish(5, 0), EtchBath::work);
        refused(NONE, "minute of too few", x -> x.minute(2));
        refused(NONE, "minute of none", EtchBath::clear, x -> x.minute(0));
        refused(NONE, "minute(MAX)", x -> x.minute(MAX));
        refused(NONE, "changed since none was kept", x -> x.changed(0, 3));
        refused(NONE, "back to none", x -> x.back(0, 3));
        refused(STATE, "guard of another plate", x -> x.guard(0, 0, 15));
        refused(FULL, "a ninth guard", RefusalTests::guardEight, x -> x.guard(120, 0, 15));
        refused(NONE, "edition of none", EtchBath::edition, EtchBath::edition);
        refused(FULL, "a 37th number", RefusalTests::tellAll, x -> x.tell(1));
    }

    private static int wishEight(EtchBath x) {
        for (int cell = 5; x.count(1) < 8; cell++) {
            x.wish(cell, 3);
        }
        return 8;
    }

    private static int guardEight(EtchBath x) {
        for (int cell = 105; x.count(2) < 8; cell++) {
            x.guard(cell, 0, 15);
        }
        return 8;
    }

    private static int tellAll(EtchBath x) {
        for (int i = x.count(4); i < 36; i++) {
            x.tell(1);
        }
        return 36;
    }

    private static void inTheirOrder() {
        refused(BEYOND, "as: BEYOND ahead of KIND", x -> x.as(136, 1));
        refused(BEYOND, "as: BEYOND (kind) ahead of KIND", x -> x.as(0, 3));
        refused(BEYOND, "span: BEYOND ahead of STATE", x -> x.span(3, 16, false));
        refused(STATE, "span: STATE ahead of NONE", x -> x.span(3, 0, false));
        refused(BEYOND, "wish: BEYOND ahead of STATE (stopped)", x -> x.wish(3, 16));
        refused(BEYOND, "wish: BEYOND ahead of STATE (wished)", x -> x.wish(1, -1));
        refused(BEYOND, "wish: BEYOND ahead of STATE (plate)", x -> x.wish(104, 16));
        refused(BEYOND, "wish: BEYOND ahead of FULL", RefusalTests::wishEight, x -> x.wish(20, 16));
        refused(STATE, "wish: STATE (stopped) ahead of FULL", RefusalTests::wishEight, x -> x.wish(3, 3));
        refused(STATE, "wish: STATE (plate) ahead of FULL", RefusalTests::wishEight, x -> x.wish(104, 3));
        refused(STATE, "wish: STATE (wished) ahead of FULL", RefusalTests::wishEight, x -> x.wish(1, 3));
        refused(BEYOND, "minute: BEYOND ahead of NONE (stopped)", x -> x.stop(1, 1), x -> x.minute(-1));
        refused(BEYOND, "minute: BEYOND ahead of NONE (too few)", EtchBath::clear, x -> x.minute(-1));
        refused(BEYOND, "changed: BEYOND (plate) ahead of NONE", x -> x.changed(3, 3));
        refused(BEYOND, "back: BEYOND (plate) ahead of NONE", x -> x.back(-1, 3));
        refused(BEYOND, "guard: BEYOND ahead of STATE", x -> x.guard(0, 2, 1));
        refused(BEYOND, "guard: BEYOND ahead of FULL", RefusalTests::guardEight, x -> x.guard(120, 2, 1));
        refused(STATE, "guard: STATE ahead of FULL", RefusalTests::guardEight, x -> x.guard(0, 0, 15));
    }

    // ---- what a refusal does

    /** Something of all that an object can hold: 2 wishes of plate 0, 3 guards of plate 1, states 0 and 1. */
    private static EtchBath used() {
        EtchBath x = new EtchBath();
        x.ground(1, 1);
        x.ground(2, 2);
        x.ground(102, 2);
        x.ground(235, 1);
        x.stop(35, 1);
        x.keep(0);
        x.bathe(0, 10);
        x.bathe(1, 30);
        x.bathe(2, 50);
        x.stop(3, 1);
        x.stop(103, 1);
        x.keep(1);
        x.bathe(0, 3);
        x.stop(203, 1);
        x.bath(5, 3);
        x.offset(0, 1, -1);
        x.offset(2, 0, 1);
        x.steel(1, 1);
        x.pull(7);
        x.steel(0, 1);
        x.wish(1, 4);
        x.wish(4, 5);
        x.tell(1);
        x.tell(2);
        x.guard(102, 3, 15);
        x.guard(100, 2, 3);
        x.guard(135, 0, 9);
        x.found(9);
        return x;
    }

    private static void tellsItsFinding(Refusal refusal) {
        EtchBath x = used();
        refusal.ahead.on(x);
        int[] before = found(x);
        due(refusal.name, refusal.act.on(x), -1000000 - refusal.finding);
        int[] behind = found(x);
        for (int k = 1; k <= 5; k++) {
            due(refusal.name + ": found(" + k + ") then", behind[k], before[k] + (k == refusal.finding ? 1 : 0));
        }
    }

    private static int[] found(EtchBath x) {
        int[] found = new int[6];
        for (int k = 1; k <= 5; k++) {
            found[k] = x.found(k);
        }
        return found;
    }

    /** The questions are asked in parts, each of a new pair, so that no object has more calls than are promised. */
    private static void changesNothing(Refusal refusal) {
        for (int part = 0; part < 6; part++) {
            EtchBath asked = used();
            EtchBath left = used();
            refusal.ahead.on(asked);
            refusal.ahead.on(left);
            refusal.act.on(asked);
            List<Integer> got = answers(asked, part);
            List<Integer> want = answers(left, part);
            due(refusal.name + ": part " + part + " has too many questions", Math.max(got.size(), MOST_CALLS - 100),
                MOST_CALLS - 100);
            for (int i = 0; i < want.size(); i++) {
                due(refusal.name + ": question " + i + " of part " + part + " then", got.get(i), want.get(i));
            }
        }
    }

    private static List<Integer> answers(EtchBath x, int part) {
        List<Integer> all = new ArrayList<>();
        switch (part) {
            case 0: case 1: case 2:
                askPlate(x, part, all);
                break;
            case 3:
                askWishes(x, all);
                break;
            case 4:
                askPrints(x, all);
                break;
            default:
                askStatesAndNumbers(x, all);
                break;
        }
        return all;
    }

    private static void askPlate(EtchBath x, int plate, List<Integer> all) {
        for (int c = 0; c < 36; c++) {
            for (int what = 0; what < 5; what++) {
                all.add(x.about(100 * plate + c, what));
            }
        }
        for (int what = 0; what <= 6; what++) {
            all.add(x.count(what));
        }
        all.add(x.bathe(plate, 7));
        all.add(x.clean(plate));
        all.add(x.bathe(plate, 1));
    }

    private static void askWishes(EtchBath x, List<Integer> all) {
        all.add(x.baths());
        for (int i = 0; i < 9; i++) {
            all.add(x.minute(i));
        }
        all.add(x.work());
        for (int c = 0; c < 36; c++) {
            all.add(x.about(c, 1));
            all.add(x.about(c, 2));
        }
        all.add(x.clear());
        all.add(x.wish(220, 8));
        all.add(x.wish(120, 8));
        all.add(x.baths());
    }

    private static void askPrints(EtchBath x, List<Integer> all) {
        for (int place = 0; place < 36; place++) {
            all.add(x.colour(place));
        }
        all.add(x.edition());
        all.add(x.guard(0, 0, 15));
        all.add(x.guard(1, 2, 3));
        all.add(x.edition());
        all.add(x.pull(95));
        all.add(x.pull(1));
        all.add(x.count(6));
        for (int plate = 0; plate < 3; plate++) {
            all.add(x.steel(plate, 1));
            all.add(x.about(100 * plate + 4, 1));
        }
        all.add(x.pull(3));
    }

    private static void askStatesAndNumbers(EtchBath x, List<Integer> all) {
        all.add(x.tell(1));
        all.add(x.check(0));
        all.add(x.check(0));
        for (int k = 0; k < 4; k++) {
            for (int plate = 0; plate < 3; plate++) {
                all.add(x.changed(plate, k));
                all.add(x.back(plate, k));
                all.add(x.bathe(plate, 1));
            }
            all.add(x.keep(k));
        }
        all.add(x.count(3));
    }
}
