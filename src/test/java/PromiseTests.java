/** For each promise of the document: ordinary calls, the edges that it names, and wrong calls. */
public final class PromiseTests {
    private static final int BEYOND = -1000001;
    private static final int NONE = -1000002;
    private static final int STATE = -1000003;
    private static final int FULL = -1000004;
    private static final int KIND = -1000005;
    private static final int MIN = Integer.MIN_VALUE;
    private static final int MAX = Integer.MAX_VALUE;
    private static final int[] NO_CELLS = {MIN, -100, -65, -1, 36, 99, 136, 199, 236, 300, 335, MAX};
    private static final int[] NO_PLATES = {MIN, -1, 3, MAX};

    private static int wrong = 0;
    private static String promise = "";

    private static void due(String call, int got, int want) {
        if (got != want) {
            wrong++;
            System.out.println(promise + ": " + call + " answered " + got + ", due is " + want);
        }
    }

    public static void main(String[] args) {
        newObject();
        ground();
        as();
        stopAndClean();
        bath();
        bathe();
        scrape();
        about();
        span();
        wishAndClear();
        bathsAndMinute();
        fewestAheadOfEarliest();
        work();
        keepChangedBack();
        offsetAndColour();
        steelAndPull();
        guardAndEdition();
        tellAndCheck();
        count();
        found();
        findingsChangeNothing();
        System.out.println(wrong == 0 ? "PromiseTests: all as due" : "PromiseTests: " + wrong + " wrong");
        if (wrong != 0) {
            System.exit(1);
        }
    }

    private static void newObject() {
        promise = "1 new object";
        for (int plate = 0; plate < 3; plate++) {
            EtchBath bare = new EtchBath();
            for (int c = 0; c < 36; c++) {
                for (int what = 0; what < 5; what++) {
                    due("about", bare.about(100 * plate + c, what), 0);
                }
            }
        }
        EtchBath x = new EtchBath();
        due("count(0)", x.count(0), 4);
        for (int what = 1; what < 7; what++) {
            due("count(" + what + ")", x.count(what), 0);
        }
        for (int k = 1; k < 6; k++) {
            due("found(" + k + ")", x.found(k), 0);
        }
        for (int place = 0; place < 36; place++) {
            due("colour", x.colour(place), 0);
        }
        x.bathe(0, 1);
        due("another object's about(0, 1)", new EtchBath().about(0, 1), 0);
    }

    private static void ground() {
        promise = "2 ground";
        EtchBath x = new EtchBath();
        due("ground(235, 2)", x.ground(235, 2), 0);
        due("ground(235, 1)", x.ground(235, 1), 2);
        due("about(235, 4)", x.about(235, 4), 0);
        due("ground(235, 0)", x.ground(235, 0), 1);
        due("ground(235, 2)", x.ground(235, 2), 0);
        x.bathe(2, 7);
        due("life", x.about(235, 4), 53);
        due("dust anew", x.ground(235, 2), 2);
        due("life anew", x.about(235, 4), 60);
        due("depth stays", x.about(235, 1), 84);
        due("neighbour", x.about(234, 0), 0);
        for (int cell : NO_CELLS) {
            due("ground(" + cell + ", 0)", x.ground(cell, 0), BEYOND);
        }
        due("ground(0, -1)", x.ground(0, -1), BEYOND);
        due("ground(0, 3)", x.ground(0, 3), BEYOND);
        due("found(1)", x.found(1), NO_CELLS.length + 2);
    }

    private static void as() {
        promise = "3 as";
        EtchBath x = new EtchBath();
        x.ground(101, 1);
        x.ground(102, 2);
        int[][] want = {{1, KIND, KIND}, {2, 2, KIND}, {3, KIND, 3}};
        for (int c = 0; c < 3; c++) {
            for (int kind = 0; kind < 3; kind++) {
                due("as(" + (100 + c) + ", " + kind + ")", x.as(100 + c, kind), want[c][kind]);
            }
        }
        x.bathe(1, 59);
        due("as with a minute left", x.as(102, 2), 3);
        x.bathe(1, 1);
        due("as without life", x.as(102, 2), 0);
        due("as without life, as bare", x.as(102, 0), 0);
        due("as(102, 1)", x.as(102, 1), KIND);
        for (int cell : NO_CELLS) {
            due("as(" + cell + ", 0)", x.as(cell, 0), BEYOND);
        }
        due("as(0, -1)", x.as(0, -1), BEYOND);
        due("as(0, 3)", x.as(0, 3), BEYOND);
        due("found(5)", x.found(5), 5);
    }

    private static void stopAndClean() {
        promise = "4 stop";
        EtchBath x = new EtchBath();
        due("stop(135, 1)", x.stop(135, 1), 0);
        due("stop(135, 1)", x.stop(135, 1), 1);
        due("stop(135, 0)", x.stop(135, 0), 1);
        due("stop(135, 0)", x.stop(135, 0), 0);
        due("stop(0, -1)", x.stop(0, -1), BEYOND);
        due("stop(0, 2)", x.stop(0, 2), BEYOND);
        for (int cell : NO_CELLS) {
            due("stop(" + cell + ", 1)", x.stop(cell, 1), BEYOND);
        }
        due("count(5)", x.count(5), 0);
        promise = "5 clean";
        x.stop(100, 1);
        x.stop(135, 1);
        x.stop(35, 1);
        x.stop(200, 1);
        due("clean(1)", x.clean(1), 2);
        due("clean(1)", x.clean(1), 0);
        due("about(35, 2)", x.about(35, 2), 1);
        due("about(200, 2)", x.about(200, 2), 1);
        due("about(135, 2)", x.about(135, 2), 0);
        for (int plate : NO_PLATES) {
            due("clean(" + plate + ")", x.clean(plate), BEYOND);
        }
    }

    private static void bath() {
        promise = "6 bath";
        EtchBath x = new EtchBath();
        for (int strength = 1; strength <= 9; strength++) {
            for (int heat = 0; heat <= 4; heat++) {
                int bite = strength * (heat + 2) / 4;
                due("bath", x.bath(strength, heat), bite < 1 ? 1 : bite);
            }
        }
        due("bath(1, 0)", x.bath(1, 0), 1);
        due("bath(3, 3)", x.bath(3, 3), 3);
        int[][] none = {{0, 2}, {10, 2}, {-1, 2}, {4, -1}, {4, 5}, {MIN, 0}, {MAX, 0}, {1, MIN}, {1, MAX}};
        for (int[] pair : none) {
            due("bath(" + pair[0] + ", " + pair[1] + ")", x.bath(pair[0], pair[1]), BEYOND);
        }
        due("count(0)", x.count(0), 3);
    }

    private static void bathe() {
        promise = "7 bathe";
        EtchBath x = new EtchBath();
        x.ground(201, 1);
        x.ground(202, 2);
        x.ground(203, 2);
        x.stop(203, 1);
        x.stop(204, 1);
        due("bathe(2, 59)", x.bathe(2, 59), 236 * 32 + 472 + 708);
        due("life", x.about(202, 4), 1);
        due("bathe(2, 2)", x.bathe(2, 2), 244 * 32 + 488 + 720);
        due("life", x.about(202, 4), 0);
        due("life of a stopped one", x.about(203, 4), 60);
        due("depth of a stopped one", x.about(203, 1), 0);
        due("dust without life", x.about(202, 1), 720);
        due("other plates", x.about(0, 1) + x.about(135, 1), 0);
        x.bath(9, 4);
        for (int i = 0; i < 4; i++) {
            x.bathe(2, 200);
        }
        due("deepest", x.about(201, 1), 9999);
        due("deepest of a bare one", x.about(200, 1), 9999);
        x.ground(200, 2);
        x.bathe(2, 1);
        due("deepest dust", x.about(200, 1), 9999);
        due("its life goes on", x.about(200, 4), 59);
        due("bathe(2, 1)", x.bathe(2, 1), 9999 * 33 + 720);
        for (int n : new int[] {MIN, -1, 0, 201, MAX}) {
            due("bathe(0, " + n + ")", x.bathe(0, n), BEYOND);
        }
        for (int plate : NO_PLATES) {
            due("bathe(" + plate + ", 1)", x.bathe(plate, 1), BEYOND);
        }
        due("about(0, 1)", x.about(0, 1), 0);
    }

    private static void scrape() {
        promise = "8 scrape";
        EtchBath x = new EtchBath();
        due("scrape at 0", x.scrape(0, 1), 0);
        x.bathe(0, 100);
        due("scrape(35, 1)", x.scrape(35, 1), 359);
        due("scrape(35, 2)", x.scrape(35, 2), 290);
        x.stop(34, 1);
        due("scrape of a stopped one", x.scrape(34, 3), 290);
        due("scrape(33, 100)", x.scrape(33, 100), 0);
        due("about(32, 1)", x.about(32, 1), 400);
        for (int n : new int[] {MIN, -1, 0, 101, MAX}) {
            due("scrape(0, " + n + ")", x.scrape(0, n), BEYOND);
        }
        for (int cell : NO_CELLS) {
            due("scrape(" + cell + ", 1)", x.scrape(cell, 1), BEYOND);
        }
        due("about(0, 1)", x.about(0, 1), 400);
    }

    private static void about() {
        promise = "9 about";
        EtchBath x = new EtchBath();
        x.bath(1, 0);
        x.bathe(0, 39);
        due("tone at 39", x.about(0, 3), 0);
        x.bathe(0, 1);
        due("tone at 40", x.about(0, 3), 1);
        x.bath(9, 4);
        x.bathe(0, 50);
        due("tone at 690", x.about(0, 3), 15);
        x.ground(1, 2);
        x.stop(1, 1);
        int[] want = {2, 690, 1, 15, 60};
        for (int what = 0; what < 5; what++) {
            due("about(1, " + what + ")", x.about(1, what), want[what]);
        }
        for (int what : new int[] {MIN, -1, 5, MAX}) {
            due("about(0, " + what + ")", x.about(0, what), BEYOND);
        }
        for (int cell : NO_CELLS) {
            due("about(" + cell + ", 0)", x.about(cell, 0), BEYOND);
        }
    }

    private static void dueSpan(EtchBath x, int cell, int tone, int first, int last) {
        due("span(" + cell + ", " + tone + ", false)", x.span(cell, tone, false), first);
        due("span(" + cell + ", " + tone + ", true)", x.span(cell, tone, true), last);
    }

    private static void span() {
        promise = "10 span";
        EtchBath x = new EtchBath();
        dueSpan(x, 0, 0, 0, 9);
        dueSpan(x, 0, 1, 10, 19);
        dueSpan(x, 0, 15, 150, 200);
        x.bath(1, 0);
        dueSpan(x, 0, 4, 160, 199);
        dueSpan(x, 0, 5, 200, 200);
        dueSpan(x, 0, 6, NONE, NONE);
        x.ground(1, 2);
        dueSpan(x, 1, 3, 40, 53);
        dueSpan(x, 1, 4, 54, 200);
        dueSpan(x, 1, 5, NONE, NONE);
        x.bath(9, 4);
        x.ground(2, 1);
        dueSpan(x, 2, 1, 2, 3);
        dueSpan(x, 1, 1, 2, 2);
        x.bathe(0, 60);
        dueSpan(x, 1, 14, NONE, NONE);
        dueSpan(x, 1, 15, 0, 200);
        x.scrape(1, 100);
        dueSpan(x, 1, 0, 0, 200);
        dueSpan(x, 1, 1, NONE, NONE);
        x.stop(1, 1);
        dueSpan(x, 1, 0, STATE, STATE);
        dueSpan(x, 1, 14, STATE, STATE);
        dueSpan(x, 1, 16, BEYOND, BEYOND);
        dueSpan(x, 0, -1, BEYOND, BEYOND);
        dueSpan(x, 0, MAX, BEYOND, BEYOND);
        for (int cell : NO_CELLS) {
            dueSpan(x, cell, 0, BEYOND, BEYOND);
        }
        due("nothing is bathed", x.about(100, 1), 0);
    }

    private static void wishAndClear() {
        promise = "11 wish";
        EtchBath x = new EtchBath();
        x.stop(108, 1);
        due("a stopped one", x.wish(108, 3), STATE);
        for (int i = 0; i < 8; i++) {
            due("wish(" + (100 + i) + ", 15)", x.wish(100 + i, 15), 1 + i);
        }
        due("wished already, ahead of full", x.wish(103, 2), STATE);
        due("another plate, ahead of full", x.wish(8, 2), STATE);
        due("stopped, ahead of full", x.wish(108, 2), STATE);
        due("full", x.wish(109, 2), FULL);
        due("beyond, ahead of all", x.wish(103, 16), BEYOND);
        due("wish(100, -1)", x.wish(100, -1), BEYOND);
        due("baths of eight", x.baths(), 1);
        due("minute(0) of eight", x.minute(0), 150);
        for (int cell : NO_CELLS) {
            due("wish(" + cell + ", 0)", x.wish(cell, 0), BEYOND);
        }
        due("count(1)", x.count(1), 8);
        promise = "12 clear";
        due("clear()", x.clear(), 8);
        due("clear()", x.clear(), 0);
        due("of another plate now", x.wish(8, 2), 1);
        due("wished already", x.wish(8, 2), STATE);
        due("clear()", x.clear(), 1);
    }

    private static void dueBaths(EtchBath x, int... minutes) {
        due("baths()", x.baths(), minutes.length);
        for (int i = 0; i < minutes.length; i++) {
            due("minute(" + i + ")", x.minute(i), minutes[i]);
        }
        due("minute behind the last", x.minute(minutes.length), NONE);
    }

    private static void bathsAndMinute() {
        promise = "13 baths, 14 minute";
        EtchBath x = new EtchBath();
        dueBaths(x);
        x.wish(0, 0);
        dueBaths(x, 0);
        x.wish(1, 1);
        dueBaths(x, 0, 10);
        x.ground(2, 1);
        x.wish(2, 3);
        dueBaths(x, 0, 15);
        due("minute(-1)", x.minute(-1), BEYOND);
        due("minute(MIN)", x.minute(MIN), BEYOND);
        due("minute(MAX)", x.minute(MAX), NONE);
        x.stop(1, 1);
        due("a stopped wish", x.baths(), NONE);
        due("minute(0)", x.minute(0), NONE);
        due("minute(-1)", x.minute(-1), BEYOND);
        x.stop(1, 0);
        dueBaths(x, 0, 15);
        x.bathe(0, 10);
        due("tone 0 is gone", x.baths(), NONE);
        x.scrape(0, 100);
        dueBaths(x, 5);
        x.bath(1, 0);
        dueBaths(x, 20);
        x.ground(1, 2);
        dueBaths(x, 0, 20);
        due("nothing is bathed", x.about(3, 1), 40);
    }

    private static void fewestAheadOfEarliest() {
        promise = "13 baths: the fewest, then the least";
        EtchBath x = new EtchBath();
        x.bath(1, 0);
        // Spans 40 .. 79, 60 .. 79, 67 .. 79 (of 120 .. 159 by three), 80 .. 119.
        x.ground(1, 1);
        x.ground(2, 2);
        x.wish(0, 1);
        x.wish(1, 3);
        dueBaths(x, 60);
        x.wish(3, 2);
        dueBaths(x, 60, 80);
        x.wish(2, 4);
        dueBaths(x, 60, 80);
        EtchBath y = new EtchBath();
        y.bath(1, 0);
        // Spans 0 .. 39, 20 .. 39, 40 .. 59, 40 .. 53: the first minute isn't 0, or there would be three.
        y.ground(1, 1);
        y.ground(2, 1);
        y.ground(3, 2);
        y.wish(0, 0);
        y.wish(1, 1);
        y.wish(2, 2);
        y.wish(3, 3);
        dueBaths(y, 20, 40);
    }

    private static void work() {
        promise = "15 work";
        EtchBath x = new EtchBath();
        due("work()", x.work(), 0);
        x.ground(101, 1);
        x.ground(102, 2);
        x.wish(100, 0);
        x.wish(101, 4);
        x.wish(102, 6);
        due("baths()", x.baths(), 2);
        due("work()", x.work(), 2);
        due("count(1)", x.count(1), 0);
        due("count(5)", x.count(5), 3);
        due("about(100, 1)", x.about(100, 1), 0);
        due("about(101, 1)", x.about(101, 1), 160);
        due("about(102, 1)", x.about(102, 1), 240);
        due("life", x.about(102, 4), 40);
        due("about(103, 1)", x.about(103, 1), 80);
        due("another plate", x.about(3, 1), 0);
        due("work()", x.work(), 0);
        due("about(103, 1)", x.about(103, 1), 80);
        x.wish(103, 1);
        due("work()", x.work(), NONE);
        due("wishes stay", x.count(1), 1);
        x.scrape(103, 100);
        x.wish(104, 2);
        x.stop(104, 1);
        due("work() with a stopped wish", x.work(), NONE);
        due("wishes stay", x.count(1), 2);
        due("about(105, 1)", x.about(105, 1), 80);
        EtchBath y = new EtchBath();
        y.wish(0, 1);
        y.wish(1, 3);
        y.wish(2, 4);
        due("work()", y.work(), 3);
        due("about(0, 1)", y.about(0, 1), 40);
        due("about(1, 1)", y.about(1, 1), 120);
        due("about(2, 1)", y.about(2, 1), 160);
        due("about(3, 1)", y.about(3, 1), 160);
        y.clean(0);
        y.bath(9, 4);
        y.ground(3, 2);
        // The span of tone 5 is minute 2 alone.
        due("span", y.span(3, 5, false), 2);
        due("span", y.span(3, 5, true), 2);
        y.wish(3, 5);
        due("work()", y.work(), 1);
        due("about(3, 1)", y.about(3, 1), 238);
        due("about(3, 2)", y.about(3, 2), 1);
    }

    private static void keepChangedBack() {
        promise = "16 keep, 17 changed, 18 back";
        EtchBath x = new EtchBath();
        due("changed(0, 3)", x.changed(0, 3), NONE);
        due("back(0, 3)", x.back(0, 3), NONE);
        x.ground(1, 2);
        due("keep(3)", x.keep(3), 1);
        due("changed(0, 3)", x.changed(0, 3), 0);
        x.ground(0, 1);
        x.stop(1, 1);
        x.scrape(2, 1);
        due("changed(0, 3)", x.changed(0, 3), 2);
        x.bathe(0, 1);
        x.scrape(0, 100);
        due("changed(0, 3)", x.changed(0, 3), 36);
        x.bathe(1, 5);
        due("back(0, 3)", x.back(0, 3), 36);
        due("back(0, 3)", x.back(0, 3), 0);
        due("the other plate stays", x.about(100, 1), 20);
        due("about(0, 0)", x.about(0, 0), 0);
        due("about(1, 2)", x.about(1, 2), 0);
        x.bathe(0, 4);
        x.scrape(1, 100);
        for (int c = 0; c < 36; c++) {
            x.scrape(c, 100);
        }
        due("lives are not compared", x.changed(0, 3), 0);
        due("life", x.about(1, 4), 56);
        due("back(0, 3)", x.back(0, 3), 0);
        due("life is back", x.about(1, 4), 60);
        due("keep(3)", x.keep(3), 0);
        due("changed(1, 3)", x.changed(1, 3), 0);
        x.bathe(1, 1);
        due("a state isn't bathed", x.changed(1, 3), 36);
        due("keep(0)", x.keep(0), 1);
        due("changed(1, 0)", x.changed(1, 0), 0);
        due("changed(1, 3)", x.changed(1, 3), 36);
        due("changed(1, 1)", x.changed(1, 1), NONE);
        due("count(3)", x.count(3), 2);
        for (int k : new int[] {MIN, -1, 4, MAX}) {
            due("keep(" + k + ")", x.keep(k), BEYOND);
            due("changed(0, " + k + ")", x.changed(0, k), BEYOND);
            due("back(0, " + k + ")", x.back(0, k), BEYOND);
        }
        for (int plate : NO_PLATES) {
            due("changed(" + plate + ", 1)", x.changed(plate, 1), BEYOND);
            due("back(" + plate + ", 1)", x.back(plate, 1), BEYOND);
        }
        due("count(3)", x.count(3), 2);
    }

    private static void offsetAndColour() {
        promise = "19 offset, 20 colour";
        EtchBath x = new EtchBath();
        for (int plate = 0; plate < 3; plate++) {
            for (int c = 1; c < 36; c++) {
                x.stop(100 * plate + c, 1);
            }
            x.bathe(plate, 10 * (plate + 1));
        }
        int ink = 1 + 16 * 2 + 256 * 3;
        for (int place = 0; place < 36; place++) {
            due("colour(" + place + ")", x.colour(place), place == 5 ? ink : 0);
        }
        due("offset(0, 1, 0)", x.offset(0, 1, 0), 1);
        due("colour(11)", x.colour(11), 1);
        due("offset(1, 1, -1)", x.offset(1, 1, -1), 1);
        due("colour(10)", x.colour(10), 32);
        due("offset(2, -1, 0)", x.offset(2, -1, 0), 1);
        for (int place = 0; place < 36; place++) {
            due("colour(" + place + ")", x.colour(place), place == 11 ? 1 : place == 10 ? 32 : 0);
        }
        due("offset(2, 0, 1)", x.offset(2, 0, 1), 1);
        due("colour(0)", x.colour(0), 0);
        due("colour(5)", x.colour(5), 0);
        int[][] none = {{0, -2, 0}, {0, 2, 0}, {0, 0, -2}, {0, 0, 2}, {0, MIN, 0}, {0, 0, MAX}};
        for (int[] row : none) {
            due("offset", x.offset(row[0], row[1], row[2]), BEYOND);
        }
        for (int plate : NO_PLATES) {
            due("offset(" + plate + ", 0, 0)", x.offset(plate, 0, 0), BEYOND);
        }
        due("colour(11)", x.colour(11), 1);
        for (int place : new int[] {MIN, -1, 36, MAX}) {
            due("colour(" + place + ")", x.colour(place), BEYOND);
        }
    }

    private static void steelAndPull() {
        promise = "21 steel, 22 pull";
        EtchBath x = new EtchBath();
        due("steel(2, 0)", x.steel(2, 0), 0);
        due("pull(1)", x.pull(1), 0);
        x.bathe(0, 25);
        x.bathe(1, 25);
        x.bathe(2, 25);
        x.stop(100, 1);
        due("steel(2, 1)", x.steel(2, 1), 0);
        due("pull(1)", x.pull(1), 36 * (2 + 32 + 512));
        due("wear", x.about(0, 1), 98);
        due("wear of a stopped one", x.about(100, 1), 98);
        due("no wear", x.about(200, 1), 100);
        due("pull(60)", x.pull(60), 36 * (1 + 16 + 512));
        due("worn to the end", x.about(0, 1), 49);
        due("steel(2, 1)", x.steel(2, 1), 39);
        due("pull(100)", x.pull(100), 36 * (1 + 16 + 512));
        due("no wear", x.about(200, 1), 100);
        due("steel(2, 0)", x.steel(2, 0), 0);
        due("pull(1)", x.pull(1), 36 * (1 + 16 + 512));
        due("wear", x.about(200, 1), 98);
        x.steel(2, 1);
        x.pull(60);
        x.pull(60);
        due("steel for 100 of 120, then wear", x.about(200, 1), 78);
        due("steel(2, 1)", x.steel(2, 1), 0);
        due("steel(2, 0)", x.steel(2, 0), 100);
        due("steel(2, 0)", x.steel(2, 0), 0);
        due("count(6)", x.count(6), 283);
        x.offset(0, 1, 1);
        due("pull at an offset", x.pull(1), 25 + 36 * (16 + 256));
        for (int n : new int[] {MIN, -1, 0, 101, MAX}) {
            due("pull(" + n + ")", x.pull(n), BEYOND);
        }
        due("steel(0, -1)", x.steel(0, -1), BEYOND);
        due("steel(0, 2)", x.steel(0, 2), BEYOND);
        for (int plate : NO_PLATES) {
            due("steel(" + plate + ", 1)", x.steel(plate, 1), BEYOND);
        }
        due("count(6)", x.count(6), 284);
    }

    private static void guardAndEdition() {
        promise = "23 guard, 24 edition";
        EtchBath x = new EtchBath();
        due("edition()", x.edition(), NONE);
        x.bathe(1, 25);
        due("guard(100, 2, 2)", x.guard(100, 2, 2), 1);
        due("edition()", x.edition(), 19);
        due("edition()", x.edition(), NONE);
        due("guard(100, 0, 1)", x.guard(100, 0, 1), 1);
        due("too dark now", x.edition(), 0);
        due("guard(100, 3, 15)", x.guard(100, 3, 15), 1);
        due("too light now", x.edition(), 0);
        x.guard(101, 1, 15);
        due("to the end", x.edition(), 300);
        x.guard(101, 1, 15);
        x.guard(101, 2, 15);
        due("the least of two", x.edition(), 19);
        x.steel(1, 1);
        x.pull(30);
        x.guard(101, 2, 2);
        due("with steel", x.edition(), 89);
        due("steel stays", x.steel(1, 1), 70);
        x.guard(101, 3, 3);
        due("with steel, too light now", x.edition(), 0);
        due("depth stays", x.about(101, 1), 100);
        due("pulls stay", x.count(6), 30);
        for (int i = 0; i < 8; i++) {
            due("guard", x.guard(100, i, 15), 1 + i);
        }
        due("another plate, ahead of full", x.guard(0, 0, 0), STATE);
        due("full", x.guard(100, 0, 0), FULL);
        int[][] none = {{0, 3, 2}, {0, -1, 2}, {0, 0, 16}, {0, 16, 16}, {0, MIN, MAX}};
        for (int[] row : none) {
            due("guard", x.guard(row[0], row[1], row[2]), BEYOND);
        }
        for (int cell : NO_CELLS) {
            due("guard(" + cell + ", 0, 15)", x.guard(cell, 0, 15), BEYOND);
        }
        due("count(2)", x.count(2), 8);
        due("edition()", x.edition(), 0);
        due("of another plate now", x.guard(200, 0, 0), 1);
        due("another plate than one", x.guard(100, 0, 0), STATE);
        due("edition()", x.edition(), 300);
    }

    private static void tellAndCheck() {
        promise = "25 tell, 26 check";
        EtchBath x = new EtchBath();
        due("check(0)", x.check(0), 0);
        x.bathe(2, 10);
        for (int i = 0; i < 36; i++) {
            due("tell(1)", x.tell(1), 1 + i);
        }
        due("full", x.tell(1), FULL);
        due("check(2)", x.check(2), 0);
        due("count(4)", x.count(4), 0);
        for (int i = 0; i < 36; i++) {
            x.tell(i == 35 ? MIN : 1);
        }
        due("check(2)", x.check(2), 36);
        due("check(2)", x.check(2), 0);
        x.tell(1);
        x.tell(MAX);
        x.tell(0);
        due("the first that isn't", x.check(2), 2);
        x.tell(0);
        due("another plate", x.check(1), 0);
        x.tell(0);
        due("already the first isn't", x.check(2), 1);
        for (int plate : NO_PLATES) {
            x.tell(7);
            due("check(" + plate + ")", x.check(plate), BEYOND);
            due("they are gone, too", x.check(0), 0);
        }
    }

    private static void count() {
        promise = "27 count";
        EtchBath x = new EtchBath();
        x.bath(9, 4);
        x.wish(0, 1);
        x.wish(1, 1);
        x.guard(100, 0, 1);
        x.guard(100, 0, 1);
        x.guard(100, 0, 1);
        x.keep(1);
        x.keep(1);
        x.keep(2);
        x.tell(5);
        x.stop(0, 1);
        x.stop(110, 1);
        x.stop(235, 1);
        x.pull(7);
        x.pull(100);
        int[] want = {13, 2, 3, 2, 1, 3, 107};
        for (int what = 0; what < want.length; what++) {
            due("count(" + what + ")", x.count(what), want[what]);
        }
        for (int what : new int[] {MIN, -1, 7, MAX}) {
            due("count(" + what + ")", x.count(what), BEYOND);
        }
    }

    private static void found() {
        promise = "28 found";
        EtchBath x = new EtchBath();
        x.edition();
        x.edition();
        x.as(0, 1);
        x.stop(0, 1);
        x.wish(0, 0);
        x.wish(0, 0);
        x.span(0, 0, true);
        for (int i = 0; i < 40; i++) {
            x.tell(i);
        }
        int[] want = {0, 2, 3, 4, 1};
        for (int k = 1; k < 6; k++) {
            due("found(" + k + ")", x.found(k), want[k - 1]);
        }
        int beyond = 0;
        for (int k : new int[] {MIN, -1, 0, 6, MAX}) {
            due("found(" + k + ")", x.found(k), BEYOND);
            beyond++;
            due("found(1)", x.found(1), beyond);
        }
    }

    private static void findingsChangeNothing() {
        promise = "findings change nothing";
        EtchBath x = new EtchBath();
        x.bathe(0, 10);
        x.keep(0);
        x.wish(0, 0);
        due("work()", x.work(), NONE);
        x.ground(0, 5);
        x.stop(0, 3);
        x.scrape(0, 101);
        x.bathe(0, 201);
        x.pull(101);
        x.back(0, 1);
        due("changed(0, 0)", x.changed(0, 0), 0);
        due("count(1)", x.count(1), 1);
        x.bath(9, 5);
        due("count(0)", x.count(0), 4);
        x.bath(10, 4);
        due("count(0)", x.count(0), 4);
        x.offset(0, 1, 2);
        due("colour(0)", x.colour(0), 1);
        x.offset(0, 2, 1);
        due("colour(0)", x.colour(0), 1);
    }
}
