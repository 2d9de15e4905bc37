/**
 * Each sentence of the document that names a boundary (too small, too large, empty, full, cut, at most, at first)
 * has a test of its own, in the document's order; the sentence is the name under which a wrong answer is told.
 * Refused calls have their own file, RefusalTests.
 */
public final class EdgeTests {
    private static final int BEYOND = -1000001;
    private static final int NONE = -1000002;
    private static final int STATE = -1000003;
    private static final int FULL = -1000004;
    private static final int MIN = Integer.MIN_VALUE;
    private static final int MAX = Integer.MAX_VALUE;

    private static int wrong = 0;
    private static String sentence = "";

    private static void due(String call, int got, int want) {
        if (got != want) {
            wrong++;
            System.out.println(sentence + ": " + call + " answered " + got + ", due is " + want);
        }
    }

    public static void main(String[] args) {
        plates();
        tones();
        states();
        prints();
        told();
        System.out.println(wrong == 0 ? "EdgeTests: all as due" : "EdgeTests: " + wrong + " wrong");
        if (wrong != 0) {
            System.exit(1);
        }
    }

    private static void plates() {
        threeBarePlates();
        atFirst();
        nothingIsKeptAtFirst();
        whichItWas();
        lifeOfSixty();
        timesNow();
        stoppedOrNot();
        cleanCounts();
        biteIsOneAtLeast();
        biteIsCut();
        oneToTwoHundredMinutes();
        deepestFromBelow();
        deepestOfAll();
        lifeToItsEnd();
        stoppedKeepsLife();
        notBelowNothing();
        aTenthIsCut();
        toneAtEachStep();
        lifeOfOthers();
    }

    private static void tones() {
        spanFromNowOn();
        spanUpToTwoHundred();
        spanOfDust();
        spanOfTheDarkest();
        spanWithNone();
        eightWishes();
        samePlate();
        clearOfNone();
        bathsOfNone();
        fewestBaths();
        leastFirstMinute();
        leastSecondMinute();
        minutesOfBaths();
        wishesWithoutSpan();
        workOfNone();
        workFromNowOn();
        workUpToTwoHundred();
        workOfOneWish();
        workAtTheLastMinute();
        firstOfThemInItsSpan();
    }

    private static void states() {
        fourStates();
        inPlaceOfAnother();
        allIsKept();
        changedByEachThing();
        backIsOnePlate();
        notKept();
    }

    private static void prints() {
        turnedOver();
        noSuchCellPrintsNothing();
        darkestColour();
        aFiftiethIsCut();
        steelHoldsAHundred();
        steelWithinAPull();
        steelPutOnAgain();
        steelTakenOff();
        pullsOneToAHundred();
        colourOfAllPlacesThen();
        eightGuards();
        tonesOfAGuard();
        threeHundredAtMost();
        editionBehindTheLast();
        noneIfOneHasntNow();
        guardsAreGone();
        editionChangesNothingElse();
    }

    private static void told() {
        thirtySixWait();
        firstThatIsnt();
        noneWait();
        anyNumberWaits();
        countsAtTheirEnds();
        foundCountsItself();
    }

    /** All bare cells of an untouched plate, that aren't stopped, get this depth; BITE is 1 behind it. */
    private static void deepen(EtchBath x, int plate, int depth) {
        x.bath(9, 4);
        int minutes = depth / 13;
        while (minutes > 0) {
            int part = Math.min(200, minutes);
            x.bathe(plate, part);
            minutes -= part;
        }
        x.bath(1, 0);
        if (depth % 13 > 0) {
            x.bathe(plate, depth % 13);
        }
    }

    private static EtchBath deep(int plate, int depth) {
        EtchBath x = new EtchBath();
        deepen(x, plate, depth);
        return x;
    }

    // ---- Promise 1

    private static void threeBarePlates() {
        sentence = "1: Three BARE plates";
        for (int plate = 0; plate < 3; plate++) {
            EtchBath x = new EtchBath();
            for (int c = 0; c < 36; c++) {
                for (int what = 0; what < 5; what++) {
                    due("about(" + (100 * plate + c) + ", " + what + ")", x.about(100 * plate + c, what), 0);
                }
                due("as bare", x.as(100 * plate + c, 0), 1);
            }
        }
    }

    private static void atFirst() {
        sentence = "Terms: STRENGTH 4, HEAT 2, no STOPPED ones, DOWN and RIGHT 0, no STEEL at first";
        EtchBath x = new EtchBath();
        due("BITE", x.count(0), 4);
        due("STOPPED ones", x.count(5), 0);
        due("bathe(0, 1)", x.bathe(0, 1), 36 * 4);
        EtchBath y = new EtchBath();
        y.bathe(0, 10);
        y.bathe(1, 10);
        y.bathe(2, 10);
        for (int place = 0; place < 36; place++) {
            due("colour(" + place + ") has all three", y.colour(place), 273);
        }
        for (int plate = 0; plate < 3; plate++) {
            due("steel(" + plate + ", 0)", y.steel(plate, 0), 0);
        }
    }

    private static void nothingIsKeptAtFirst() {
        sentence = "1: nothing is kept";
        EtchBath x = new EtchBath();
        for (int k = 0; k < 4; k++) {
            for (int plate = 0; plate < 3; plate++) {
                due("changed(" + plate + ", " + k + ")", x.changed(plate, k), NONE);
                due("back(" + plate + ", " + k + ")", x.back(plate, k), NONE);
            }
        }
        for (int what = 1; what <= 6; what++) {
            due("count(" + what + ")", x.count(what), 0);
        }
        for (int k = 1; k <= 5; k++) {
            due("found(" + k + ")", x.found(k), k == 2 ? 24 : 0);
        }
    }

    // ---- Promises 2 and 3

    private static void whichItWas() {
        sentence = "2: GROUND of a CELL becomes one of a KIND: which it was";
        for (int cell : new int[] {0, 35, 100, 135, 200, 235}) {
            for (int was = 0; was < 3; was++) {
                for (int kind = 0; kind < 3; kind++) {
                    EtchBath x = new EtchBath();
                    x.ground(cell, was);
                    due("ground(" + cell + ", " + kind + ")", x.ground(cell, kind), was);
                    due("about(" + cell + ", 0)", x.about(cell, 0), kind);
                }
            }
        }
    }

    private static void lifeOfSixty() {
        sentence = "2: of DUST a LIFE of 60";
        EtchBath x = new EtchBath();
        x.ground(7, 2);
        due("life when it comes", x.about(7, 4), 60);
        x.bathe(0, 60);
        due("life at its end", x.about(7, 4), 0);
        due("dust on dust", x.ground(7, 2), 2);
        due("life when it comes again", x.about(7, 4), 60);
        x.ground(7, 1);
        x.ground(7, 2);
        due("life behind a line", x.about(7, 4), 60);
        due("depth stays", x.about(7, 1), 720);
        x.stop(7, 1);
        x.ground(7, 2);
        due("a stopped one stays stopped", x.about(7, 2), 1);
    }

    private static void timesNow() {
        sentence = "3: by how many times BITE it gets deeper in a minute now (1, 2, 3, or 0)";
        EtchBath x = new EtchBath();
        x.ground(1, 1);
        x.ground(2, 2);
        due("bare", x.as(0, 0), 1);
        due("line", x.as(1, 1), 2);
        due("line as bare", x.as(1, 0), 2);
        x.bathe(0, 59);
        due("dust with a minute", x.as(2, 2), 3);
        due("dust with a minute, as bare", x.as(2, 0), 3);
        x.bathe(0, 1);
        due("dust without life", x.as(2, 2), 0);
        due("dust without life, as bare", x.as(2, 0), 0);
        x.bath(9, 4);
        due("bite doesn't count", x.as(1, 1), 2);
    }

    // ---- Promises 4 and 5

    private static void stoppedOrNot() {
        sentence = "4: A CELL is STOPPED (1), or not (0): what it was";
        EtchBath x = new EtchBath();
        for (int cell : new int[] {0, 35, 100, 135, 200, 235}) {
            due("stop(" + cell + ", 0)", x.stop(cell, 0), 0);
            due("stop(" + cell + ", 1)", x.stop(cell, 1), 0);
            due("stop(" + cell + ", 1)", x.stop(cell, 1), 1);
            due("stop(" + cell + ", 0)", x.stop(cell, 0), 1);
            due("stop(" + cell + ", 0)", x.stop(cell, 0), 0);
        }
    }

    private static void cleanCounts() {
        sentence = "5: All CELLS of a PLATE aren't STOPPED any more: how many were";
        for (int plate = 0; plate < 3; plate++) {
            EtchBath x = new EtchBath();
            due("none", x.clean(plate), 0);
            for (int c = 0; c < 36; c++) {
                for (int each = 0; each < 3; each++) {
                    x.stop(100 * each + c, 1);
                }
            }
            due("all", x.clean(plate), 36);
            due("of the others", x.count(5), 72);
            due("first", x.about(100 * plate, 2), 0);
            due("last", x.about(100 * plate + 35, 2), 0);
            due("none any more", x.clean(plate), 0);
        }
    }

    // ---- Promises 6 and 7

    private static void biteIsOneAtLeast() {
        sentence = "Terms: BITE is 1 at least";
        EtchBath x = new EtchBath();
        due("bath(1, 0), a half", x.bath(1, 0), 1);
        due("bathe", x.bathe(0, 1), 36);
        due("bath(1, 1), three quarters", x.bath(1, 1), 1);
        due("bath(1, 2), one", x.bath(1, 2), 1);
        due("bath(1, 3), one and a quarter", x.bath(1, 3), 1);
        due("bath(2, 2), two", x.bath(2, 2), 2);
    }

    private static void biteIsCut() {
        sentence = "Terms: BITE is STRENGTH times (HEAT and 2), by 4; 6: STRENGTH 1 .. 9, HEAT 0 .. 4";
        int[][] want = {{1, 1, 1, 1, 1}, {1, 1, 2, 2, 3}, {1, 2, 3, 3, 4}, {2, 3, 4, 5, 6}, {2, 3, 5, 6, 7},
            {3, 4, 6, 7, 9}, {3, 5, 7, 8, 10}, {4, 6, 8, 10, 12}, {4, 6, 9, 11, 13}};
        EtchBath x = new EtchBath();
        for (int strength = -1; strength <= 11; strength++) {
            for (int heat = -2; heat <= 6; heat++) {
                boolean there = strength >= 1 && strength <= 9 && heat >= 0 && heat <= 4;
                int before = x.count(0);
                int bite = there ? want[strength - 1][heat] : before;
                due("bath(" + strength + ", " + heat + ")", x.bath(strength, heat), there ? bite : BEYOND);
                due("BITE then", x.count(0), bite);
            }
        }
    }

    private static void oneToTwoHundredMinutes() {
        sentence = "7: BATHED for n minutes (1 .. 200): DEPTHS of all its CELLS together then";
        EtchBath x = new EtchBath();
        due("bathe(0, 0)", x.bathe(0, 0), BEYOND);
        due("bathe(0, 1)", x.bathe(0, 1), 36 * 4);
        due("bathe(0, 200)", x.bathe(0, 200), 36 * 804);
        due("bathe(0, 201)", x.bathe(0, 201), BEYOND);
        due("first cell", x.about(0, 1), 804);
        due("last cell", x.about(35, 1), 804);
        due("the plate behind it", x.about(100, 1), 0);
        due("bathe(2, 1)", x.bathe(2, 1), 36 * 4);
        due("the plate ahead of it", x.about(135, 1), 0);
        for (int c = 0; c < 36; c++) {
            x.stop(100 + c, 1);
        }
        due("all are stopped", x.bathe(1, 200), 0);
        for (int c = 0; c < 36; c++) {
            x.stop(c, 1);
        }
        due("stopped ones count", x.bathe(0, 1), 36 * 804);
    }

    private static void deepestFromBelow() {
        sentence = "Terms: gets deeper, 9999 at most (a step that ends at, and one that would end above)";
        for (int kind = 0; kind < 3; kind++) {
            int times = kind + 1;
            EtchBath x = deep(0, 9999 - times);
            x.ground(3, kind);
            x.bathe(0, 1);
            due("kind " + kind + " ends at 9999", x.about(3, 1), 9999);
            x.bathe(0, 1);
            due("kind " + kind + " stays there", x.about(3, 1), 9999);
            EtchBath y = deep(0, 9999 - times);
            y.ground(3, kind);
            y.bath(2, 2);
            y.bathe(0, 1);
            due("kind " + kind + " doesn't go above", y.about(3, 1), 9999);
        }
        EtchBath z = deep(2, 9998);
        due("one below", z.about(235, 1), 9998);
        due("a minute more", z.bathe(2, 1), 36 * 9999);
        due("another", z.bathe(2, 1), 36 * 9999);
    }

    private static void deepestOfAll() {
        sentence = "Terms: DEPTH 0 .. 9999";
        EtchBath x = new EtchBath();
        x.bath(9, 4);
        int sum = 0;
        for (int i = 0; i < 100; i++) {
            sum = x.bathe(1, 200);
        }
        due("bathe far above", sum, 36 * 9999);
        due("tone", x.about(100, 3), 15);
    }

    private static void lifeToItsEnd() {
        sentence = "Terms: its LIFE, if that is above 0, is one less; of a DUST without not at all";
        EtchBath x = new EtchBath();
        x.ground(0, 2);
        x.bathe(0, 1);
        due("life", x.about(0, 4), 59);
        due("depth", x.about(0, 1), 12);
        x.bathe(0, 58);
        due("life", x.about(0, 4), 1);
        x.bathe(0, 1);
        due("life", x.about(0, 4), 0);
        due("depth", x.about(0, 1), 720);
        x.bathe(0, 1);
        due("life isn't below 0", x.about(0, 4), 0);
        due("depth stays", x.about(0, 1), 720);
        EtchBath y = new EtchBath();
        y.ground(0, 2);
        y.bathe(0, 200);
        due("life in one bath", y.about(0, 4), 0);
        due("depth in one bath", y.about(0, 1), 720);
        EtchBath z = deep(0, 9999);
        z.ground(0, 2);
        z.bathe(0, 2);
        due("life at the deepest", z.about(0, 4), 58);
    }

    private static void stoppedKeepsLife() {
        sentence = "Terms: a STOPPED one keeps it";
        EtchBath x = new EtchBath();
        x.ground(10, 2);
        x.bathe(0, 5);
        x.stop(10, 1);
        x.bathe(0, 200);
        due("life", x.about(10, 4), 55);
        due("depth", x.about(10, 1), 60);
        x.stop(10, 0);
        x.bathe(0, 1);
        due("life goes on", x.about(10, 4), 54);
        due("depth goes on", x.about(10, 1), 72);
    }

    // ---- Promises 8 and 9

    private static void notBelowNothing() {
        sentence = "8: SCRAPING (not below 0); n 1 .. 100";
        EtchBath x = new EtchBath();
        due("at 0", x.scrape(0, 1), 0);
        due("at 0, often", x.scrape(0, 100), 0);
        x.bath(1, 0);
        x.bathe(0, 1);
        due("at 1", x.scrape(1, 1), 0);
        due("at 1, twice", x.scrape(2, 2), 0);
        x.bathe(0, 1);
        due("at 2", x.scrape(3, 1), 1);
        due("scrape(4, 0)", x.scrape(4, 0), BEYOND);
        due("scrape(4, 101)", x.scrape(4, 101), BEYOND);
        EtchBath y = deep(0, 9999);
        due("the deepest, once", y.scrape(0, 1), 8999);
        due("the deepest, 64 times", y.scrape(1, 64), scraped(9999, 64));
        due("the deepest, 99 times", y.scrape(2, 99), 0);
        due("the deepest, 100 times", y.scrape(3, 100), 0);
    }

    private static int scraped(int depth, int turns) {
        int left = depth;
        for (int i = 0; i < turns; i++) {
            left -= left / 10 + 1;
            if (left < 0) {
                left = 0;
            }
        }
        return left;
    }

    private static void aTenthIsCut() {
        sentence = "8: less by a tenth and 1; Quotients are cut";
        int[][] pairs = {{9, 8}, {10, 8}, {11, 9}, {19, 17}, {20, 17}, {99, 89}, {100, 89}, {101, 90}};
        for (int[] pair : pairs) {
            EtchBath x = deep(1, pair[0]);
            due("scrape at " + pair[0], x.scrape(135, 1), pair[1]);
            due("about then", x.about(135, 1), pair[1]);
            due("neighbour", x.about(134, 1), pair[0]);
        }
    }

    private static void toneAtEachStep() {
        sentence = "Terms: TONE of a CELL: DEPTH by 40, 15 at most";
        for (int tone = 0; tone <= 15; tone++) {
            due("at " + (40 * tone), deep(0, 40 * tone).about(0, 3), tone);
            due("at " + (40 * tone + 39), deep(0, 40 * tone + 39).about(0, 3), tone);
        }
        due("at 640", deep(0, 640).about(0, 3), 15);
        due("at 9999", deep(0, 9999).about(0, 3), 15);
    }

    private static void lifeOfOthers() {
        sentence = "9: LIFE (0 of others than DUST); another what";
        EtchBath x = new EtchBath();
        x.ground(0, 2);
        x.ground(1, 1);
        due("dust", x.about(0, 4), 60);
        due("line", x.about(1, 4), 0);
        due("bare", x.about(2, 4), 0);
        x.ground(0, 1);
        due("a line that was dust", x.about(0, 4), 0);
        x.ground(0, 2);
        x.ground(0, 0);
        due("a bare one that was dust", x.about(0, 4), 0);
        x.bathe(0, 1);
        due("a line behind a bath", x.about(1, 4), 0);
        due("what -1", x.about(0, -1), BEYOND);
        due("what 5", x.about(0, 5), BEYOND);
    }

    // ---- Promise 10

    private static void dueSpan(EtchBath x, int cell, int tone, int first, int last) {
        due("span(" + cell + ", " + tone + ", false)", x.span(cell, tone, false), first);
        due("span(" + cell + ", " + tone + ", true)", x.span(cell, tone, true), last);
    }

    private static void spanFromNowOn() {
        sentence = "10: SPAN: all minutes m from 0 on";
        EtchBath x = new EtchBath();
        dueSpan(x, 0, 0, 0, 9);
        x.bathe(0, 9);
        dueSpan(x, 0, 0, 0, 0);
        dueSpan(x, 0, 1, 1, 10);
        x.bathe(0, 1);
        dueSpan(x, 0, 0, NONE, NONE);
        dueSpan(x, 0, 1, 0, 9);
        due("tone -1", x.span(0, -1, false), BEYOND);
        due("tone 16", x.span(0, 16, true), BEYOND);
        x.bath(3, 2);
        dueSpan(x, 0, 1, 0, 13);
        dueSpan(x, 0, 2, 14, 26);
        dueSpan(x, 0, 3, 27, 39);
    }

    private static void spanUpToTwoHundred() {
        sentence = "10: SPAN: all minutes m up to 200";
        EtchBath x = deep(0, 39);
        dueSpan(x, 0, 5, 161, 200);
        dueSpan(x, 0, 6, NONE, NONE);
        x.bathe(0, 1);
        dueSpan(x, 0, 5, 160, 199);
        dueSpan(x, 0, 6, 200, 200);
        EtchBath y = deep(0, 1);
        dueSpan(y, 0, 5, 199, 200);
        dueSpan(y, 0, 4, 159, 198);
        EtchBath z = deep(0, 400);
        dueSpan(z, 0, 15, 200, 200);
        dueSpan(z, 0, 14, 160, 199);
        EtchBath u = deep(0, 399);
        dueSpan(u, 0, 15, NONE, NONE);
        dueSpan(u, 0, 14, 161, 200);
    }

    private static void spanOfDust() {
        sentence = "10: SPAN of a DUST, whose LIFE ends";
        EtchBath x = new EtchBath();
        x.bath(1, 0);
        x.ground(0, 2);
        dueSpan(x, 0, 4, 54, 200);
        dueSpan(x, 0, 5, NONE, NONE);
        x.bath(2, 2);
        dueSpan(x, 0, 9, 60, 200);
        dueSpan(x, 0, 8, 54, 59);
        x.bathe(0, 1);
        dueSpan(x, 0, 9, 59, 200);
        x.scrape(0, 1);
        dueSpan(x, 0, 9, NONE, NONE);
        dueSpan(x, 0, 8, 53, 200);
        x.bathe(0, 59);
        dueSpan(x, 0, 8, 0, 200);
        dueSpan(x, 0, 7, NONE, NONE);
        EtchBath z = new EtchBath();
        z.bath(2, 2);
        z.ground(0, 2);
        z.bathe(0, 60);
        // Its life ended at depth 360, where tone 9 begins.
        dueSpan(z, 0, 8, NONE, NONE);
        dueSpan(z, 0, 9, 0, 200);
        dueSpan(z, 0, 10, NONE, NONE);
        EtchBath y = new EtchBath();
        y.bath(9, 4);
        y.ground(0, 2);
        for (int tone = 0; tone < 15; tone++) {
            int first = (40 * tone + 38) / 39;
            dueSpan(y, 0, tone, first, (40 * tone + 78) / 39 - 1);
        }
        dueSpan(y, 0, 15, 16, 200);
    }

    private static void spanOfTheDarkest() {
        sentence = "10: SPAN for TONE 15: 15 at most";
        EtchBath x = new EtchBath();
        dueSpan(x, 0, 15, 150, 200);
        EtchBath y = deep(0, 599);
        dueSpan(y, 0, 15, 1, 200);
        dueSpan(y, 0, 14, 0, 0);
        EtchBath z = deep(0, 600);
        dueSpan(z, 0, 15, 0, 200);
        dueSpan(z, 0, 14, NONE, NONE);
        EtchBath u = deep(0, 9999);
        dueSpan(u, 0, 15, 0, 200);
        dueSpan(u, 0, 0, NONE, NONE);
    }

    private static void spanWithNone() {
        sentence = "10: STATE: it is STOPPED. NONE: it has none";
        EtchBath x = new EtchBath();
        x.bathe(0, 10);
        dueSpan(x, 0, 0, NONE, NONE);
        x.stop(0, 1);
        dueSpan(x, 0, 1, STATE, STATE);
        dueSpan(x, 0, 0, STATE, STATE);
        dueSpan(x, 1, 1, 0, 9);
        x.stop(0, 0);
        dueSpan(x, 0, 1, 0, 9);
        due("found(2)", x.found(2), 2);
        due("found(3)", x.found(3), 4);
    }

    // ---- Promises 11 and 12

    private static void eightWishes() {
        sentence = "11: WISHES, at most 8: FULL";
        EtchBath x = new EtchBath();
        for (int i = 0; i < 8; i++) {
            due("wish", x.wish(235 - i, i), 1 + i);
        }
        due("the ninth", x.wish(200, 0), FULL);
        due("count(1)", x.count(1), 8);
        due("baths()", x.baths(), 8);
        due("clear()", x.clear(), 8);
        due("the first again", x.wish(200, 0), 1);
        EtchBath y = new EtchBath();
        due("tone 0", y.wish(0, 0), 1);
        due("tone 15", y.wish(1, 15), 2);
        due("tone -1", y.wish(2, -1), BEYOND);
        due("tone 16", y.wish(2, 16), BEYOND);
        due("a tone that can't be had", deep(0, 40).wish(0, 0), 1);
    }

    private static void samePlate() {
        sentence = "11: STATE: it is STOPPED, of another PLATE than the first one, or wished already";
        EtchBath x = new EtchBath();
        x.stop(100, 1);
        due("stopped, with none wished", x.wish(100, 0), STATE);
        due("last cell of plate 0", x.wish(35, 0), 1);
        due("first cell of plate 1", x.wish(101, 0), STATE);
        due("plate 2", x.wish(235, 0), STATE);
        due("wished already", x.wish(35, 0), STATE);
        due("wished already, another tone", x.wish(35, 1), STATE);
        due("the same plate", x.wish(34, 0), 2);
        due("wished already, not the first", x.wish(34, 0), STATE);
        x.stop(35, 1);
        due("stopped when wished already", x.wish(35, 0), STATE);
        x.clear();
        due("another plate when none is wished", x.wish(101, 0), 1);
        due("the plate of before", x.wish(34, 0), STATE);
        x.work();
        due("another plate when the work is done", x.wish(34, 0), 1);
    }

    private static void clearOfNone() {
        sentence = "12: There are no WISHES any more: how many there were";
        EtchBath x = new EtchBath();
        due("of none", x.clear(), 0);
        x.wish(0, 3);
        due("of one", x.clear(), 1);
        due("count(1)", x.count(1), 0);
        due("baths()", x.baths(), 0);
        due("minute(0)", x.minute(0), NONE);
        due("of none", x.clear(), 0);
    }

    // ---- Promises 13 and 14

    private static void bathsOfNone() {
        sentence = "13: THE BATHS without WISHES";
        EtchBath x = new EtchBath();
        due("baths()", x.baths(), 0);
        for (int c = 0; c < 36; c++) {
            x.stop(c, 1);
        }
        due("baths() with all stopped", x.baths(), 0);
        due("found(2)", x.found(2), 0);
    }

    private static void dueBaths(EtchBath x, int... minutes) {
        due("baths()", x.baths(), minutes.length);
        for (int i = 0; i < minutes.length; i++) {
            due("minute(" + i + ")", x.minute(i), minutes[i]);
        }
        due("minute(" + minutes.length + ")", x.minute(minutes.length), NONE);
    }

    private static void fewestBaths() {
        sentence = "13: the fewest minutes such that each WISH's SPAN has one of them";
        EtchBath x = new EtchBath();
        x.bath(1, 0);
        x.ground(1, 1);
        // Spans 0 .. 39 and 20 .. 39: minute 0 alone wouldn't do, nor are two needed.
        x.wish(0, 0);
        x.wish(1, 1);
        dueBaths(x, 20);
        // And 40 .. 59, which meets neither.
        x.ground(2, 1);
        x.wish(2, 2);
        dueBaths(x, 20, 40);
        // Spans that touch in one minute: 0 .. 39, and 39 on.
        EtchBath y = new EtchBath();
        y.bath(1, 0);
        y.wish(0, 0);
        y.ground(1, 1);
        y.stop(0, 1);
        y.bathe(0, 1);
        y.stop(0, 0);
        y.wish(1, 2);
        dueBaths(y, 39);
        y.bathe(0, 1);
        dueBaths(y, 38);
        // Spans next to one another: 0 .. 39 and 40 .. 79.
        EtchBath z = new EtchBath();
        z.bath(1, 0);
        z.wish(0, 0);
        z.wish(1, 1);
        dueBaths(z, 0, 40);
    }

    private static void leastFirstMinute() {
        sentence = "13: of several those with the least m1";
        EtchBath x = new EtchBath();
        x.wish(0, 1);
        dueBaths(x, 10);
        x.wish(1, 1);
        dueBaths(x, 10);
        x.ground(2, 1);
        // Spans 10 .. 19 and 15 .. 19.
        x.wish(2, 3);
        dueBaths(x, 15);
        EtchBath y = new EtchBath();
        y.bathe(0, 12);
        // A span that began before now begins at 0.
        y.wish(0, 1);
        dueBaths(y, 0);
    }

    private static void leastSecondMinute() {
        sentence = "13: then the least m2, and so on";
        EtchBath x = new EtchBath();
        x.ground(2, 1);
        x.ground(3, 1);
        x.ground(4, 1);
        // Spans 0 .. 9, 10 .. 19 and 15 .. 19, 20 .. 29 and 25 .. 29, 30 .. 34.
        x.wish(0, 0);
        x.wish(1, 1);
        x.wish(2, 3);
        x.wish(5, 2);
        x.wish(3, 5);
        x.wish(4, 6);
        dueBaths(x, 0, 15, 25, 30);
        EtchBath y = new EtchBath();
        y.ground(1, 2);
        y.ground(2, 1);
        // Spans 0 .. 9, 7 .. 9 (80 .. 119 by 12), 10 .. 14: the first minute is 7, the second 10.
        y.wish(0, 0);
        y.wish(1, 2);
        y.wish(2, 2);
        dueBaths(y, 7, 10);
    }

    private static void minutesOfBaths() {
        sentence = "14: BEYOND: i is below 0; NONE, too: there are not so many";
        EtchBath x = new EtchBath();
        due("minute(0) of none", x.minute(0), NONE);
        due("minute(-1) of none", x.minute(-1), BEYOND);
        x.wish(0, 0);
        x.wish(1, 15);
        due("minute(-1)", x.minute(-1), BEYOND);
        due("minute(MIN)", x.minute(MIN), BEYOND);
        due("minute(0)", x.minute(0), 0);
        due("minute(1)", x.minute(1), 150);
        due("minute(2)", x.minute(2), NONE);
        due("minute(8)", x.minute(8), NONE);
        due("minute(MAX)", x.minute(MAX), NONE);
        EtchBath y = new EtchBath();
        y.bath(6, 4);
        for (int i = 0; i < 8; i++) {
            y.wish(i, 2 * i);
        }
        due("minute(7) of eight", y.minute(7), 63);
        due("minute(8) of eight", y.minute(8), NONE);
    }

    private static void wishesWithoutSpan() {
        sentence = "13: NONE: some WISH has no SPAN now, or is STOPPED now";
        for (int bad = 0; bad < 8; bad++) {
            EtchBath x = new EtchBath();
            for (int i = 0; i < 8; i++) {
                x.wish(i, 3);
            }
            x.stop(bad, 1);
            due("wish " + bad + " is stopped", x.baths(), NONE);
            due("minute(0)", x.minute(0), NONE);
            due("work()", x.work(), NONE);
            x.stop(bad, 0);
            due("it isn't any more", x.baths(), 1);
            for (int i = 0; i < 36; i++) {
                x.stop(i, i == bad ? 0 : 1);
            }
            x.bathe(0, 40);
            x.clean(0);
            due("wish " + bad + " is too dark", x.baths(), NONE);
            due("minute(0)", x.minute(0), NONE);
            due("work()", x.work(), NONE);
            due("wishes stay", x.count(1), 8);
            x.scrape(bad, 100);
            due("it isn't any more", x.baths(), 1);
        }
        EtchBath y = new EtchBath();
        y.wish(0, 6);
        y.bath(1, 0);
        due("too far in weak acid", y.baths(), NONE);
        y.bath(4, 2);
        due("not too far now", y.baths(), 1);
    }

    // ---- Promise 15

    private static void workOfNone() {
        sentence = "15: 0 without WISHES";
        EtchBath x = new EtchBath();
        due("work()", x.work(), 0);
        due("nothing is bathed", x.bathe(0, 1), 36 * 4);
        x.wish(0, 1);
        x.clear();
        due("work() behind clear()", x.work(), 0);
        due("nothing is stopped", x.count(5), 0);
        due("found(2)", x.found(2), 0);
    }

    private static void workFromNowOn() {
        sentence = "15: BATHED up to each of these minutes (counted from now on)";
        EtchBath x = new EtchBath();
        x.wish(0, 0);
        due("work() at minute 0", x.work(), 1);
        due("not bathed", x.about(0, 1) + x.about(1, 1), 0);
        due("stopped", x.about(0, 2), 1);
        due("no wishes", x.count(1), 0);
        x.wish(1, 1);
        x.wish(2, 2);
        due("work() at minutes 10, 20", x.work(), 2);
        due("at the first", x.about(1, 1), 40);
        due("at the second", x.about(2, 1), 80);
        due("one that wasn't wished", x.about(3, 1), 80);
        due("one that wasn't wished isn't stopped", x.about(3, 2), 0);
        due("another plate", x.about(103, 1), 0);
        x.wish(3, 3);
        due("work() at minute 10 from now", x.work(), 1);
        due("depth", x.about(3, 1), 120);
        due("depth of another", x.about(4, 1), 120);
        due("STOPPED ones", x.count(5), 4);
    }

    private static void workUpToTwoHundred() {
        sentence = "15: THE BATHS up to minute 200";
        EtchBath x = new EtchBath();
        x.bath(1, 0);
        x.wish(200, 0);
        x.wish(201, 5);
        dueBaths(x, 0, 200);
        due("work()", x.work(), 2);
        due("depth", x.about(201, 1), 200);
        due("depth of another", x.about(235, 1), 200);
    }

    private static void workOfOneWish() {
        sentence = "15: the PLATE (of the WISHES) is BATHED";
        for (int plate = 0; plate < 3; plate++) {
            EtchBath x = new EtchBath();
            x.wish(100 * plate + 35, 1);
            due("work()", x.work(), 1);
            for (int each = 0; each < 3; each++) {
                due("depth on plate " + each, x.about(100 * each + 35, 1), each == plate ? 40 : 0);
                due("depth on plate " + each, x.about(100 * each, 1), each == plate ? 40 : 0);
            }
            due("only the wish is stopped", x.clean(plate), 1);
        }
    }

    private static void workAtTheLastMinute() {
        sentence = "15: each WISH STOPPED, at the last minute of its SPAN too";
        EtchBath x = new EtchBath();
        x.bathe(0, 9);
        dueSpan(x, 0, 0, 0, 0);
        x.wish(0, 0);
        x.wish(1, 1);
        dueBaths(x, 0, 1);
        due("work()", x.work(), 2);
        due("stopped at minute 0", x.about(0, 1), 36);
        due("stopped at minute 1", x.about(1, 1), 40);
        due("stopped ones", x.count(5), 2);
    }

    private static void firstOfThemInItsSpan() {
        sentence = "15: each WISH STOPPED at the first of them that is in its SPAN";
        EtchBath x = new EtchBath();
        x.bath(1, 0);
        x.ground(1, 1);
        x.ground(2, 1);
        // Spans 0 .. 39, 0 .. 19, 20 .. 39: minutes 0 and 20 both lie in the first one.
        x.wish(0, 0);
        x.wish(1, 0);
        x.wish(2, 1);
        dueBaths(x, 0, 20);
        due("work()", x.work(), 2);
        due("at the first", x.about(0, 1), 0);
        due("at the first", x.about(1, 1), 0);
        due("at the second", x.about(2, 1), 40);
    }

    // ---- Promises 16 to 18

    private static void fourStates() {
        sentence = "16: STATES 0 .. 3: 1";
        EtchBath x = new EtchBath();
        due("keep(-1)", x.keep(-1), BEYOND);
        due("keep(4)", x.keep(4), BEYOND);
        due("count(3)", x.count(3), 0);
        for (int k = 3; k >= 0; k--) {
            due("keep(" + k + ")", x.keep(k), 1);
            due("count(3)", x.count(3), 4 - k);
            x.bathe(0, 1);
        }
        for (int k = 0; k < 4; k++) {
            due("back(0, " + k + ")", x.back(0, k), 36);
            due("depth", x.about(35, 1), 4 * (3 - k));
        }
    }

    private static void inPlaceOfAnother() {
        sentence = "16: 0 if it was kept in place of another one";
        EtchBath x = new EtchBath();
        due("keep(2)", x.keep(2), 1);
        due("the same again", x.keep(2), 0);
        x.bathe(1, 1);
        due("another one", x.keep(2), 0);
        due("changed", x.changed(1, 2), 0);
        due("count(3)", x.count(3), 1);
        x.clean(1);
        x.bathe(1, 1);
        due("the other one is gone", x.back(1, 2), 36);
        due("depth", x.about(100, 1), 4);
        due("keep(1)", x.keep(1), 1);
    }

    private static void allIsKept() {
        sentence = "16: all three PLATES as they were (GROUNDS, DEPTHS, STOPPED, LIVES)";
        for (int cell : new int[] {0, 35, 100, 135, 200, 235}) {
            EtchBath x = new EtchBath();
            x.ground(cell, 2);
            x.bathe(cell / 100, 3);
            x.stop(cell, 1);
            x.keep(0);
            x.stop(cell, 0);
            x.bathe(cell / 100, 1);
            x.ground(cell, 1);
            due("back", x.back(cell / 100, 0), 36);
            int[] want = {2, 36, 1, 0, 57};
            for (int what = 0; what < 5; what++) {
                due("about(" + cell + ", " + what + ")", x.about(cell, what), want[what]);
            }
        }
        EtchBath y = new EtchBath();
        y.keep(0);
        y.bath(9, 4);
        y.steel(0, 1);
        y.offset(0, 1, 1);
        y.wish(0, 1);
        y.guard(0, 0, 1);
        y.tell(0);
        y.pull(1);
        due("back", y.back(0, 0), 0);
        due("the bath isn't kept", y.count(0), 13);
        due("wishes aren't kept", y.count(1), 1);
        due("guards aren't kept", y.count(2), 1);
        due("numbers aren't kept", y.count(4), 1);
        due("pulls aren't kept", y.count(6), 1);
        due("steel isn't kept", y.steel(0, 0), 99);
    }

    private static void changedByEachThing() {
        sentence = "17: another GROUND (KIND), DEPTH, or STOPPED otherwise";
        for (int cell : new int[] {0, 35, 100, 135, 200, 235}) {
            int plate = cell / 100;
            EtchBath x = new EtchBath();
            x.bathe(plate, 1);
            x.keep(3);
            due("none", x.changed(plate, 3), 0);
            x.ground(cell, 1);
            due("ground", x.changed(plate, 3), 1);
            x.stop(cell, 1);
            x.scrape(cell, 1);
            due("all three of one cell", x.changed(plate, 3), 1);
            x.ground(cell, 0);
            x.stop(cell, 0);
            due("depth", x.changed(plate, 3), 1);
            x.back(plate, 3);
            x.stop(cell, 1);
            due("stopped", x.changed(plate, 3), 1);
            due("the next plate", x.changed((plate + 1) % 3, 3), 0);
            due("the one behind it", x.changed((plate + 2) % 3, 3), 0);
            due("changed() changes nothing", x.changed(plate, 3), 1);
        }
        EtchBath y = new EtchBath();
        y.ground(0, 2);
        y.keep(0);
        y.bathe(0, 60);
        for (int c = 0; c < 36; c++) {
            y.scrape(c, 100);
        }
        due("a life alone is no change", y.changed(0, 0), 0);
        due("nor for back", y.back(0, 0), 0);
        due("but it is back", y.about(0, 4), 60);
    }

    private static void backIsOnePlate() {
        sentence = "18: A PLATE is as in STATE k again: how many CELLS changed";
        EtchBath x = new EtchBath();
        x.keep(1);
        x.bathe(0, 1);
        x.bathe(1, 1);
        x.bathe(2, 1);
        x.scrape(100, 100);
        due("back(1, 1)", x.back(1, 1), 35);
        due("first", x.about(100, 1), 0);
        due("last", x.about(135, 1), 0);
        due("the plate ahead", x.about(35, 1), 4);
        due("the plate behind", x.about(200, 1), 4);
        due("back(1, 1) again", x.back(1, 1), 0);
        x.bathe(1, 1);
        due("the state isn't bathed", x.back(1, 1), 36);
    }

    private static void notKept() {
        sentence = "17, 18: NONE: it wasn't kept; BEYOND: k isn't 0 .. 3";
        EtchBath x = new EtchBath();
        x.keep(1);
        for (int k = -2; k <= 5; k++) {
            int want = k < 0 || k > 3 ? BEYOND : k == 1 ? 0 : NONE;
            for (int plate = 0; plate < 3; plate++) {
                due("changed(" + plate + ", " + k + ")", x.changed(plate, k), want);
                due("back(" + plate + ", " + k + ")", x.back(plate, k), want);
            }
            due("changed(-1, " + k + ")", x.changed(-1, k), BEYOND);
            due("changed(3, " + k + ")", x.changed(3, k), BEYOND);
            due("back(-1, " + k + ")", x.back(-1, k), BEYOND);
            due("back(3, " + k + ")", x.back(3, k), BEYOND);
        }
    }

    // ---- Promises 19 and 20

    private static EtchBath oneDarkCell(int plate, int cell) {
        EtchBath x = new EtchBath();
        for (int c = 0; c < 36; c++) {
            if (c != cell) {
                x.stop(100 * plate + c, 1);
            }
        }
        x.bathe(plate, 10);
        return x;
    }

    private static void turnedOver() {
        sentence = "20: PLATES print turned over: row r less DOWN, column 5 less (k less RIGHT)";
        int[] weights = {1, 16, 256};
        for (int plate = 0; plate < 3; plate++) {
            for (int cell = 0; cell < 36; cell++) {
                EtchBath x = oneDarkCell(plate, cell);
                int place = cell / 6 * 6 + 5 - cell % 6;
                for (int p = 0; p < 36; p++) {
                    due("cell " + cell + ", colour(" + p + ")", x.colour(p), p == place ? weights[plate] : 0);
                }
            }
        }
    }

    private static void noSuchCellPrintsNothing() {
        sentence = "20: 0 if there is no such CELL; 19: DOWN and RIGHT are -1 .. 1";
        for (int cell : new int[] {0, 5, 14, 30, 35}) {
            for (int down = -2; down <= 2; down++) {
                for (int right = -2; right <= 2; right++) {
                    EtchBath x = oneDarkCell(1, cell);
                    boolean moves = down >= -1 && down <= 1 && right >= -1 && right <= 1;
                    due("offset(1, " + down + ", " + right + ")", x.offset(1, down, right), moves ? 1 : BEYOND);
                    int row = cell / 6 + (moves ? down : 0);
                    int column = 5 - cell % 6 + (moves ? right : 0);
                    for (int p = 0; p < 36; p++) {
                        due("cell " + cell + ", offset(1, " + down + ", " + right + "), colour(" + p + ")", x.colour(p),
                            p / 6 == row && p % 6 == column ? 16 : 0);
                    }
                }
            }
        }
        for (int plate = 0; plate < 3; plate++) {
            for (int down = -1; down <= 1; down++) {
                for (int right = -1; right <= 1; right++) {
                    dueFramed(plate, down, right);
                }
            }
        }
        EtchBath y = new EtchBath();
        y.bathe(2, 10);
        y.offset(2, -1, -1);
        y.offset(2, 0, 0);
        due("offset back to 0, first place", y.colour(0), 256);
        due("offset back to 0, last place", y.colour(35), 256);
        y.offset(0, 1, 1);
        due("another plate's offset", y.colour(0), 256);
    }

    /** One plate of three dark ones is moved: neither its own other side nor the next plate may show at its edges. */
    private static void dueFramed(int plate, int down, int right) {
        int[] weights = {1, 16, 256};
        EtchBath x = new EtchBath();
        x.bathe(0, 13);
        x.bathe(1, 13);
        x.bathe(2, 13);
        x.offset(plate, down, right);
        int sum = 0;
        for (int p = 0; p < 36; p++) {
            boolean under = p / 6 >= down && p / 6 < 6 + down && p % 6 >= right && p % 6 < 6 + right;
            int want = 273 - (under ? 0 : weights[plate]);
            due("offset(" + plate + ", " + down + ", " + right + "), colour(" + p + ")", x.colour(p), want);
            sum += want;
        }
        due("offset(" + plate + ", " + down + ", " + right + "), pull(1)", x.pull(1), sum);
    }

    private static void darkestColour() {
        sentence = "20: COLOUR: INK of PLATE 0, 16 times that of PLATE 1, and 256 times that of PLATE 2";
        EtchBath x = new EtchBath();
        x.bath(9, 4);
        for (int plate = 0; plate < 3; plate++) {
            x.bathe(plate, 200);
        }
        due("place -1", x.colour(-1), BEYOND);
        due("place 0", x.colour(0), 4095);
        due("place 35", x.colour(35), 4095);
        due("place 36", x.colour(36), BEYOND);
        EtchBath y = new EtchBath();
        y.bathe(0, 30);
        y.bathe(1, 50);
        y.bathe(2, 70);
        due("each its own", y.colour(20), 3 + 16 * 5 + 256 * 7);
    }

    // ---- Promises 21 and 22

    private static void aFiftiethIsCut() {
        sentence = "22: A PULL wears each CELL: its DEPTH is less by a fiftieth";
        int[][] pairs = {{0, 0}, {1, 1}, {49, 49}, {50, 49}, {51, 50}, {99, 98}, {100, 98}, {149, 147}, {150, 147},
            {9999, 9800}};
        for (int[] pair : pairs) {
            EtchBath x = deep(2, pair[0]);
            x.stop(200, 1);
            x.ground(201, 2);
            x.pull(1);
            due("a stopped one at " + pair[0], x.about(200, 1), pair[1]);
            due("dust at " + pair[0], x.about(201, 1), pair[1]);
            due("its life stays", x.about(201, 4), 60);
            due("the last cell at " + pair[0], x.about(235, 1), pair[1]);
        }
        EtchBath y = deep(0, 50);
        y.pull(100);
        due("worn to the end", y.about(0, 1), 49);
    }

    private static void steelHoldsAHundred() {
        sentence = "21: STEEL holds 100 PULLS from when it was put on";
        for (int plate = 0; plate < 3; plate++) {
            EtchBath x = deep(plate, 100);
            due("none yet", x.steel(plate, 1), 0);
            x.pull(100);
            due("behind 100", x.about(100 * plate, 1), 100);
            x.pull(1);
            due("behind 101", x.about(100 * plate, 1), 98);
            due("none is left", x.steel(plate, 0), 0);
        }
        EtchBath y = deep(0, 100);
        y.steel(0, 1);
        for (int i = 1; i <= 102; i++) {
            y.pull(1);
            due("behind " + i, y.about(0, 1), i <= 100 ? 100 : i == 101 ? 98 : 97);
        }
    }

    private static void steelWithinAPull() {
        sentence = "21: STEEL that ends within n PULLS; 22: of a PLATE with STEEL by nothing";
        EtchBath x = new EtchBath();
        x.bathe(0, 25);
        x.bathe(1, 25);
        x.bathe(2, 25);
        x.steel(1, 1);
        x.pull(99);
        due("the plate ahead", x.about(35, 1), 49);
        due("with steel", x.about(100, 1), 100);
        due("the plate behind", x.about(200, 1), 49);
        x.pull(3);
        due("one with, two without", x.about(100, 1), 97);
        due("the last cell", x.about(135, 1), 97);
    }

    private static void steelPutOnAgain() {
        sentence = "21: STEEL is put on a PLATE (1): how many PULLS it would have held yet";
        EtchBath x = new EtchBath();
        due("at first", x.steel(0, 1), 0);
        due("at once again", x.steel(0, 1), 100);
        x.pull(1);
        due("behind one pull", x.steel(0, 1), 99);
        x.pull(99);
        due("behind 99 more, from when it was put on", x.steel(0, 1), 1);
        x.pull(100);
        due("behind 100", x.steel(0, 1), 0);
        x.pull(100);
        x.pull(1);
        due("behind 101", x.steel(0, 1), 0);
        due("another plate", x.steel(1, 1), 0);
    }

    private static void steelTakenOff() {
        sentence = "21: or taken off (0)";
        EtchBath x = deep(0, 100);
        due("none to take off", x.steel(0, 0), 0);
        x.steel(0, 1);
        x.pull(1);
        due("taken off", x.steel(0, 0), 99);
        due("taken off already", x.steel(0, 0), 0);
        x.pull(1);
        due("it wears", x.about(0, 1), 98);
        due("is -1", x.steel(0, -1), BEYOND);
        due("is 2", x.steel(0, 2), BEYOND);
        due("still none", x.steel(0, 0), 0);
    }

    private static void pullsOneToAHundred() {
        sentence = "22: n PULLS (1 .. 100)";
        EtchBath x = deep(0, 9999);
        due("pull(0)", x.pull(0), BEYOND);
        due("pull(101)", x.pull(101), BEYOND);
        due("none was made", x.count(6), 0);
        due("nothing is worn", x.about(0, 1), 9999);
        due("pull(1)", x.pull(1), 36 * 15);
        due("pull(100)", x.pull(100), 36 * 15);
        due("count(6)", x.count(6), 101);
        int depth = 9999;
        for (int i = 0; i < 101; i++) {
            depth -= depth / 50;
        }
        due("depth behind 101", x.about(0, 1), depth);
    }

    private static void colourOfAllPlacesThen() {
        sentence = "22: COLOURS of all places together then";
        due("of white plates", new EtchBath().pull(1), 0);
        EtchBath x = new EtchBath();
        x.bath(9, 4);
        for (int plate = 0; plate < 3; plate++) {
            x.bathe(plate, 200);
        }
        due("of the darkest", x.pull(1), 36 * 4095);
        due("behind the wear, not ahead of it", deep(0, 80).pull(1), 36);
        EtchBath y = deep(0, 100);
        y.offset(0, -1, 1);
        due("what falls outside isn't there", y.pull(1), 25 * 2);
    }

    // ---- Promises 23 and 24

    private static void eightGuards() {
        sentence = "23: up to 8 GUARDS: FULL; STATE: its PLATE isn't that of the first one";
        EtchBath x = new EtchBath();
        due("the first", x.guard(135, 0, 15), 1);
        due("the plate ahead", x.guard(35, 0, 15), STATE);
        due("the plate behind", x.guard(200, 0, 15), STATE);
        for (int i = 1; i < 8; i++) {
            due("guard", x.guard(100 + i, 0, 15), 1 + i);
        }
        due("the ninth", x.guard(100, 0, 15), FULL);
        due("count(2)", x.count(2), 8);
        due("edition()", x.edition(), 300);
        due("the first of another plate", x.guard(35, 0, 15), 1);
        due("a wish's plate doesn't count", x.wish(200, 0), 1);
        due("the second", x.guard(34, 0, 15), 2);
    }

    private static void tonesOfAGuard() {
        sentence = "23: two TONES (the first one not above the other)";
        for (int low = -2; low <= 17; low++) {
            for (int high = -2; high <= 17; high++) {
                boolean right = low >= 0 && low <= high && high <= 15;
                EtchBath x = new EtchBath();
                due("guard(0, " + low + ", " + high + ")", x.guard(0, low, high), right ? 1 : BEYOND);
                due("count(2)", x.count(2), right ? 1 : 0);
            }
        }
        EtchBath y = new EtchBath();
        due("MIN", y.guard(0, MIN, 0), BEYOND);
        due("MAX", y.guard(0, 0, MAX), BEYOND);
    }

    private static void dueEdition(int depth, int low, int high, boolean steel, int want) {
        EtchBath x = deep(0, depth);
        x.steel(0, steel ? 1 : 0);
        x.guard(0, low, high);
        due("edition() at " + depth + " for " + low + " .. " + high + (steel ? " with steel" : ""), x.edition(), want);
    }

    private static void threeHundredAtMost() {
        sentence = "24: HOW MANY PULLS can be made (300 at most)";
        dueEdition(0, 0, 0, false, 300);
        dueEdition(0, 0, 0, true, 300);
        dueEdition(49, 1, 1, false, 300);
        dueEdition(9999, 1, 15, true, 300);
        // These wear out of their span behind 199, 200 and 201 pulls without steel.
        dueEdition(2939, 2, 15, true, 299);
        dueEdition(2998, 2, 15, true, 300);
        dueEdition(3059, 2, 15, true, 300);
        dueEdition(2939, 2, 15, false, 199);
        dueEdition(2998, 2, 15, false, 200);
        dueEdition(3059, 2, 15, false, 201);
    }

    private static void editionBehindTheLast() {
        sentence = "24: until (behind the last of them) each GUARD's CELL has still a TONE from its first to its other one";
        dueEdition(80, 2, 2, false, 0);
        dueEdition(81, 2, 2, false, 1);
        dueEdition(80, 2, 2, true, 100);
        dueEdition(81, 2, 2, true, 101);
        dueEdition(80, 1, 2, false, 300);
        dueEdition(600, 15, 15, false, 0);
        dueEdition(612, 15, 15, false, 1);
        dueEdition(611, 15, 15, false, 0);
        EtchBath x = deep(0, 200);
        x.guard(0, 4, 5);
        int pulls = x.edition();
        x.pull(pulls);
        due("tone behind the last", x.about(0, 3), 4);
        x.pull(1);
        due("tone behind one more", x.about(0, 3), 3);
        EtchBath y = deep(2, 100);
        y.scrape(203, 1);
        y.steel(2, 1);
        y.pull(100);
        y.guard(200, 2, 2);
        y.guard(235, 0, 15);
        y.guard(203, 2, 15);
        due("the least of three, when the steel is gone", y.edition(), 9);
    }

    private static void noneIfOneHasntNow() {
        sentence = "24: none, if one hasn't now";
        dueEdition(80, 0, 1, false, 0);
        dueEdition(80, 3, 15, false, 0);
        dueEdition(80, 0, 1, true, 0);
        dueEdition(80, 3, 15, true, 0);
        dueEdition(79, 0, 1, false, 300);
        dueEdition(9999, 0, 14, false, 0);
        for (int bad = 0; bad < 8; bad++) {
            EtchBath x = deep(1, 40);
            for (int i = 0; i < 8; i++) {
                x.guard(100 + i, i == bad ? 2 : 0, 15);
            }
            due("guard " + bad + " hasn't", x.edition(), 0);
        }
    }

    private static void guardsAreGone() {
        sentence = "24: these are gone then. NONE: there are none";
        EtchBath x = new EtchBath();
        due("at first", x.edition(), NONE);
        x.guard(0, 1, 1);
        due("one", x.edition(), 0);
        due("count(2)", x.count(2), 0);
        due("gone", x.edition(), NONE);
        x.guard(0, 3, 2);
        due("a refused one isn't there", x.edition(), NONE);
        due("the next", x.guard(0, 0, 0), 1);
        due("the next edition", x.edition(), 300);
    }

    private static void editionChangesNothingElse() {
        sentence = "24: Nothing else changes";
        EtchBath x = deep(0, 100);
        x.keep(0);
        x.steel(0, 1);
        x.guard(0, 0, 15);
        due("edition()", x.edition(), 300);
        due("changed", x.changed(0, 0), 0);
        due("pulls", x.count(6), 0);
        due("steel", x.steel(0, 0), 100);
        x.guard(0, 2, 15);
        due("edition() without steel", x.edition(), 19);
        due("changed", x.changed(0, 0), 0);
        due("steel", x.steel(0, 0), 0);
    }

    // ---- Promises 25 to 28

    private static void thirtySixWait() {
        sentence = "25: FULL: 36 wait";
        EtchBath x = new EtchBath();
        for (int i = 0; i < 36; i++) {
            due("tell", x.tell(0), 1 + i);
        }
        due("the 37th", x.tell(9), FULL);
        due("count(4)", x.count(4), 36);
        due("the 37th isn't there", x.check(0), 0);
        due("count(4) then", x.count(4), 0);
        due("tell again", x.tell(0), 1);
    }

    private static void firstThatIsnt() {
        sentence = "26: 0 if they are; 1 and i for the first (from 0 on) that isn't";
        for (int bad = 0; bad < 36; bad++) {
            EtchBath x = new EtchBath();
            x.bathe(2, 20);
            for (int i = 0; i < 36; i++) {
                x.tell(i == bad ? 3 : 2);
            }
            due("number " + bad + " isn't", x.check(2), 1 + bad);
        }
        EtchBath y = new EtchBath();
        y.tell(0);
        y.tell(1);
        y.tell(1);
        due("the first of two", y.check(0), 2);
        EtchBath z = oneDarkCell(1, 35);
        for (int i = 0; i < 36; i++) {
            z.tell(i == 35 ? 1 : 0);
        }
        due("tones of cells 0, 1, .. 35", z.check(1), 0);
        EtchBath u = deep(0, 9999);
        u.tell(15);
        due("15 at most", u.check(0), 0);
    }

    private static void noneWait() {
        sentence = "26: The numbers that wait (none do then)";
        EtchBath x = new EtchBath();
        for (int plate = 0; plate < 3; plate++) {
            due("check of none", x.check(plate), 0);
        }
        x.tell(5);
        due("wrong", x.check(0), 1);
        due("gone when wrong", x.check(0), 0);
        x.tell(0);
        due("right", x.check(0), 0);
        due("gone when right", x.count(4), 0);
        for (int plate : new int[] {MIN, -1, 3, MAX}) {
            x.tell(5);
            x.tell(5);
            due("check(" + plate + ")", x.check(plate), BEYOND);
            due("gone, too", x.count(4), 0);
            due("check of none", x.check(0), 0);
        }
        due("no plate and no number", x.check(3), BEYOND);
    }

    private static void anyNumberWaits() {
        sentence = "25: One more number waits (any)";
        for (int v : new int[] {MIN, -1000001, -1, 16, MAX}) {
            EtchBath x = new EtchBath();
            due("tell(" + v + ")", x.tell(v), 1);
            due("check(0)", x.check(0), 1);
            due("found(1)", x.found(1), 0);
        }
    }

    private static void countsAtTheirEnds() {
        sentence = "27: counts at their ends; BEYOND: another what";
        EtchBath x = new EtchBath();
        for (int c = 0; c < 36; c++) {
            for (int plate = 0; plate < 3; plate++) {
                x.stop(100 * plate + c, 1);
            }
        }
        due("all are stopped", x.count(5), 108);
        x.clean(0);
        for (int i = 0; i < 8; i++) {
            x.wish(i, 0);
            x.guard(i, 0, 0);
            x.keep(i % 4);
        }
        for (int i = 0; i < 36; i++) {
            x.tell(i);
        }
        for (int i = 0; i < 20; i++) {
            x.pull(100);
        }
        x.bath(9, 4);
        int[] want = {13, 8, 8, 4, 36, 72, 2000};
        for (int what = 0; what <= 6; what++) {
            due("count(" + what + ")", x.count(what), want[what]);
        }
        x.work();
        due("stopped by the work", x.count(5), 80);
        due("count(-1)", x.count(-1), BEYOND);
        due("count(7)", x.count(7), BEYOND);
    }

    private static void foundCountsItself() {
        sentence = "28: found(k), k 1 .. 5; BEYOND: another k (counted, too)";
        EtchBath x = new EtchBath();
        int beyond = 0;
        for (int k : new int[] {MIN, -1000001, -1, 0, 6, 7, MAX}) {
            due("found(" + k + ")", x.found(k), BEYOND);
            beyond++;
            due("found(1)", x.found(1), beyond);
        }
        for (int k = 2; k <= 5; k++) {
            due("found(" + k + ")", x.found(k), 0);
        }
        due("found(1) itself isn't counted", x.found(1), beyond);
    }
}
