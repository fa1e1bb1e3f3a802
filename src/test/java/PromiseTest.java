/** Each promise of the document by itself: what it answers, its edges, and what it refuses. */
public final class PromiseTest {
    private PromiseTest() {
    }

    public static void main(String[] args) {
        newObject();
        sections();
        evens();
        levels();
        layers();
        jobs();
        plants();
        trucks();
        heats();
        weathers();
        rollers();
        sorts();
        feeds();
        ends();
        hoursTexts();
        hoursFaults();
        rateTexts();
        rateFaults();
        faults();
        worlds();
        runs();
        refusals();
        shutAndOpen();
        firm();
        plantsByTurns();
        paces();
        fewest();
        loads();
        tonnes();
        laid();
        joints();
        rolling();
        means();
        tells();
        pays();
        cores();
        abouts();
        Check.end("PromiseTest");
    }

    /** Sections of old level 0, one layer of 20 mm: 4 tonnes for each 10 m. A plant one minute away. */
    private static BlackRoad small(int sections, int length, int trucks) {
        BlackRoad x = new BlackRoad();
        for (int s = 0; s < sections; s++) x.section(length, 0);
        x.layer(20, 0);
        x.plant(0, 10, 200, 1);
        x.trucks(trucks, 5);
        Check.hours(x, "haul 0 1 from 0;");
        return x;
    }

    private static void newObject() {
        // Promise 1, "No SECTIONS, LAYERS, PLANTS, ROLLERS; no HOURS."
        // The constants, "The constants: `NONE = -1`: None."
        BlackRoad x = new BlackRoad();
        int[] due = {0, 0, 0, 6, 20, 0, 0, 1, 0, 0, 0};
        for (int what = 0; what < due.length; what++) Check.same("1: about " + what, x.about(what), due[what]);
        Check.same("1: levels", x.levels(), -1);
        Check.same("1: level", x.level(0), -1);
        Check.same("1: job", x.job(0, 0), -1);
        Check.same("1: fault", x.fault(0), -1);
        Check.same("1: fault place", x.fault(1), -1);
        Check.same("1: run", x.run(0, 1, 0), -1);
        Check.same("1: pace", x.pace(), -1);
        Check.same("1: fewest", x.fewest(1), -1);
        Check.same("1: load", x.load(0, 1, 0, 0), -1);
        Check.same("1: tonne", x.tonne(0, 1, 0), -1);
        Check.same("1: laid", x.laid(0, 1, 0, 0), -1);
        Check.same("1: mean", x.mean(0, 1, 0, 0), -1000);
        Check.same("1: pay", x.pay(0, 1, 1, 1), -1);
        Check.same("1: core", x.core(1, 1, 0), -1);
        Check.same("1: tells", x.tells(5, 6, 7, 8), 5);
        Check.same("1: open", x.world(0, 0, 0), 1);
        Check.same("1: open at last", x.world(0, 4319, 0), 1);
        Check.same("1: haul", x.world(0, 0, 3), 20);
        Check.same("1: shut", x.world(0, 0, 6), 0);
        Check.same("1: NONE", BlackRoad.NONE, -1);
    }

    private static void sections() {
        // Promise 2, "A SECTION: its number. NONE for others, or if there are 12."
        BlackRoad x = new BlackRoad();
        Check.same("2: short", x.section(9, 0), -1);
        Check.same("2: long", x.section(501, 0), -1);
        Check.same("2: low", x.section(10, -1), -1);
        Check.same("2: high", x.section(10, 61), -1);
        Check.same("2: least", x.section(Integer.MIN_VALUE, 0), -1);
        Check.same("2: none came", x.about(0), 0);
        Check.same("2: first", x.section(10, 0), 0);
        Check.same("2: second", x.section(500, 60), 1);
        for (int s = 2; s < 12; s++) Check.same("2: number", x.section(100, 30), s);
        Check.same("2: thirteenth", x.section(100, 30), -1);
        Check.same("2: twelve", x.about(0), 12);
    }

    private static void evens() {
        // Promise 3, "WIDE, SMOOTH, DEEP, MILL, LAY: true. False, changing nothing, for others."
        BlackRoad x = new BlackRoad();
        x.section(100, 10);
        x.section(100, 20);
        x.layer(20, 0);
        int[] low = {20, 0, 0, 1, 1};
        int[] high = {120, 9, 20, 9, 9};
        for (int i = 0; i < 5; i++) {
            for (int step = 0; step < 4; step++) {
                int[] v = {70, 2, 10, 2, 3};
                v[i] = new int[] {low[i] - 1, low[i], high[i], high[i] + 1}[step];
                boolean fits = step == 1 || step == 2;
                Check.same("3: even " + i + " " + step, x.even(v[0], v[1], v[2], v[3], v[4]) ? 1 : 0, fits ? 1 : 0);
                if (fits) x.even(70, 2, 10, 2, 3);
                Check.same("3: nothing changed", x.levels(), 16);
                Check.same("3: nor the width", x.about(9), 68);
            }
        }
        Check.yes("3: wide", x.even(120, 2, 10, 2, 3));
        Check.same("3: tonnes by width", x.job(1, 3), 58);
        Check.yes("3: dear", x.even(70, 2, 10, 9, 9));
        Check.same("3: cost", x.levels(), 72);
        Check.yes("3: not deep", x.even(70, 9, 0, 1, 9));
        Check.same("3: only filled", x.levels(), 9);
        Check.same("3: up", x.level(0), 11);
    }

    private static void levels() {
        // Promise 4, "COST of THE BEST LEVELS. NONE: no SECTIONS, or there are none such."
        // Promise 5, "The NEW LEVEL of a SECTION. NONE for others, and as levels()."
        // Terms I, "THE BEST LEVELS: the least COST; of like ones the first by SECTIONS, the lower first."
        BlackRoad x = new BlackRoad();
        Check.same("4: no sections", x.levels(), -1);
        Check.same("5: no sections", x.level(0), -1);
        x.section(100, 60);
        Check.same("4: as it is", x.levels(), 0);
        Check.same("5: as it is", x.level(0), 60);
        x.section(100, 0);
        x.even(70, 0, 20, 1, 1);
        // one height for both, from 40 (60 less 20) on, costs 60 up to 60 : the lowest of them
        Check.same("4: 60", x.levels(), 60);
        Check.same("5: the lower first", x.level(0), 40);
        Check.same("5: the other", x.level(1), 40);
        Check.same("5: behind the last", x.level(2), -1);
        Check.same("5: below 0", x.level(-1), -1);
        x.even(70, 0, 20, 2, 1);
        Check.same("4: milling dear", x.levels(), 60);
        Check.same("5: milling dear", x.level(0), 60);

        BlackRoad y = new BlackRoad();
        y.section(10, 10);
        y.section(10, 20);
        y.section(10, 10);
        y.even(70, 5, 20, 1, 1);
        // the middle down by 5, or its neighbours up: 15 or 10 + 10; down by 5 is 5
        Check.same("4: a hump", y.levels(), 5);
        Check.same("5: before", y.level(0), 10);
        Check.same("5: the hump", y.level(1), 15);
        Check.same("5: behind", y.level(2), 10);
        y.even(70, 5, 20, 9, 4);
        // each mm of the hump: 9 by milling, 8 by filling both
        Check.same("4: filled", y.levels(), 40);
        Check.same("5: filled", y.level(0), 15);
        y.even(70, 5, 2, 1, 4);
        Check.same("4: two down, three up on both", y.levels(), 2 + 24);
        Check.same("5: as deep as may be", y.level(1), 18);
        y.even(70, 5, 20, 2, 1);
        // 2 for each by milling, 2 by filling both: of like ones the lower first
        Check.same("4: alike", y.levels(), 10);
        Check.same("5: alike", y.level(0), 10);
        Check.same("5: alike in the middle", y.level(1), 15);
    }

    private static void layers() {
        // Promise 6, "A LAYER: its number. NONE for others, or if there are 3."
        BlackRoad x = new BlackRoad();
        Check.same("6: thin", x.layer(19, 0), -1);
        Check.same("6: thick", x.layer(201, 0), -1);
        Check.same("6: kind below", x.layer(20, -1), -1);
        Check.same("6: kind above", x.layer(20, 3), -1);
        Check.same("6: none came", x.about(1), 0);
        Check.same("6: first", x.layer(20, 0), 0);
        Check.same("6: second", x.layer(200, 2), 1);
        Check.same("6: third", x.layer(50, 1), 2);
        Check.same("6: fourth", x.layer(50, 1), -1);
        Check.same("6: three", x.about(1), 3);
    }

    private static void jobs() {
        // Promise 7, "Of a JOB: 0 SECTION, 1 LAYER, 2 DEPTH, 3 TONNES. NONE for others, and without LEVELS."
        // Terms I, "TONNES: LONG * WIDE * DEPTH * 24 / 100000, one more if that isn't whole."
        BlackRoad x = new BlackRoad();
        x.layer(20, 0);
        Check.same("7: without sections", x.job(0, 3), -1);
        x.section(500, 0);
        x.section(10, 60);
        x.layer(200, 1);
        x.even(120, 9, 20, 9, 1);
        // the first comes up to 51 beside 60
        Check.same("7: level", x.level(0), 51);
        int[][] due = {{0, 0, 71, 1023}, {1, 0, 20, 6}, {0, 1, 200, 2880}, {1, 1, 200, 58}};
        for (int j = 0; j < 4; j++) {
            for (int what = 0; what < 4; what++) Check.same("7: job " + j + " " + what, x.job(j, what), due[j][what]);
        }
        Check.same("7: job -1", x.job(-1, 0), -1);
        Check.same("7: job 4", x.job(4, 0), -1);
        Check.same("7: what -1", x.job(0, -1), -1);
        Check.same("7: what 4", x.job(0, 4), -1);
        BlackRoad y = new BlackRoad();
        y.section(250, 0);
        y.layer(20, 0);
        y.even(100, 2, 10, 2, 3);
        Check.same("7: whole tonnes", y.job(0, 3), 120);
        BlackRoad w = new BlackRoad();
        w.section(483, 0);
        w.layer(192, 0);
        w.even(113, 2, 10, 2, 3);
        Check.same("7: 2515 and 32 / 100000", w.job(0, 3), 2516);
        BlackRoad z = new BlackRoad();
        z.section(10, 0);
        z.layer(20, 0);
        z.even(20, 2, 10, 2, 3);
        Check.same("7: less than one", z.job(0, 3), 1);
    }

    private static void plants() {
        // Promise 8, "A PLANT: its number. NONE for others, or if there are 3."
        BlackRoad x = new BlackRoad();
        int[] low = {0, 1, 10, 1};
        int[] high = {2, 10, 200, 20};
        for (int i = 0; i < 4; i++) {
            int[] v = {1, 5, 100, 5};
            v[i] = low[i] - 1;
            Check.same("8: below " + i, x.plant(v[0], v[1], v[2], v[3]), -1);
            v[i] = high[i] + 1;
            Check.same("8: above " + i, x.plant(v[0], v[1], v[2], v[3]), -1);
        }
        Check.same("8: none came", x.about(2), 0);
        Check.same("8: least", x.plant(0, 1, 10, 1), 0);
        Check.same("8: most", x.plant(2, 10, 200, 20), 1);
        Check.same("8: third", x.plant(2, 10, 200, 20), 2);
        Check.same("8: fourth", x.plant(2, 10, 200, 20), -1);
        Check.same("8: three", x.about(2), 3);
        BlackRoad y = small(1, 10, 1);
        BlackRoad z = new BlackRoad();
        z.section(10, 0);
        z.layer(20, 0);
        z.plant(0, 10, 200, 20);
        z.trucks(1, 5);
        Check.hours(z, "haul 0 1 from 0;");
        Check.same("8: filled in a minute", y.run(0, 20, 1), 3);
        Check.same("8: filled in twenty", z.run(0, 20, 1), 22);
    }

    private static void trucks() {
        // Promise 9, "TRUCKS, CARRY: true. False, changing nothing, for others."
        BlackRoad x = new BlackRoad();
        Check.no("9: no trucks", x.trucks(0, 20));
        Check.no("9: many", x.trucks(17, 20));
        Check.no("9: light", x.trucks(6, 4));
        Check.no("9: heavy", x.trucks(6, 31));
        Check.same("9: trucks stay", x.about(3), 6);
        Check.same("9: carry stays", x.about(4), 20);
        Check.yes("9: least", x.trucks(1, 5));
        Check.same("9: one", x.about(3), 1);
        Check.same("9: five", x.about(4), 5);
        Check.yes("9: most", x.trucks(16, 30));
        Check.same("9: sixteen", x.about(3), 16);
        Check.same("9: thirty", x.about(4), 30);
    }

    private static void heats() {
        // Promise 10, "HOT, KEEP, REFUSE, FIRM, JOIN: true. False, changing nothing, for others."
        BlackRoad x = small(2, 10, 1);
        int[] low = {100, 1, 0, 0, 0};
        int[] high = {200, 20, 200, 200, 200};
        for (int i = 0; i < 5; i++) {
            int[] v = {160, 4, 110, 80, 70};
            v[i] = low[i] - 1;
            Check.no("10: below " + i, x.heat(v[0], v[1], v[2], v[3], v[4]));
            v[i] = high[i] + 1;
            Check.no("10: above " + i, x.heat(v[0], v[1], v[2], v[3], v[4]));
        }
        Check.same("10: nothing changed", x.load(0, 20, 0, 7), 160);
        Check.yes("10: least", x.heat(100, 1, 0, 0, 0));
        Check.same("10: cold mix", x.load(0, 20, 0, 7), 98);
        Check.yes("10: most", x.heat(200, 20, 200, 200, 200));
        Check.same("10: hot mix", x.load(0, 20, 0, 7), 200);
        Check.yes("10: keeps badly", x.heat(200, 2, 200, 200, 200));
        Check.same("10: all are refused", x.run(0, 20, 1), -1);
    }

    private static void weathers() {
        // Promise 11, "AIR, GROUND, W, G: true. False, changing nothing, for others."
        BlackRoad x = small(1, 10, 1);
        int[] low = {-20, -20, 1, 1};
        int[] high = {50, 60, 200, 200};
        for (int i = 0; i < 4; i++) {
            int[] v = {15, 20, 60, 40};
            v[i] = low[i] - 1;
            Check.no("11: below " + i, x.weather(v[0], v[1], v[2], v[3]));
            v[i] = high[i] + 1;
            Check.no("11: above " + i, x.weather(v[0], v[1], v[2], v[3]));
        }
        Check.same("11: nothing changed", x.mean(0, 20, 0, 2), 154);
        Check.yes("11: least", x.weather(-20, -20, 1, 1));
        // 180 * 1 / 1000 is cut to nothing
        Check.same("11: keeps all", x.mean(0, 20, 0, 600), 160);
        Check.yes("11: most", x.weather(50, 60, 200, 200));
        // 110 * 200 / 1000 = 22 and 100 * 200 / 1000 = 20 go: 758 / 5
        Check.same("11: loses much", x.mean(0, 20, 0, 1), 151);
        Check.yes("11: air alone", x.weather(-20, 60, 200, 1));
        // 180 * 200 / 1000 = 36: 764 / 5
        Check.same("11: to the air", x.mean(0, 20, 0, 1), 152);
        Check.yes("11: ground alone", x.weather(50, -20, 1, 200));
        Check.same("11: to the ground", x.mean(0, 20, 0, 1), 152);
    }

    private static void rollers() {
        // Promise 12, "A ROLLER: its number. NONE for others, or if there are 6."
        BlackRoad x = small(1, 10, 1);
        Check.same("12: sort below", x.roller(-1, 10), -1);
        Check.same("12: sort above", x.roller(3, 10), -1);
        Check.same("12: slow", x.roller(0, 9), -1);
        Check.same("12: fast", x.roller(0, 101), -1);
        Check.same("12: none came", x.about(5), 0);
        Check.same("12: nothing rolled", x.laid(0, 20, 0, 4), 2);
        Check.same("12: first", x.roller(0, 10), 0);
        Check.same("12: it rolls", x.laid(0, 20, 0, 4), 0);
        Check.same("12: second", x.roller(2, 100), 1);
        for (int r = 2; r < 6; r++) Check.same("12: number", x.roller(1, 50), r);
        Check.same("12: seventh", x.roller(1, 50), -1);
        Check.same("12: six", x.about(5), 6);
    }

    private static void sorts() {
        // Promise 13, "Of a SORT TOP, LOW, PASSES: true. False, changing nothing, for others."
        BlackRoad x = small(1, 10, 1);
        x.roller(0, 10);
        int[][] bad = {{-1, 150, 110, 2}, {3, 150, 110, 2}, {0, 201, 110, 2}, {0, -1, -1, 2}, {0, 150, -1, 2},
            {0, 110, 111, 2}, {0, 150, 201, 2}, {0, 150, 110, -1}, {0, 150, 110, 10}};
        for (int[] v : bad) Check.no("13: sort", x.sort(v[0], v[1], v[2], v[3]));
        Check.same("13: nothing changed", x.laid(0, 20, 0, 7), 9);
        Check.yes("13: least", x.sort(0, 0, 0, 0));
        Check.same("13: none to miss", x.laid(0, 20, 0, 4), 0);
        Check.same("13: none made", x.laid(0, 20, 0, 7), -1);
        Check.yes("13: most", x.sort(0, 200, 200, 9));
        Check.same("13: never so hot", x.laid(0, 20, 0, 4), 9);
        Check.yes("13: at once", x.sort(0, 157, 157, 9));
        Check.same("13: one minute of it", x.laid(0, 20, 0, 4), 8);
        Check.same("13: over", x.laid(0, 20, 0, 7), 5);
    }

    private static void feeds() {
        // Promise 14, "Twenty bytes come behind the tape, the highest of a first: how many it has. NONE, and none come, if
        // .. there would be more than 400."
        BlackRoad x = new BlackRoad();
        for (int i = 1; i <= 20; i++) Check.same("14: feed " + i, x.feed(0, 0, 0, 0, 0), 20 * i);
        Check.same("14: one too many", x.feed(0, 0, 0, 0, 0), -1);
        Check.same("14: none came", x.about(10), 400);
        x.end(381);
        Check.same("14: nineteen fit", x.feed(0, 0, 0, 0, 0), -1);
        Check.same("14: as before", x.about(10), 381);
        x.end(380);
        Check.same("14: twenty fit", x.feed(0, 0, 0, 0, 0), 400);
        // "1000", " + t", "*-d ", "/ j ", "- m*"
        BlackRoad y = new BlackRoad();
        Check.same("14: bytes", y.feed(0x31303030, 0x202B2074, 0x2A2D6420, 0x2F206A20, 0x2D206D2A), 20);
        Check.same("14: behind them", y.feed(0x32202020, 0, 0, 0, 0x80FFFF7F), 40);
        y.end(21);
        Check.yes("14: read in their order", y.rate());
        Check.same("14: 1000 + 7*-90/1 - 3*2", y.tells(7, 90, 1, 3), 364);
        y.feed(0x74202020, 0x20202020, 0x20202020, 0x20202020, 0x202020FF);
        Check.no("14: the last byte counts", y.rate());
        Check.same("14: its place", y.fault(1), 19);
    }

    private static void ends() {
        // Promise 15, "The tape has its first n bytes alone: n. NONE, and nothing is done, if it has not so many, or n is
        // .. below 0."
        BlackRoad x = new BlackRoad();
        Check.same("15: empty", x.end(0), 0);
        Check.same("15: more than none", x.end(1), -1);
        x.feed(1, 2, 3, 4, 5);
        Check.same("15: not so many", x.end(21), -1);
        Check.same("15: below 0", x.end(-1), -1);
        Check.same("15: least", x.end(Integer.MIN_VALUE), -1);
        Check.same("15: nothing done", x.about(10), 20);
        Check.same("15: all", x.end(20), 20);
        Check.same("15: some", x.end(7), 7);
        Check.same("15: those", x.about(10), 7);
        Check.same("15: not again", x.end(8), -1);
    }

    private static void hoursTexts() {
        // Promise 16, "The tape (empty then) becomes HOURS: how many CLAUSES."
        // Terms II, "3 the 41st CLAUSE (at its word)."
        BlackRoad x = new BlackRoad();
        Check.same("16: empty", Check.hours(x, ""), 0);
        Check.same("16: blanks", Check.hours(x, "  \n \n"), 0);
        Check.same("16: all five", Check.hours(x,
                "haul 2 120 from 4319 ; shut 0 0 to 4319; open 5 to 5;\nrain 4319 to 4319; world 0;"), 5);
        Check.same("16: clauses", x.about(6), 5);
        Check.same("16: worlds", x.about(7), 1);
        Check.same("16: tape", x.about(10), 0);
        Check.same("16: close together", Check.hours(x, "haul 0 9from7;world0;shut1 2to3;"), 3);
        Check.same("16: naughts", Check.hours(x, "haul 002 00000000000000000007 from 000;"), 1);
        Check.same("16: haul", x.world(0, 0, 3), 7);
        Check.same("16: three worlds", Check.hours(x, "world 0;world 1;world 2;"), 3);
        Check.same("16: three", x.about(7), 3);
        String forty = "open0to0;".repeat(40);
        Check.same("16: forty", Check.hours(x, forty), 40);
        Check.same("16: a full tape", Check.hours(x, forty + " ".repeat(40)), 40);
        Check.same("16: worlds again", x.about(7), 1);
        Check.badHours(x, forty + "open", 3, 360);
        Check.same("16: the former stay", x.about(6), 40);
        Check.same("16: open at 0", x.world(0, 0, 0), 1);
        Check.same("16: not at 1", x.world(0, 1, 0), 0);
    }

    private static void hoursFaults() {
        // Promise 16, "NONE: it has a FAULT, the former ones stay."
        // Terms II, "1 it can't stand there, or is none. 2 a NUMBER that isn't one of those told."
        BlackRoad x = new BlackRoad();
        Check.hours(x, "world 0; rain 0 to 9; world 1;");
        String[] texts = {"x;", ";", "7", "Open 0 to 1;", "opens 0 to 1;", "open 0 1;", "open 0 to to 1;", "open 0 to 1",
            "open 0 to 1 ", "open", "open ;", "haul 0 1 0;", "haul 0 1 to 0;", "shut 0 0 from 1;", "open 0 to 1;;",
            "open 0 to 1;?", "open 0 to 1;\t", "open 0, to 1;", "world ;", "rain 0 to 1; \u00e9", "openz 0 to 1;",
            "opena 0 to 1;", "openA 0 to 1;", "openZ 0 to 1;", "open{0 to 1;", "open`0 to 1;", "open@0 to 1;",
            "open[0 to 1;", "open/0 to 1;", "open:0 to 1;"};
        int[] places = {0, 0, 0, 0, 0, 7, 10, 11, 12, 4, 5, 9, 9, 9, 12, 12, 12, 6, 6, 13, 0, 0, 0, 0, 4, 4, 4, 4, 4, 4};
        for (int i = 0; i < texts.length; i++) Check.badHours(x, texts[i], 1, places[i]);
        String[] numbers = {"haul 3 1 from 0;", "haul 0 0 from 0;", "haul 0 121 from 0;", "haul 0 1 from 4320;",
            "shut 3 0 to 0;", "shut 0 4320 to 4320;", "shut 0 9 to 8;", "shut 0 9 to 4320;", "open 4320 to 4320;",
            "open 9 to 8;", "rain 9 to 8;", "rain 0 to 4320;", "world 1;", "world 0;world 0;", "world 0;world 2;",
            "world 0;world 1;world 2;world 3;", "world 0;world 1;world 2;world 2;",
            "open 0 to 18446744073709551616;", "open 4294967296 to 4319;"};
        int[] where = {5, 7, 7, 14, 5, 7, 12, 12, 5, 10, 10, 10, 6, 14, 14, 30, 30, 10, 5};
        for (int i = 0; i < numbers.length; i++) Check.badHours(x, numbers[i], 2, where[i]);
        // a word that is none is the lesser fault, and the first fault counts
        Check.badHours(x, "open0to0;".repeat(40) + "opan", 1, 360);
        Check.badHours(x, "open 5000 to x", 2, 5);
        Check.badHours(x, "open x to 5000", 1, 5);
        Check.same("16: the former stay", x.about(6), 3);
        Check.same("16: and their worlds", x.about(7), 2);
        Check.same("16: and their rain", x.world(0, 9, 0), 0);
    }

    private static void rateTexts() {
        // Promise 17, "The tape (empty then) becomes THE RATE: true."
        // Promise 17, "or (the tape stays) more than 100 bytes."
        // Terms V, "From the left; / cuts towards 0, by 0 it is 0; what is above 1000000000 (below the same less) is that,
        // .. at each step."
        BlackRoad x = new BlackRoad();
        Check.tells(x, "t", 7);
        Check.tells(x, " d\n", 90);
        Check.tells(x, "j", 1);
        Check.tells(x, "m", 3);
        Check.tells(x, "0009999", 9999);
        Check.tells(x, "t-d-m", -86);
        Check.tells(x, "d/t/m", 4);
        Check.tells(x, "t+d*m", 277);
        Check.tells(x, "(t+d)*m", 291);
        Check.tells(x, "d/t*t", 84);
        Check.tells(x, "-d/t", -12);
        Check.tells(x, "d/-t", -12);
        Check.tells(x, "0-t/2", -3);
        Check.tells(x, "-t/2", -3);
        Check.tells(x, "t--m", 10);
        Check.tells(x, "t*-m", -21);
        Check.tells(x, "d/0", 0);
        Check.tells(x, "d/(j-1)+5", 5);
        Check.tells(x, "min(t,d)", 7);
        Check.tells(x, "max (t , d)", 90);
        Check.tells(x, "min(-t,max(m,4))", -7);
        Check.tells(x, "9999*9999*9999", 1000000000);
        Check.tells(x, "9999*9999*-9999", -1000000000);
        Check.tells(x, "9999*9999*9999-1", 999999999);
        Check.tells(x, "-9999*9999*9999-1+2", -999999998);
        Check.tells(x, "9999*9999*9999*9999/9999", 100010);
        Check.tells(x, "9999*9999*10+9999*9999*10-1", 999999999);
        Check.tells(x, "((((((((t))))))))", 7);
        Check.tells(x, "--------t", 7);
        Check.tells(x, "-(-(-(-(t))))", 7);
        Check.tells(x, "(t)+(t)+(t)+(t)+(t)+(t)+(t)+(t)+(t)+(t)", 70);
        Check.tells(x, "-t+-t+-t+-t+-t+-t+-t+-t+-t+-t", -70);
        Check.tells(x, "t-t-t-t-t-t-t-t-t-t-t-t", -70);
        Check.tells(x, "(((((((min((t),-t))))))))".replace("(t),-t", "t,d"), 7);
        String hundred = "t" + "+t".repeat(49) + " ";
        Check.tells(x, hundred, 350);
        Check.put(x, hundred + " ");
        Check.no("17: 101 bytes", x.rate());
        Check.same("17: the tape stays", x.about(10), 101);
        Check.same("17: it wasn't read", x.fault(0), 0);
        Check.same("17: the former stays", x.tells(2, 0, 0, 0), 100);
        x.end(100);
        Check.yes("17: a hundred", x.rate());
        Check.same("17: the tape is empty", x.about(10), 0);
    }

    private static void rateFaults() {
        // Promise 17, "False: it has a FAULT, the former one stays;"
        // Terms V, "FAULTS as above: 1, 2, and 3 the 9th of ( and - that are open around one another (at it)."
        BlackRoad x = new BlackRoad();
        Check.yes("17: rate", Check.rate(x, "t*2"));
        String[] texts = {"", "  ", "x", "tt", "T", "td", "t d", "t 5", "5 t", "t+", "t*", "*t", "+t", "()", "(t", "t)",
            "(t))", "min", "min t", "min(t)", "min(t,)", "min(t,d", "min(t,d,j)", "min(t;d)", "minn(t,d)", "t,d", ",",
            "t?", "t\t", "t.5", "5t", "-", "t/", "max(,t)", "min(t,d", "Min(t,d)", "t+ +t", "t**d", "12 34", "t 99999"};
        int[] places = {0, 2, 0, 0, 0, 0, 2, 2, 2, 2, 2, 0, 0, 1, 2, 1, 3, 3, 4, 5, 6, 7, 7, 5, 0, 1, 0,
            1, 1, 1, 1, 1, 2, 4, 7, 0, 3, 2, 3, 2};
        for (int i = 0; i < texts.length; i++) Check.badRate(x, texts[i], 1, places[i]);
        Check.badRate(x, "10000", 2, 0);
        Check.badRate(x, "t+99999999999999999999", 2, 2);
        Check.badRate(x, "4294967297", 2, 0);
        Check.badRate(x, "(((((((((t)))))))))", 3, 8);
        Check.badRate(x, "---------t", 3, 8);
        Check.badRate(x, "-(-(-(-( -t", 3, 9);
        Check.badRate(x, "(((((((( min (t,d)", 3, 13);
        Check.badRate(x, "max(t,max(t,max(t,max(t,max(t,max(t,max(t,max(t,max(t", 3, 51);
        Check.badRate(x, "((((((((t+-t", 3, 10);
        Check.badRate(x, "((((((((t-t)))))))", 1, 18);
        Check.badRate(x, "((((((((min x", 1, 12);
        Check.same("17: the former stays", x.tells(7, 0, 0, 0), 14);
    }

    private static void faults() {
        // Promise 18, "Of the latest text that was read: 0 its FAULT (0 without), 1 its place (NONE without). NONE for
        // .. others, and ahead of any."
        BlackRoad x = new BlackRoad();
        Check.same("18: ahead of any", x.fault(0), -1);
        Check.same("18: ahead of any", x.fault(1), -1);
        Check.put(x, "t".repeat(101));
        x.rate();
        Check.same("18: too long is not read", x.fault(0), -1);
        Check.badRate(x, "t+", 1, 2);
        Check.same("18: -1", x.fault(-1), -1);
        Check.same("18: 2", x.fault(2), -1);
        Check.hours(x, "");
        Check.same("18: the latest has none", x.fault(0), 0);
        Check.same("18: nor a place", x.fault(1), -1);
        Check.badHours(x, "  open 9 to 1;", 2, 12);
        x.tells(1, 1, 1, 1);
        Check.same("18: it stays", x.fault(0), 2);
        Check.same("18: its place stays", x.fault(1), 12);
        Check.yes("18: rate", Check.rate(x, "t"));
        Check.same("18: the latest", x.fault(0), 0);
    }

    private static void worlds() {
        // Promise 19, "What a WORLD is in a MINUTE: 0 OPEN (1, 0), 1 .. 3 HAUL of a PLANT 0 .. 2, 4 .. 6 whether it is SHUT
        // .. (1, 0; also if there is none such). NONE for others."
        // Terms II, "of like ones the latest told; 20 without."
        BlackRoad x = new BlackRoad();
        Check.hours(x, "haul 0 5 from 10; shut 2 5 to 6; world 0; haul 0 7 from 10; haul 0 3 from 5; open 8 to 9;"
                + "open 20 to 30; rain 25 to 25; world 1; haul 0 9 from 20; rain 0 to 0; world 2; shut 0 0 to 4319;");
        Check.same("19: ahead of from", x.world(0, 4, 1), 20);
        Check.same("19: in one world", x.world(0, 5, 1), 3);
        Check.same("19: the latest told of like ones", x.world(0, 10, 1), 7);
        Check.same("19: not in another", x.world(1, 9, 1), 20);
        Check.same("19: what is ahead holds in all", x.world(1, 10, 1), 5);
        Check.same("19: up to the greater", x.world(1, 19, 1), 5);
        Check.same("19: the greatest from", x.world(1, 20, 1), 9);
        Check.same("19: to the end", x.world(2, 4319, 1), 5);
        Check.same("19: another plant", x.world(0, 10, 2), 20);
        Check.same("19: the third plant", x.world(0, 10, 3), 20);
        Check.same("19: ahead of open", x.world(0, 7, 0), 0);
        Check.same("19: open", x.world(0, 8, 0), 1);
        Check.same("19: to its minute", x.world(0, 9, 0), 1);
        Check.same("19: behind it", x.world(0, 10, 0), 0);
        Check.same("19: open again", x.world(0, 20, 0), 1);
        Check.same("19: rain", x.world(0, 25, 0), 0);
        Check.same("19: behind rain", x.world(0, 26, 0), 1);
        Check.same("19: rain at 0", x.world(1, 0, 0), 0);
        Check.same("19: open in all", x.world(1, 1, 0), 1);
        Check.same("19: no rain there", x.world(2, 0, 0), 1);
        Check.same("19: ahead of shut", x.world(0, 4, 6), 0);
        Check.same("19: shut", x.world(0, 5, 6), 1);
        Check.same("19: shut to", x.world(1, 6, 6), 1);
        Check.same("19: behind shut", x.world(2, 7, 6), 0);
        Check.same("19: shut in its world", x.world(2, 4319, 4), 1);
        Check.same("19: not in others", x.world(1, 4319, 4), 0);
        Check.same("19: plant 1", x.world(2, 5, 5), 0);
        int[][] bad = {{-1, 0, 0}, {3, 0, 0}, {0, -1, 0}, {0, 4320, 0}, {0, 0, -1}, {0, 0, 7},
            {Integer.MAX_VALUE, 0, 0}, {0, Integer.MIN_VALUE, 0}};
        for (int[] v : bad) Check.same("19: others", x.world(v[0], v[1], v[2]), -1);
        Check.hours(x, "rain 5 to 9; open 7 to 8; world 0; open 1 to 6;");
        Check.same("19: rain ahead of open", x.world(0, 7, 0), 0);
        Check.same("19: open of its world", x.world(0, 4, 0), 1);
        Check.same("19: behind all", x.world(0, 9, 0), 0);
    }

    private static void runs() {
        // Promise 20, "A RUN: 0 STOPS, 1 END, 2 LOADS, 3 the MINUTE of the first tonne, 4 LOADS REFUSED, 5 tonnes REFUSED.
        // .. NONE: others, no JOBS, or it isn't DONE."
        // 17 tonnes by fives; a truck comes to the paver at 3, 7, 11 and 15 if it isn't kept
        BlackRoad x = small(1, 50, 1);
        int[][] due = {{1, 0, 19, 4, 3, 0, 0}, {2, 3, 15, 4, 3, 0, 0}, {4, 6, 15, 4, 3, 0, 0}, {5, 9, 15, 4, 3, 0, 0},
            {20, 9, 15, 4, 3, 0, 0}};
        for (int[] row : due) {
            for (int what = 0; what < 6; what++) {
                Check.same("20: run at " + row[0] + " of " + what, x.run(0, row[0], what), row[what + 1]);
            }
        }
        int[][] bad = {{-1, 5, 0}, {1, 5, 0}, {0, 0, 0}, {0, 21, 0}, {0, 5, -1}, {0, 5, 6}, {Integer.MIN_VALUE, 1, 1}};
        for (int[] v : bad) Check.same("20: others", x.run(v[0], v[1], v[2]), -1);
        BlackRoad y = new BlackRoad();
        y.plant(0, 10, 200, 1);
        Check.same("20: no jobs", y.run(0, 5, 0), -1);
        y.layer(20, 0);
        Check.same("20: no sections", y.run(0, 5, 0), -1);
        y.section(10, 0);
        Check.same("20: a job", y.run(0, 5, 1), 41);
        y.layer(20, 1);
        Check.same("20: a kind without a plant", y.run(0, 5, 1), -1);
        // a silo that never has what the truck is to have
        BlackRoad z = new BlackRoad();
        z.section(100, 0);
        z.layer(20, 0);
        z.plant(0, 10, 10, 1);
        z.trucks(1, 11);
        Check.same("20: small silo", z.run(0, 5, 1), -1);
        z.trucks(1, 10);
        Check.same("20: just enough", z.run(0, 20, 2), 4);
        lastMinute();
    }

    private static void lastMinute() {
        // Terms III, "A RUN is DONE in the MINUTE in which the last tonne is laid (END); it isn't, if that doesn't come by
        // .. 4319,"
        BlackRoad x = small(1, 10, 1);
        Check.hours(x, "haul 0 1 from 0; shut 0 0 to 4316;");
        Check.same("20: in the last minute", x.run(0, 4, 1), 4319);
        Check.same("20: not all in it", x.run(0, 3, 1), -1);
        x.heat(160, 20, 0, 80, 70);
        Check.hours(x, "haul 0 1 from 0; open 3220 to 4319;");
        Check.same("20: it lay down to 0", x.run(0, 4, 1), 3220);
        Check.same("20: 0 is not below 0", x.load(0, 4, 0, 7), 0);
        Check.hours(x, "haul 0 1 from 0; open 3221 to 4319;");
        Check.same("20: below 0, it is made again", x.run(0, 4, 4), 1);
        Check.same("20: it comes four minutes later", x.run(0, 4, 1), 3225);
        Check.hours(x, "haul 0 1 from 0; open 4319 to 4319;");
        Check.same("20: refused in the last minute", x.run(0, 4, 1), -1);
    }

    private static void refusals() {
        // Terms III, "Is it below REFUSE (0 .. 200; at first 110): the LOAD is REFUSED: its TONNES are to be ordered again
        // .. (of this JOB, ahead of others that follow by number), nothing of it is laid."
        // the first load leaves at 11 and takes 10: 149 at 21; the next takes a minute: 158
        BlackRoad x = small(1, 10, 1);
        Check.hours(x, "haul 0 10 from 0; haul 0 1 from 15;");
        x.heat(160, 1, 150, 80, 70);
        int[] due = {0, 25, 2, 25, 1, 4};
        for (int what = 0; what < 6; what++) Check.same("20: refused " + what, x.run(0, 20, what), due[what]);
        Check.same("23: refused", x.load(0, 20, 0, 8), 1);
        Check.same("23: taken", x.load(0, 20, 0, 6), 21);
        Check.same("23: its heat", x.load(0, 20, 0, 7), 149);
        Check.same("23: again", x.load(0, 20, 1, 4), 22);
        Check.same("23: laid", x.load(0, 20, 1, 8), 0);
        Check.same("24: of the other", x.tonne(0, 20, 0), 1);
        Check.same("25: heat of what was laid", x.laid(0, 20, 0, 2), 158);
        x.heat(160, 1, 149, 80, 70);
        Check.same("20: just warm enough", x.run(0, 20, 4), 0);
        // two trucks of two jobs are under way; both are refused, and ordered again ahead of the third job
        BlackRoad y = small(3, 10, 2);
        Check.hours(y, "haul 0 10 from 0; haul 0 1 from 12;");
        y.heat(160, 1, 150, 80, 70);
        Check.same("20: both refused", y.run(0, 20, 4), 2);
        Check.same("20: eight tonnes", y.run(0, 20, 5), 8);
        Check.same("23: job 0", y.load(0, 20, 0, 0), 0);
        Check.same("23: job 1", y.load(0, 20, 1, 0), 1);
        Check.same("23: job 0 again", y.load(0, 20, 2, 0), 0);
        Check.same("23: taken behind it", y.load(0, 20, 1, 6), 25);
        Check.same("23: job 1 again", y.load(0, 20, 3, 0), 1);
        Check.same("23: by truck 0", y.load(0, 20, 3, 2), 0);
        Check.same("23: then job 2", y.load(0, 20, 4, 0), 2);
        Check.same("23: by truck 1", y.load(0, 20, 4, 2), 1);
    }

    private static void shutAndOpen() {
        // Terms III, "(1) Each PLANT that isn't SHUT makes RATE tonnes into its SILO"
        // Terms III, "(5) The paver, if the road is OPEN:"
        BlackRoad x = small(1, 10, 1);
        Check.hours(x, "haul 0 1 from 0; shut 0 0 to 9;");
        // from 10 on it makes mix, and begins to fill at once
        Check.same("20: shut", x.load(0, 20, 0, 5), 10);
        Check.hours(x, "haul 0 1 from 0; shut 0 2 to 9;");
        Check.same("20: what is filled leaves a plant that is shut", x.run(0, 20, 1), 3);
        BlackRoad y = new BlackRoad();
        y.section(10, 0);
        y.layer(20, 0);
        y.plant(0, 1, 200, 1);
        y.trucks(1, 5);
        Check.hours(y, "haul 0 1 from 0; shut 0 1 to 8;");
        // 1 tonne at 0, then none to 8, 2 at 9, 3 at 10, 4 at 11
        Check.same("20: none is made", y.load(0, 20, 0, 5), 11);
        Check.hours(x, "haul 0 1 from 0; open 2 to 3; open 8 to 8; open 10 to 12; rain 11 to 11;");
        Check.same("20: open minutes alone", x.run(0, 1, 1), 12);
        Check.same("20: no stops", x.run(0, 1, 0), 0);
        BlackRoad z = small(1, 50, 1);
        Check.hours(z, "haul 0 1 from 0; rain 5 to 6;");
        Check.same("20: rain is no stop", z.run(0, 20, 0), 7);
        Check.hours(z, "haul 0 1 from 0; rain 0 to 4310;");
        Check.same("20: too late", z.run(0, 20, 1), -1);
    }

    private static void firm() {
        // Terms III, "if the JOB under it (one LAYER below) is FIRM or colder by then (0 .. 200; at first 80)"
        // job 0 is laid at 3 with 160; MEAN 157 at 4, 154 at 5
        BlackRoad x = small(1, 10, 2);
        x.layer(20, 0);
        int[][] due = {{200, 4}, {157, 4}, {156, 5}, {154, 5}, {153, 6}};
        for (int[] row : due) {
            x.heat(160, 4, 0, row[0], 70);
            Check.same("20: firm " + row[0], x.run(0, 20, 1), row[1]);
            Check.same("20: stops", x.run(0, 20, 0), row[1] - 4);
        }
        // it never is as cold
        x.heat(160, 4, 0, 10, 70);
        Check.same("20: never firm", x.run(0, 20, 1), -1);
        // in the same minute, if it is cold enough as it is laid
        BlackRoad y = small(1, 10, 2);
        y.layer(20, 0);
        Check.hours(y, "haul 0 1 from 0; open 9 to 20;");
        y.heat(160, 1, 0, 152, 70);
        Check.same("20: both at once", y.run(0, 20, 1), 9);
        y.heat(160, 1, 0, 151, 70);
        Check.same("20: not at once", y.run(0, 20, 1), 10);
        y.heat(160, 1, 0, 152, 70);
        Check.same("20: with what is left of the pace", y.run(0, 7, 1), 10);
        Check.same("20: it goes on", y.run(0, 8, 1), 9);
    }

    private static void plantsByTurns() {
        // Terms III, "it goes to that PLANT of the JOB's KIND to which the fewest TRUCKS are sent (under way there,
        // .. standing, being filled; of like ones the lowest)"
        BlackRoad x = small(4, 10, 4);
        x.plant(1, 10, 200, 1);
        x.plant(0, 10, 200, 1);
        Check.hours(x, "haul 0 1 from 0; haul 2 3 from 0;");
        int[] due = {0, 2, 0, 2};
        for (int k = 0; k < 4; k++) Check.same("23: plant of " + k, x.load(0, 20, k, 3), due[k]);
        Check.same("23: it fills one by one", x.load(0, 20, 2, 5), 2);
        Check.same("23: the other too", x.load(0, 20, 3, 5), 4);
        // at 4 both trucks of plant 0 have left it, and plant 1 still fills its second
        BlackRoad y = small(5, 10, 4);
        y.plant(0, 10, 200, 1);
        Check.hours(y, "haul 0 1 from 0; haul 1 3 from 0;");
        Check.same("23: ordered at", y.load(0, 20, 4, 4), 4);
        Check.same("23: where the fewest are", y.load(0, 20, 4, 3), 0);
        // a truck under way to a plant counts as one that stands there
        BlackRoad z = small(3, 10, 3);
        z.plant(0, 10, 200, 1);
        z.plant(0, 10, 200, 1);
        Check.hours(z, "haul 0 1 from 0; haul 1 100 from 0;");
        for (int k = 0; k < 3; k++) Check.same("23: one to each", z.load(0, 20, k, 3), k);
    }

    private static void paces() {
        // Promise 21, "THE PACE: by which the RUN is DONE in all WORLDS,"
        // Promise 21, "then the lowest. NONE: none."
        BlackRoad x = small(1, 50, 1);
        Check.same("21: without stops", x.pace(), 1);
        Check.hours(x, "haul 0 1 from 0; open 0 to 18;");
        Check.same("21: the slow one isn't done", x.run(0, 1, 1), -1);
        Check.same("21: the fewest stops", x.pace(), 2);
        Check.same("21: nothing changed", x.run(0, 2, 0), 3);
        worstWorld();
        BlackRoad y = small(1, 10, 1);
        Check.same("21: the lowest of like ones", y.pace(), 4);
        Check.hours(y, "haul 0 1 from 0; world 0; open 0 to 4; world 1;");
        Check.same("21: done in all worlds", y.run(0, 1, 1), -1);
        Check.same("21: the earliest end", y.pace(), 4);
        Check.hours(y, "haul 0 1 from 0; world 0; world 1; rain 0 to 4319;");
        Check.same("21: none", y.pace(), -1);
        Check.same("21: though done in one", y.run(0, 4, 1), 3);
        // the plant leaves at 1 + 11 and 11 more: 23
        Check.hours(y, "haul 0 1 from 0; world 0; world 1; haul 0 11 from 0;");
        Check.same("21: the latest world", y.pace(), 4);
        Check.same("21: its end", y.run(1, 4, 1), 23);
    }

    /** Runs in which the worst world, all stops together, or the latest END tells between two paces. */
    private static void worstWorld() {
        // Promise 21, "of these the one with the fewest STOPS in the worst WORLD, of like ones the fewest STOPS of all
        // .. WORLDS together, then the earliest END of the latest WORLD,"
        ranked(0, 3, 141, 2, "world 0; haul 0 8 from 0; open 27 to 4000; world 1; haul 0 6 from 0; shut 0 2 to 13;", 31);
        ranked(0, 3, 139, 2, "world 0; haul 0 5 from 0; open 26 to 4000; world 1; haul 0 5 from 0; shut 0 2 to 16;", 56);
        ranked(1, 1, 145, 4, "world 0; haul 0 6 from 0; open 15 to 4000; world 1; haul 0 5 from 1; shut 0 7 to 19;", 96);
        ranked(1, 2, 152, 4, "world 0; haul 0 3 from 0; open 19 to 4000; world 1; haul 0 7 from 3; shut 0 6 to 14;", 73);
        ranked(2, 5, 146, 4, "world 0; haul 0 8 from 0; open 24 to 4000; world 1; haul 0 9 from 4; shut 0 3 to 20;", 23, 29);
        ranked(2, 4, 152, 4, "world 0; haul 0 5 from 0; open 11 to 4000; world 1; haul 0 3 from 3; shut 0 4 to 18;", 45);
        // twenty tonnes lie ready as the road opens
        BlackRoad x = small(5, 10, 5);
        Check.hours(x, "haul 0 1 from 0; open 50 to 4000;");
        Check.same("21: the fastest", x.pace(), 20);
    }

    /** By all three the pace is the one due; without the one named it would be another. */
    private static void ranked(int by, int due, int refuse, int trucks, String hours, int... lengths) {
        BlackRoad x = new BlackRoad();
        for (int length : lengths) x.section(length, 0);
        x.layer(20, 0);
        x.plant(0, 10, 200, 1);
        x.trucks(trucks, 5);
        x.heat(160, 1, refuse, 80, 70);
        Check.hours(x, hours);
        Check.same("21: ranked " + hours, x.pace(), due);
        Check.same("21: by all " + hours, first(x, -1), due);
        Check.yes("21: it tells " + hours, first(x, by) != due);
    }

    private static int first(BlackRoad x, int without) {
        int best = -1;
        long[] least = null;
        for (int pace = 1; pace <= 20; pace++) {
            long[] mine = new long[3];
            for (int world = 0; world < 2; world++) {
                mine[0] = Math.max(mine[0], x.run(world, pace, 0));
                mine[1] += x.run(world, pace, 0);
                mine[2] = Math.max(mine[2], x.run(world, pace, 1));
            }
            if (without >= 0) mine[without] = 0;
            if (least == null || java.util.Arrays.compare(mine, least) < 0) {
                least = mine;
                best = pace;
            }
        }
        return best;
    }

    private static void fewest() {
        // Promise 22, "The fewest TRUCKS (1 .. 16) by which RUNS at a PACE are DONE in all WORLDS without STOPS. NONE:
        // .. none, and for others. Nothing is changed."
        BlackRoad x = small(1, 50, 1);
        Check.same("22: one is enough", x.fewest(1), 1);
        Check.same("22: two", x.fewest(2), 2);
        Check.same("22: trucks stay", x.about(3), 1);
        Check.same("22: the run stays", x.run(0, 2, 0), 3);
        Check.same("22: below", x.fewest(0), -1);
        Check.same("22: above", x.fewest(21), -1);
        // the plant fills one a minute: four trucks come at 3, 4, 5, 6; the first of three only at 7 again
        Check.same("22: one for each load", x.fewest(20), 4);
        Check.same("22: asked again", x.fewest(20), 4);
        Check.hours(x, "haul 0 1 from 0; world 0; world 1; shut 0 1 to 4319;");
        Check.same("22: not in all worlds", x.fewest(1), -1);
        x.trucks(5, 30);
        Check.hours(x, "haul 0 1 from 0;");
        Check.same("22: by what they carry", x.fewest(20), 1);
        Check.same("22: trucks stay five", x.about(3), 5);
        // sixteen loads of five, twenty minutes each way: none comes twice in time
        BlackRoad y = new BlackRoad();
        y.section(238, 0);
        y.layer(20, 0);
        y.plant(0, 10, 200, 1);
        y.trucks(1, 5);
        Check.same("22: eighty tonnes", y.about(9), 80);
        Check.same("22: all sixteen", y.fewest(5), 16);
        y.section(10, 0);
        Check.same("22: a seventeenth load", y.fewest(5), -1);
    }

    private static void loads() {
        // Promise 23, "Of a LOAD of a RUN: 0 its JOB, 1 tonnes, 2 its TRUCK, 3 its PLANT, 4 the MINUTE in which it was
        // .. ordered, 5 in which the PLANT began to fill it (NONE: it never did), 6 in which the paver took it (NONE), 7
        // .. its HEAT then (NONE), 8 REFUSED (1, 0). NONE for others, and as run()."
        BlackRoad x = small(1, 50, 1);
        int[][] due = {{0, 5, 0, 0, 0, 1, 3, 160, 0}, {0, 5, 0, 0, 4, 5, 7, 160, 0}, {0, 5, 0, 0, 8, 9, 11, 160, 0},
            {0, 2, 0, 0, 12, 13, 15, 160, 0}};
        for (int k = 0; k < 4; k++) {
            for (int what = 0; what < 9; what++) {
                Check.same("23: load " + k + " " + what, x.load(0, 20, k, what), due[k][what]);
            }
        }
        int[][] bad = {{-1, 20, 0, 0}, {1, 20, 0, 0}, {0, 0, 0, 0}, {0, 21, 0, 0}, {0, 20, -1, 0}, {0, 20, 4, 0},
            {0, 20, 0, -1}, {0, 20, 0, 9}, {0, 20, Integer.MAX_VALUE, 0}, {0, 20, Integer.MIN_VALUE, 0}};
        for (int[] v : bad) Check.same("23: others", x.load(v[0], v[1], v[2], v[3]), -1);
        x.heat(160, 1, 110, 80, 70);
        Check.same("23: heat by minutes", x.load(0, 1, 1, 7), 157);
        x.layer(20, 2);
        Check.same("23: as run", x.load(0, 20, 0, 0), -1);
        BlackRoad y = small(2, 10, 3);
        Check.same("23: another truck", y.load(0, 20, 1, 2), 1);
        Check.same("23: another job", y.load(0, 20, 1, 0), 1);
        Check.same("23: no third load", y.load(0, 20, 2, 2), -1);
        // truck 1 comes to the plant ahead of truck 0, so it is filled first
        BlackRoad z = small(2, 10, 2);
        Check.hours(z, "haul 0 1 from 0;shut 0 0 to 5;");
        Check.same("23: in the order of coming", z.load(0, 20, 0, 5), 6);
        Check.same("23: the other behind", z.load(0, 20, 1, 5), 7);
    }

    private static void tonnes() {
        // Promise 24, "The LOAD of which a tonne (from 0, as they were laid) is. NONE for others, and as run()."
        BlackRoad x = small(1, 50, 1);
        for (int i = 0; i < 17; i++) Check.same("24: tonne " + i, x.tonne(0, 2, i), i / 5);
        Check.same("24: behind the last", x.tonne(0, 2, 17), -1);
        Check.same("24: below 0", x.tonne(0, 2, -1), -1);
        Check.same("24: far", x.tonne(0, 2, Integer.MAX_VALUE), -1);
        Check.same("24: pace 0", x.tonne(0, 0, 0), -1);
        Check.same("24: pace 21", x.tonne(0, 21, 0), -1);
        Check.same("24: world", x.tonne(1, 2, 0), -1);
        x.layer(20, 2);
        Check.same("24: as run", x.tonne(0, 2, 0), -1);
    }

    private static void laid() {
        // Promise 25, "NONE for others, and as run()."
        BlackRoad x = small(2, 50, 1);
        // 17 tonnes each; loads at 3, 7, 11, 15 of job 0, at 19, 23, 27, 31 of job 1
        int[][] due = {{3, 15, 160, 0, 2, 3, 2, -1, 72}, {19, 31, 160, 0, 2, 3, 2, -1, 72}};
        for (int j = 0; j < 2; j++) {
            for (int what = 0; what < 9; what++) {
                Check.same("25: laid " + j + " " + what, x.laid(0, 20, j, what), due[j][what]);
            }
        }
        int[][] bad = {{-1, 20, 0, 0}, {1, 20, 0, 0}, {0, 0, 0, 0}, {0, 21, 0, 0}, {0, 20, -1, 0}, {0, 20, 2, 0},
            {0, 20, 0, -1}, {0, 20, 0, 9}};
        for (int[] v : bad) Check.same("25: others", x.laid(v[0], v[1], v[2], v[3]), -1);
        // at pace 1 the second load of job 0 is taken at 8, three minutes after it was begun
        x.heat(160, 1, 0, 80, 0);
        Check.same("25: the least heat", x.laid(0, 1, 0, 2), 157);
        x.sort(0, 10, 5, 9);
        x.sort(1, 10, 5, 9);
        x.sort(2, 10, 5, 9);
        Check.same("25: dense is 0 at least", x.laid(0, 20, 0, 8), 0);
        x.plant(0, 1, 10, 1);
        x.layer(20, 1);
        Check.same("25: as run", x.laid(0, 20, 0, 0), -1);
    }

    private static void joints() {
        // Terms IV, "JOINT of a JOB with the one ahead of it in its LAYER: COLD, if that one's MEAN in the MINUTE of this
        // .. JOB's first tonne is below JOIN (0 .. 200; at first 70). (SECTION 0 has none.)"
        // JOIN is 70 at first: laid at 3 with 160, MEAN comes to 70 at some minute and is less at a later one
        BlackRoad w = small(2, 10, 2);
        int seventy = 0;
        while (seventy < 600 && w.mean(0, 4, 0, seventy + 1) >= 70) seventy++;
        Check.same("26: seventy", w.mean(0, 4, 0, seventy), 70);
        Check.yes("26: less", w.mean(0, 4, 0, seventy + 1) < 70);
        w.heat(160, 20, 0, 80, 70);
        Check.hours(w, "haul 0 1 from 0; open 3 to 3; open " + (3 + seventy) + " to 4319;");
        Check.same("25: not below 70", w.laid(0, 4, 1, 3), 0);
        Check.hours(w, "haul 0 1 from 0; open 3 to 3; open " + (4 + seventy) + " to 4319;");
        Check.same("25: below 70", w.laid(0, 4, 1, 3), 1);
        // the second load is filled late, so that it may be taken
        BlackRoad v = small(2, 10, 2);
        int kept = 3 + seventy;
        Check.hours(v, "haul 0 1 from 0; shut 0 2 to " + (kept - 3) + "; open 3 to 3; open " + kept + " to 4319;");
        Check.same("25: 70 at first", v.laid(0, 4, 1, 3), 0);
        Check.hours(v, "haul 0 1 from 0; shut 0 2 to " + (kept - 2) + "; open 3 to 3; open " + (kept + 1) + " to 4319;");
        Check.same("25: below 70 at first", v.laid(0, 4, 1, 3), 1);
        // job 0 is laid at 3 with 160, job 1 begins at 4 : 157 then
        BlackRoad x = small(2, 10, 2);
        x.layer(20, 0);
        x.heat(160, 4, 0, 200, 158);
        Check.same("25: cold", x.laid(0, 20, 1, 3), 1);
        Check.same("25: dense", x.laid(0, 20, 1, 8), 66);
        Check.same("25: section 0 has none", x.laid(0, 20, 2, 3), 0);
        x.heat(160, 4, 0, 200, 157);
        Check.same("25: just warm", x.laid(0, 20, 1, 3), 0);
        Check.same("25: dense", x.laid(0, 20, 1, 8), 72);
        Check.same("25: job 2 begins", x.laid(0, 20, 2, 0), 7);
        Check.same("25: job 3 begins", x.laid(0, 20, 3, 0), 8);
        x.heat(160, 4, 0, 200, 158);
        Check.same("25: above too", x.laid(0, 20, 3, 3), 1);
        // both at once: the MEAN of 0 minutes
        BlackRoad y = small(2, 10, 2);
        Check.hours(y, "haul 0 1 from 0; open 9 to 9;");
        y.heat(160, 1, 0, 200, 152);
        Check.same("25: at once", y.laid(0, 20, 1, 3), 0);
        y.heat(160, 1, 0, 200, 153);
        Check.same("25: at once and cold", y.laid(0, 20, 1, 3), 1);
        // long behind it is as at 600
        Check.hours(y, "haul 0 1 from 0; open 4 to 4; open 3000 to 3000;");
        y.heat(200, 20, 0, 200, 35);
        Check.same("25: begins", y.laid(0, 4, 1, 0), 3000);
        Check.same("25: at 600", y.mean(0, 4, 0, 600), 35);
        Check.same("25: not below", y.laid(0, 4, 1, 3), 0);
        y.heat(200, 20, 0, 200, 36);
        Check.same("25: below", y.laid(0, 4, 1, 3), 1);
    }

    private static void rolling() {
        // Terms IV, "A PASS takes LONG / SPEED MINUTES, rounded up."
        // laid at 3 with 160: 157, 154, 152, 150, 147, 145 ...
        BlackRoad x = small(1, 10, 1);
        x.roller(0, 10);
        Check.same("25: two passes from 7 on", x.laid(0, 20, 0, 7), 9);
        x.sort(0, 160, 160, 1);
        Check.same("25: not in the minute itself", x.laid(0, 20, 0, 4), 1);
        x.sort(0, 157, 157, 1);
        Check.same("25: in the minute behind", x.laid(0, 20, 0, 7), 5);
        x.sort(0, 35, 35, 1);
        Check.same("25: from 35 on", x.laid(0, 20, 0, 4), 0);
        x.sort(0, 34, 34, 1);
        Check.same("25: never below", x.laid(0, 20, 0, 4), 1);
        // it takes LONG / SPEED, rounded up
        BlackRoad y = small(1, 50, 4);
        y.sort(0, 200, 0, 2);
        y.roller(0, 49);
        y.roller(0, 50);
        // the second begins none: at its turn the first is free again
        int laidAt = y.laid(0, 20, 0, 1);
        Check.same("25: two minutes each", y.laid(0, 20, 0, 7), laidAt + 5);
        // a sort waits for all lower ones
        y.sort(1, 200, 0, 1);
        y.sort(2, 200, 0, 1);
        Check.same("25: none of sort 1", y.laid(0, 20, 0, 5), 1);
        y.roller(2, 50);
        Check.same("25: sort 2 waits for ever", y.laid(0, 20, 0, 6), 1);
        y.roller(1, 50);
        Check.same("25: sort 2 comes", y.laid(0, 20, 0, 6), 0);
        Check.same("25: in their order", y.laid(0, 20, 0, 7), laidAt + 7);
        Check.same("25: all made", y.laid(0, 20, 0, 8), 100);
        y.sort(0, 200, 0, 0);
        Check.same("25: none of sort 0", y.laid(0, 20, 0, 7), laidAt + 3);
        last600();
        leastMean();
        atFirst();
    }

    private static void last600() {
        // Terms IV, "A ROLLER may begin a PASS on a JOB in a MINUTE behind LAID to 600 behind it,"
        BlackRoad x = small(1, 500, 6);
        x.roller(0, 10);
        x.sort(0, 200, 0, 9);
        int laidAt = x.laid(0, 20, 0, 1);
        // 50 minutes each, nine of them
        Check.same("25: nine", x.laid(0, 20, 0, 7), laidAt + 1 + 450);
        x.sort(1, 200, 0, 4);
        x.roller(1, 10);
        // three begin at 451, 501 and 551 behind; the one at 601 is too late
        Check.same("25: one too late", x.laid(0, 20, 0, 5), 1);
        Check.same("25: the last goes on behind 600", x.laid(0, 20, 0, 7), laidAt + 601);
        x.sort(0, 200, 0, 8);
        Check.same("25: all four", x.laid(0, 20, 0, 5), 0);
        // 9 and 3 passes of 49 minutes, then 11 minutes each from 589 on: the second begins at 600
        BlackRoad y = small(1, 490, 6);
        y.roller(0, 10);
        y.roller(1, 10);
        y.roller(2, 45);
        y.sort(0, 200, 0, 9);
        y.sort(1, 200, 0, 3);
        y.sort(2, 200, 0, 9);
        Check.same("25: at 600", y.laid(0, 20, 0, 6), 7);
        Check.same("25: over at 611", y.laid(0, 20, 0, 7), y.laid(0, 20, 0, 1) + 611);
    }

    private static void leastMean() {
        // Terms IV, "each that is free begins one on the JOB where it may and MEAN is least, of like ones the lowest."
        // laid at 3 and 4: at 5 job 0 is colder; one roller, two passes each
        BlackRoad x = small(2, 10, 2);
        x.roller(0, 10);
        x.sort(0, 154, 0, 2);
        Check.same("25: the colder first", x.laid(0, 20, 0, 7), 7);
        Check.same("25: then the other", x.laid(0, 20, 1, 7), 9);
        x.sort(0, 200, 0, 1);
        Check.same("25: at 4 there is one", x.laid(0, 20, 0, 7), 5);
        Check.same("25: at 5 the other", x.laid(0, 20, 1, 7), 6);
        // of like ones the lowest
        Check.hours(x, "haul 0 1 from 0; open 9 to 9;");
        x.heat(160, 20, 0, 80, 70);
        Check.same("25: alike, the lowest", x.laid(0, 20, 0, 7), 11);
        Check.same("25: alike, the next", x.laid(0, 20, 1, 7), 12);
        x.roller(0, 10);
        Check.same("25: two rollers", x.laid(0, 20, 1, 7), 11);
    }

    /** A job laid with this heat: mix of 100 that was begun in minute 1 and loses one a minute, or hotter mix. */
    private static BlackRoad laidWith(int heat) {
        BlackRoad x = small(1, 10, 1);
        x.heat(Math.max(100, heat), 1, 0, 80, 70);
        if (heat <= 100) {
            Check.hours(x, "haul 0 1 from 0; open " + (101 - heat) + " to 4319;");
        } else {
            x.heat(heat, 20, 0, 80, 70);
        }
        Check.same("25: laid with", x.laid(0, 20, 0, 2), heat);
        return x;
    }

    /** The sorts as they are at first, each at the edge of TOP and LOW; MEAN is told a minute behind LAID. */
    private static void atFirst() {
        // Terms IV, "Of a SORT: TOP, LOW (0 .. 200, LOW not above), PASSES (0 .. 9); at first 150, 110, 2; 120, 80, 3; 90,
        // .. 60, 2."
        edge(0, 160, 157, 2, 5);
        edge(0, 153, 150, 2, 2);
        edge(0, 154, 151, 2, 3);
        edge(0, 112, 110, 1, 2);
        edge(0, 111, 109, 0, 0);
        edge(1, 122, 120, 3, 2);
        edge(1, 123, 121, 3, 3);
        edge(1, 81, 80, 1, 2);
        edge(1, 80, 79, 0, 0);
        edge(2, 92, 90, 2, 2);
        edge(2, 93, 91, 2, 3);
        edge(2, 61, 60, 1, 2);
        edge(2, 60, 59, 0, 0);
    }

    private static void edge(int sort, int heat, int mean, int made, int firstOver) {
        BlackRoad x = laidWith(heat);
        x.roller(sort, 10);
        for (int lower = 0; lower < sort; lower++) x.sort(lower, 0, 0, 0);
        int passes = sort == 1 ? 3 : 2;
        int behind = firstOver + made - 1;
        Check.same("26: a minute behind " + heat, x.mean(0, 20, 0, 1), mean);
        Check.same("25: missed of " + heat, x.laid(0, 20, 0, 4 + sort), passes - made);
        Check.same("25: over of " + heat, x.laid(0, 20, 0, 7), made == 0 ? -1 : x.laid(0, 20, 0, 1) + behind);
    }

    private static void means() {
        // Promise 26, "MEAN of a JOB so many MINUTES (0 .. 600) behind LAID by a RUN. -1000 for others, and as run()."
        BlackRoad x = small(1, 10, 1);
        int[] due = {160, 157, 154, 152, 150, 147, 145, 143, 141, 139, 137, 135};
        for (int m = 0; m < due.length; m++) Check.same("26: mean " + m, x.mean(0, 20, 0, m), due[m]);
        Check.same("26: at last", x.mean(0, 20, 0, 600), 35);
        Check.same("26: behind 600", x.mean(0, 20, 0, 601), -1000);
        Check.same("26: below 0", x.mean(0, 20, 0, -1), -1000);
        Check.same("26: job", x.mean(0, 20, 1, 0), -1000);
        Check.same("26: job below", x.mean(0, 20, -1, 0), -1000);
        Check.same("26: world", x.mean(1, 20, 0, 0), -1000);
        Check.same("26: pace", x.mean(0, 0, 0, 0), -1000);
        Check.same("26: pace above", x.mean(0, 21, 0, 0), -1000);
        x.layer(20, 1);
        Check.same("26: as run", x.mean(0, 20, 0, 0), -1000);
        // 111 above AIR and W 9, then 111 above GROUND and G 9: 999 / 1000 is nothing
        BlackRoad v = small(1, 10, 1);
        v.heat(126, 20, 0, 80, 70);
        v.weather(15, 20, 9, 1);
        Check.same("26: 999 to the air", v.mean(0, 20, 0, 1), 126);
        v.weather(14, 20, 9, 1);
        Check.same("26: 1008 to the air", v.mean(0, 20, 0, 1), 125);
        v.weather(15, 15, 1, 9);
        Check.same("26: 999 to the ground", v.mean(0, 20, 0, 1), 126);
        v.weather(15, 14, 1, 9);
        Check.same("26: 1008 to the ground", v.mean(0, 20, 0, 1), 125);
        // the other way round it is cut towards 0 as well
        BlackRoad y = small(1, 10, 1);
        y.weather(-20, -20, 200, 200);
        y.heat(100, 1, 0, 200, 0);
        Check.hours(y, "haul 0 1 from 0; open 101 to 101;");
        int[] cold = {0, -1, -2, -3, -4, -5, -6, -6, -7, -8, -8, -9};
        Check.same("26: from 0", y.mean(0, 20, 0, 0), 0);
        for (int m = 0; m < cold.length; m++) Check.same("26: cold " + m, y.mean(0, 20, 0, m), cold[m]);
        y.weather(50, 60, 60, 40);
        Check.same("26: warmed", y.mean(0, 20, 0, 600), 33);
        // 260 deep: C is 5
        BlackRoad z = new BlackRoad();
        z.section(10, 0);
        z.section(10, 60);
        z.even(70, 0, 0, 1, 1);
        z.layer(200, 0);
        z.plant(0, 10, 200, 1);
        Check.hours(z, "haul 0 1 from 0;");
        Check.same("26: deep", z.job(0, 2), 260);
        int[] deep = {160, 157, 154, 152, 150, 148, 146, 144, 142, 140, 138, 137};
        for (int m = 0; m < deep.length; m++) Check.same("26: deep " + m, z.mean(0, 20, 0, m), deep[m]);
    }

    private static void tells() {
        // Promise 27, "What THE RATE tells with these (each -1000000 to 1000000). -2000000000 for others."
        BlackRoad x = new BlackRoad();
        Check.yes("27: rate", Check.rate(x, "t+d+j+m"));
        Check.same("27: most", x.tells(1000000, 1000000, 1000000, 1000000), 4000000);
        Check.same("27: least", x.tells(-1000000, -1000000, -1000000, -1000000), -4000000);
        for (int i = 0; i < 4; i++) {
            int[] v = new int[4];
            v[i] = 1000001;
            Check.same("27: above", x.tells(v[0], v[1], v[2], v[3]), -2000000000);
            v[i] = -1000001;
            Check.same("27: below", x.tells(v[0], v[1], v[2], v[3]), -2000000000);
            v[i] = Integer.MIN_VALUE;
            Check.same("27: far below", x.tells(v[0], v[1], v[2], v[3]), -2000000000);
        }
        Check.yes("27: rate", Check.rate(x, "t*d"));
        Check.same("27: held", x.tells(1000000, 1000000, 0, 0), 1000000000);
        Check.same("27: held below", x.tells(1000000, -1000000, 0, 0), -1000000000);
    }

    private static void pays() {
        // Promise 28, "PAY. -1: others (n 1 to all JOBS), and as run()."
        // 4, 8 and 4 tonnes; JOIN so that job 2 has a cold joint
        BlackRoad x = new BlackRoad();
        x.section(10, 0);
        x.section(20, 0);
        x.section(10, 0);
        x.layer(20, 0);
        x.plant(0, 10, 200, 1);
        x.trucks(1, 10);
        Check.hours(x, "haul 0 1 from 0;");
        x.heat(160, 4, 110, 80, 0);
        x.roller(0, 100);
        Check.same("28: t by itself", x.pay(0, 20, 1, 1), 4 + 7 + 4);
        Check.same("7: 20 m", x.job(1, 3), 7);
        Check.yes("28: d", Check.rate(x, "d"));
        Check.same("28: all alike", x.pay(0, 20, 1, 1), 3 * 80);
        x.heat(160, 4, 110, 80, 200);
        int[] dense = new int[3];
        for (int j = 0; j < 3; j++) dense[j] = x.laid(0, 20, j, 8);
        Check.same("25: dense 0", dense[0], 80);
        Check.same("25: dense 1", dense[1], 74);
        for (int n = 1; n <= 3; n++) {
            for (int seed = -3; seed < 3; seed++) {
                long sum = 0;
                for (int i = 0; i < n; i++) sum += dense[x.core(n, seed, i)];
                Check.same("28: drawn", x.pay(0, 20, n, seed), sum + (3 - n) * (sum / n));
            }
        }
        Check.yes("28: j and m", Check.rate(x, "100*j+m"));
        Check.same("28: two joints", x.pay(0, 20, 2, 7), 200 + 15);
        Check.yes("28: much", Check.rate(x, "0-9999*9999*9999"));
        Check.same("28: below an int", x.pay(0, 20, 2, 7), -3000000000L);
        int[][] bad = {{-1, 20, 1}, {1, 20, 1}, {0, 0, 1}, {0, 21, 1}, {0, 20, 0}, {0, 20, 4}, {0, 20, -1}};
        for (int[] v : bad) Check.same("28: others", x.pay(v[0], v[1], v[2], 1), -1);
        x.layer(20, 1);
        Check.same("28: as run", x.pay(0, 20, 1, 1), -1);
    }

    private static void cores() {
        // Promise 29, "The i-th JOB that is DRAWN so. NONE for others."
        BlackRoad x = new BlackRoad();
        Check.same("29: no jobs", x.core(1, 1, 0), -1);
        x.section(10, 0);
        x.section(10, 0);
        x.layer(20, 0);
        x.layer(20, 0);
        row(x, 1, 2, 1, 3, 0);
        x.layer(20, 0);
        row(x, -5, 2, 0, 5, 1, 4, 3);
        row(x, Integer.MAX_VALUE, 5, 3, 4, 1, 0, 2);
        row(x, 0, 0, 2, 1, 3, 4, 5);
        Check.same("29: n 0", x.core(0, 1, 0), -1);
        Check.same("29: n 7", x.core(7, 1, 0), -1);
        Check.same("29: n below", x.core(-1, 1, 0), -1);
        Check.same("29: i below", x.core(6, 1, -1), -1);
        Check.same("29: i behind", x.core(6, 1, 6), -1);
        Check.same("29: i behind n", x.core(2, 1, 2), -1);
    }

    private static void row(BlackRoad x, int seed, int... due) {
        for (int n = 1; n <= due.length; n++) {
            for (int i = 0; i < n; i++) Check.same("29: core " + n + " " + seed + " " + i, x.core(n, seed, i), due[i]);
        }
    }

    private static void abouts() {
        // Promise 30, "0 SECTIONS, 1 LAYERS, 2 PLANTS, 3 TRUCKS, 4 CARRY, 5 ROLLERS, 6 CLAUSES, 7 WORLDS, 8 JOBS, 9 TONNES
        // .. of all JOBS (0 without LEVELS), 10 bytes of the tape. NONE for others."
        BlackRoad x = small(3, 50, 7);
        x.layer(30, 0);
        x.roller(1, 20);
        x.feed(0, 0, 0, 0, 0);
        int[] due = {3, 2, 1, 7, 5, 1, 1, 1, 6, 3 * 17 + 3 * 26, 20};
        for (int what = 0; what < due.length; what++) Check.same("30: about " + what, x.about(what), due[what]);
        Check.same("30: -1", x.about(-1), -1);
        Check.same("30: 11", x.about(11), -1);
        BlackRoad y = new BlackRoad();
        y.layer(20, 0);
        Check.same("30: no levels", y.about(9), 0);
        Check.same("30: no jobs", y.about(8), 0);
    }
}
