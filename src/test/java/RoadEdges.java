/** The edges of part I, the road, and of promises 1 to 7. */
final class RoadEdges {
    private RoadEdges() {
    }

    static void run() {
        sectionRanges();
        sectionRefused();
        widths();
        smooth();
        deep();
        newLevels();
        costs();
        likeLevels();
        evenRefused();
        levelsEmpty();
        levelOthers();
        layerRanges();
        layerRefused();
        jobRows();
        depths();
        tonnes();
        jobOthers();
    }

    private static BlackRoad olds(int... olds) {
        BlackRoad x = new BlackRoad();
        for (int old : olds) x.section(250, old);
        return x;
    }

    private static void best(BlackRoad x, int cost, int... levels) {
        Check.same("COST", x.levels(), cost);
        for (int s = 0; s < levels.length; s++) Check.same("NEW LEVEL of " + s, x.level(s), levels[s]);
    }

    private static void sectionRanges() {
        Check.sentence("Terms I", "THE ROAD. SECTIONS 0 .. 11, each LONG (10 .. 500 m), with an old LEVEL (0 .. 60 mm).");
        BlackRoad x = new BlackRoad();
        x.layer(20, 0);
        Check.same("10 m long", x.section(10, 30), 0);
        Check.same("3.36 tonnes", x.job(0, 3), 4);
        Check.same("500 m long", x.section(500, 30), 1);
        Check.same("168 tonnes", x.job(1, 3), 168);
        Check.same("an old LEVEL of 0", olds(0).level(0), 0);
        Check.same("an old LEVEL of 60", olds(60).level(0), 60);
        for (int s = 2; s < 11; s++) x.section(100, 30);
        Check.same("the last number", x.section(100, 30), 11);
        Check.same("twelve JOBS", x.about(8), 12);
        Check.same("the last one's SECTION", x.job(11, 0), 11);
    }

    private static void sectionRefused() {
        Check.sentence("Promise 2", "NONE for others, or if there are 12.");
        BlackRoad x = Scene.busy();
        String before = Scene.seen(x);
        int[] low = {10, 0};
        int[] high = {500, 60};
        int[] good = {100, 10};
        Scene.refuses("section", -1, low, high, good, v -> x.section(v[0], v[1]));
        Check.sameText("others change nothing", Scene.seen(x), before);
        for (int s = 3; s < 12; s++) Check.same("a number", x.section(10, 8), s);
        String full = Scene.seen(x);
        Check.same("the thirteenth", x.section(10, 0), -1);
        Check.same("a wrong thirteenth", x.section(9, 0), -1);
        Check.sameText("the thirteenth changes nothing", Scene.seen(x), full);
        Check.same("the last SECTION stays", x.level(11), 8);
    }

    private static void widths() {
        Check.sentence("Terms I", "WIDE (20 .. 120 dm; at first 70).");
        BlackRoad x = olds(0);
        x.layer(20, 0);
        Check.same("at first", x.job(0, 3), 84);
        Check.yes("20", x.even(20, 2, 10, 2, 3));
        Check.same("20 dm", x.job(0, 3), 24);
        Check.yes("120", x.even(120, 2, 10, 2, 3));
        Check.same("120 dm", x.job(0, 3), 144);
        Check.no("121", x.even(121, 2, 10, 2, 3));
        Check.same("120 dm stay", x.job(0, 3), 144);
        Check.no("19", x.even(19, 2, 10, 2, 3));
        Check.same("120 dm stay", x.job(0, 3), 144);
    }

    private static void smooth() {
        Check.sentence("Terms I", "two beside one another differ by SMOOTH at most (0 .. 9; at first 2),");
        best(olds(10, 12), 0, 10, 12);
        best(olds(10, 13), 2, 10, 12);
        best(olds(13, 10), 2, 12, 10);
        BlackRoad x = olds(10, 11);
        Check.yes("0", x.even(70, 0, 10, 2, 3));
        best(x, 2, 10, 10);
        Check.no("-1", x.even(70, -1, 10, 2, 3));
        best(x, 2, 10, 10);
        BlackRoad y = olds(10, 19);
        Check.yes("9", y.even(70, 9, 10, 2, 3));
        best(y, 0, 10, 19);
        BlackRoad z = olds(10, 20, 11);
        Check.yes("9", z.even(70, 9, 10, 2, 3));
        best(z, 2, 10, 19, 11);
        Check.no("10", z.even(70, 10, 10, 2, 3));
        best(z, 2, 10, 19, 11);
    }

    private static void deep() {
        Check.sentence("Terms I", "each is the old one less DEEP (0 .. 20; at first 10) at least.");
        best(olds(0, 12), 20, 0, 2);
        best(olds(0, 13), 23, 1, 3);
        BlackRoad x = olds(0, 3);
        Check.yes("0", x.even(70, 2, 0, 2, 3));
        best(x, 3, 1, 3);
        Check.no("-1", x.even(70, 2, -1, 2, 3));
        best(x, 3, 1, 3);
        BlackRoad y = olds(0, 22);
        Check.yes("20", y.even(70, 2, 20, 2, 3));
        best(y, 40, 0, 2);
        BlackRoad z = olds(0, 23);
        Check.yes("20", z.even(70, 2, 20, 2, 3));
        best(z, 43, 1, 3);
        Check.no("21", z.even(70, 2, 21, 2, 3));
        best(z, 43, 1, 3);
    }

    private static void newLevels() {
        Check.sentence("Terms I", "NEW LEVELS (0 .. 60) of SECTIONS:");
        best(olds(0), 0, 0);
        best(olds(60), 0, 60);
        BlackRoad x = olds(0, 20);
        x.even(70, 0, 20, 1, 9);
        best(x, 20, 0, 0);
        BlackRoad y = olds(60, 0);
        y.even(70, 0, 0, 1, 9);
        best(y, 540, 60, 60);
    }

    private static void costs() {
        Check.sentence("Terms I", "COST: MILL for each mm by which the new one is below the old one, "
                + "LAY for each above (1 .. 9 each; at first 2, 3).");
        best(olds(10, 15), 6, 10, 12);
        BlackRoad x = olds(10, 15);
        x.even(70, 2, 0, 2, 3);
        best(x, 9, 13, 15);
        for (int each = 1; each <= 9; each += 8) {
            BlackRoad y = olds(10, 15);
            Check.yes("MILL " + each, y.even(70, 2, 10, each, 9));
            best(y, 3 * each, 10, 12);
            BlackRoad z = olds(10, 15);
            Check.yes("LAY " + each, z.even(70, 2, 0, 9, each));
            best(z, 3 * each, 13, 15);
            for (int bad = 0; bad <= 10; bad += 10) {
                Check.no("MILL " + bad, z.even(70, 2, 0, bad, 5));
                Check.no("LAY " + bad, z.even(70, 2, 0, 5, bad));
            }
            best(z, 3 * each, 13, 15);
        }
    }

    private static void likeLevels() {
        Check.sentence("Terms I", "THE BEST LEVELS: the least COST; of like ones the first by SECTIONS, the lower "
                + "first.");
        // 10 12, 11 13 and 12 14 cost the same
        BlackRoad x = olds(10, 14);
        x.even(70, 2, 10, 3, 3);
        best(x, 6, 10, 12);
        // 12 10, 13 11 and 14 12
        BlackRoad w = olds(14, 10);
        w.even(70, 2, 10, 3, 3);
        best(w, 6, 12, 10);
        // 1 0 1, 1 1 2 and 1 2 3: SECTION 0 is the same in all
        BlackRoad y = olds(1, 0, 3);
        y.even(70, 1, 10, 1, 1);
        best(y, 2, 1, 0, 1);
        BlackRoad z = olds(0, 0, 4);
        z.even(70, 1, 10, 1, 1);
        best(z, 3, 0, 0, 1);
        // a dearer LAY leaves one alone
        y.even(70, 1, 10, 1, 2);
        best(y, 2, 1, 0, 1);
        y.even(70, 1, 10, 2, 1);
        best(y, 2, 1, 2, 3);
    }

    private static void evenRefused() {
        Check.sentence("Promise 3", "WIDE, SMOOTH, DEEP, MILL, LAY: true. False, changing nothing, for others.");
        BlackRoad x = Scene.busy();
        Check.yes("others than at first", x.even(60, 1, 9, 4, 5));
        String before = Scene.seen(x);
        int[] low = {20, 0, 0, 1, 1};
        int[] high = {120, 9, 20, 9, 9};
        int[] good = {90, 3, 5, 1, 8};
        Scene.refuses("even", 0, low, high, good, v -> Scene.count(x.even(v[0], v[1], v[2], v[3], v[4])));
        Check.sameText("others change nothing", Scene.seen(x), before);
        Check.yes("the least of all", x.even(20, 0, 0, 1, 1));
        Check.yes("the most of all", x.even(120, 9, 20, 9, 9));
    }

    private static void levelsEmpty() {
        Check.sentence("Promise 4", "COST of THE BEST LEVELS. NONE: no SECTIONS, or there are none such.");
        BlackRoad x = new BlackRoad();
        Check.same("no SECTIONS", x.levels(), -1);
        x.section(9, 0);
        Check.same("none came", x.levels(), -1);
        x.section(10, 0);
        Check.same("one", x.levels(), 0);
        // there always are some: all of 60 keep to SMOOTH and to DEEP
        BlackRoad y = new BlackRoad();
        for (int s = 0; s < 12; s++) y.section(10, s % 2 * 60);
        Check.yes("nothing is milled", y.even(70, 0, 0, 9, 9));
        Check.same("the dearest", y.levels(), 6 * 60 * 9);
        Check.same("all are 60", y.level(10), 60);
    }

    private static void levelOthers() {
        Check.sentence("Promise 5", "The NEW LEVEL of a SECTION. NONE for others, and as levels().");
        BlackRoad x = new BlackRoad();
        Check.same("no SECTIONS", x.level(0), -1);
        x.section(10, 7);
        x.section(10, 9);
        Check.same("the first", x.level(0), 7);
        Check.same("the last", x.level(1), 9);
        for (int bad : new int[] {-1, 2, 11, 12, Integer.MIN_VALUE, Integer.MAX_VALUE}) {
            Check.same("SECTION " + bad, x.level(bad), -1);
        }
    }

    private static void layerRanges() {
        Check.sentence("Terms I", "LAYERS 0 .. 2, each THICK (20 .. 200 mm), of a KIND (0 .. 2).");
        BlackRoad x = olds(0);
        Check.same("the first", x.layer(20, 0), 0);
        Check.same("20 mm", x.job(0, 2), 20);
        Check.same("the second", x.layer(200, 2), 1);
        Check.same("200 mm", x.job(1, 2), 200);
        Check.same("the third", x.layer(21, 1), 2);
        Check.same("three JOBS", x.about(8), 3);
        Check.same("the last one's LAYER", x.job(2, 1), 2);
        // each KIND is mixed by a PLANT of it alone
        for (int kind = 0; kind < 3; kind++) {
            BlackRoad y = olds(0);
            y.layer(20, kind);
            y.plant((kind + 1) % 3, 10, 200, 1);
            y.plant((kind + 2) % 3, 10, 200, 1);
            Check.same("no PLANT of KIND " + kind, y.run(0, 20, 0), -1);
            y.plant(kind, 10, 200, 1);
            Check.same("a PLANT of KIND " + kind, y.load(0, 20, 0, 3), 2);
        }
    }

    private static void layerRefused() {
        Check.sentence("Promise 6", "A LAYER: its number. NONE for others, or if there are 3.");
        BlackRoad x = Scene.busy();
        String before = Scene.seen(x);
        int[] low = {20, 0};
        int[] high = {200, 2};
        int[] good = {30, 0};
        Scene.refuses("layer", -1, low, high, good, v -> x.layer(v[0], v[1]));
        Check.sameText("others change nothing", Scene.seen(x), before);
        Check.same("the third", x.layer(30, 0), 2);
        String full = Scene.seen(x);
        Check.same("the fourth", x.layer(30, 0), -1);
        Check.same("a wrong fourth", x.layer(201, 3), -1);
        Check.sameText("the fourth changes nothing", Scene.seen(x), full);
    }

    private static void jobRows() {
        Check.sentence("Terms I", "JOBS: LAYER by LAYER, in each SECTION by SECTION: JOB layer * SECTIONS + section.");
        BlackRoad x = new BlackRoad();
        for (int l = 0; l < 3; l++) x.layer(20 + l, 0);
        for (int s = 0; s < 12; s++) x.section(10 + s, 0);
        for (int j = 0; j < 36; j++) {
            Check.same("SECTION of " + j, x.job(j, 0), j % 12);
            Check.same("LAYER of " + j, x.job(j, 1), j / 12);
        }
        Check.same("behind the last", x.job(36, 0), -1);
        Check.same("all", x.about(8), 36);
        // with each SECTION the numbers of the JOBS of upper LAYERS shift
        BlackRoad y = olds(0);
        y.layer(20, 0);
        y.layer(30, 0);
        Check.same("JOB 1 is above", y.job(1, 2), 30);
        y.section(10, 0);
        Check.same("JOB 1 is beside", y.job(1, 2), 20);
        Check.same("JOB 2 is above", y.job(2, 2), 30);
    }

    private static void depths() {
        Check.sentence("Terms I", "DEPTH of a JOB: THICK of its LAYER, of LAYER 0 besides what THE BEST LEVELS are "
                + "above the old one there.");
        BlackRoad x = olds(0, 12, 30);
        x.layer(50, 0);
        x.layer(60, 0);
        // by 16 and by 6 above, by 10 below
        x.even(70, 2, 10, 2, 1);
        best(x, 16 + 6 + 2 * 10, 16, 18, 20);
        Check.same("16 above", x.job(0, 2), 66);
        Check.same("6 above", x.job(1, 2), 56);
        Check.same("what is milled takes nothing off", x.job(2, 2), 50);
        for (int j = 3; j < 6; j++) Check.same("another LAYER has its THICK alone", x.job(j, 2), 60);
        BlackRoad y = olds(0, 60);
        y.layer(200, 0);
        y.even(120, 0, 0, 1, 1);
        Check.same("the deepest", y.job(0, 2), 260);
    }

    private static void tonnes() {
        Check.sentence("Terms I", "TONNES: LONG * WIDE * DEPTH * 24 / 100000, one more if that isn't whole.");
        // 3 exactly; 118 and 8 / 100000; 79 and 99992 / 100000; less than one; the most of an even road
        weigh(10, 25, 50, 3);
        weigh(317, 47, 33, 119);
        weigh(111, 91, 33, 80);
        weigh(10, 20, 20, 1);
        weigh(500, 120, 200, 2880);
        BlackRoad x = new BlackRoad();
        x.section(500, 0);
        x.section(500, 60);
        x.layer(200, 0);
        x.even(120, 0, 0, 1, 1);
        Check.same("the most of one", x.job(0, 3), 3744);
    }

    private static void weigh(int length, int wide, int thick, int due) {
        BlackRoad x = new BlackRoad();
        x.section(length, 0);
        x.layer(thick, 0);
        x.even(wide, 2, 10, 2, 3);
        Check.same("TONNES of " + length + " m, " + wide + " dm, " + thick + " mm", x.job(0, 3), due);
        Check.same("of all", x.about(9), due);
    }

    private static void jobOthers() {
        Check.sentence("Promise 7", "Of a JOB: 0 SECTION, 1 LAYER, 2 DEPTH, 3 TONNES. NONE for others, and without "
                + "LEVELS.");
        BlackRoad x = new BlackRoad();
        Check.same("without SECTIONS and LAYERS", x.job(0, 0), -1);
        x.layer(20, 0);
        Check.same("without LEVELS", x.job(0, 2), -1);
        x.section(10, 0);
        for (int what = 0; what < 4; what++) Check.yes("what " + what, x.job(0, what) >= 0);
        for (int bad : new int[] {-1, 1, 12, 36, Integer.MIN_VALUE, Integer.MAX_VALUE}) {
            Check.same("JOB " + bad, x.job(bad, 3), -1);
        }
        for (int bad : new int[] {-1, 4, Integer.MIN_VALUE, Integer.MAX_VALUE}) {
            Check.same("what " + bad, x.job(0, bad), -1);
        }
        BlackRoad y = new BlackRoad();
        y.section(10, 0);
        Check.same("without LAYERS", y.job(0, 0), -1);
    }
}
