/** The edges of part IV, cooling, rolling and joints, and of promises 25 and 26. */
final class CoolEdges {
    private CoolEdges() {
    }

    static void run() {
        shells();
        flowsCut();
        conduction();
        meanCut();
        known();
        passTimes();
        passBegins();
        passHeat();
        passOrder();
        likeJobs();
        missed();
        joints();
        lastOfAll();
        laidOthers();
        noPass();
        meanOthers();
    }

    private static final String COOLING = "COOLING of a JOB: five SHELLS, from the top; at LAID all have its HEAT. "
            + "Each MINUTE, by what was there: "
            + "between two beside one another (upper less lower) * C / 1000 goes down; from the top shell (it less "
            + "AIR) * W / 1000 goes off, "
            + "from the lowest (it less GROUND) * G / 1000 (all cut towards 0).";

    /** MEAN of one JOB that was laid with this heat, told once more with C given. */
    private static int meanTold(int heat, int c, int air, int ground, int w, int g, int minutes) {
        int[] shell = {heat, heat, heat, heat, heat};
        for (int minute = 0; minute < minutes; minute++) {
            int off = (shell[0] - air) * w / 1000;
            int down0 = (shell[0] - shell[1]) * c / 1000;
            int down1 = (shell[1] - shell[2]) * c / 1000;
            int down2 = (shell[2] - shell[3]) * c / 1000;
            int down3 = (shell[3] - shell[4]) * c / 1000;
            int out = (shell[4] - ground) * g / 1000;
            shell[0] -= off + down0;
            shell[1] += down0 - down1;
            shell[2] += down1 - down2;
            shell[3] += down2 - down3;
            shell[4] += down3 - out;
        }
        return (shell[0] + shell[1] + shell[2] + shell[3] + shell[4]) / 5;
    }

    /** One JOB of this DEPTH and HEAT: as hot as the mix is made, or of mix of 100 that waits so long for the road. */
    private static BlackRoad laid(int thick, int heat) {
        BlackRoad x = new BlackRoad();
        x.section(10, 0);
        x.even(20, 2, 10, 2, 3);
        x.layer(thick, 0);
        x.plant(0, 10, 200, 1);
        x.trucks(1, 30);
        if (heat >= 100) {
            x.heat(heat, 20, 0, 80, 70);
            Check.hours(x, "haul 0 1 from 0;");
        } else {
            x.heat(100, 1, 0, 80, 70);
            Check.hours(x, "haul 0 1 from 0; open " + (101 - heat) + " to 4319;");
        }
        Check.same("its HEAT", x.laid(0, 20, 0, 2), heat);
        return x;
    }

    private static void shells() {
        Check.sentence("Terms IV", COOLING);
        BlackRoad x = laid(20, 160);
        Check.same("as it is laid", x.mean(0, 20, 0, 0), 160);
        // 8 go off from the top and 5 from the lowest: 787 / 5
        Check.same("a MINUTE", x.mean(0, 20, 0, 1), 157);
        for (int minutes = 0; minutes <= 600; minutes += 7) {
            Check.same("MEAN at " + minutes, x.mean(0, 20, 0, minutes), meanTold(160, 400, 15, 20, 60, 40, minutes));
        }
        // each flow by what was there, not by what has just come: the more goes, the sooner it is seen
        x.weather(-20, 60, 200, 200);
        for (int minutes = 0; minutes <= 40; minutes++) {
            Check.same("MEAN at " + minutes, x.mean(0, 20, 0, minutes), meanTold(160, 400, -20, 60, 200, 200, minutes));
        }
    }

    private static void flowsCut() {
        Check.sentence("Terms IV", "(all cut towards 0).");
        // 999 / 1000 is nothing, 1008 / 1000 is one; from colder ones it is the same the other way round
        int[][] due = {{126, 15, 9, 20, 1, 126}, {126, 14, 9, 20, 1, 125}, {111, 0, 9, 0, 1, 111}, {112, 0, 9, 0, 1, 111},
            {111, 0, 1, 0, 9, 111}, {112, 0, 1, 0, 9, 111}, {0, 50, 19, 0, 1, 0}, {0, 50, 99, 0, 1, 0},
            {0, 50, 100, 0, 1, 1}, {0, 0, 1, 60, 83, 0}, {0, 0, 1, 60, 84, 1}, {0, -20, 200, 0, 1, 0},
            {0, -20, 200, -20, 49, 0}, {0, -20, 200, -20, 50, -1}};
        for (int[] v : due) {
            BlackRoad x = laid(20, v[0]);
            x.weather(v[1], v[3], v[2], v[4]);
            int off = (v[0] - v[1]) * v[2] / 1000;
            int out = (v[0] - v[3]) * v[4] / 1000;
            Check.same("of " + v[0] + " by " + v[1] + " " + v[2] + " " + v[3] + " " + v[4], x.mean(0, 20, 0, 1),
                    (5 * v[0] - off - out) / 5);
            Check.same("told", (5 * v[0] - off - out) / 5, v[5]);
        }
        // between SHELLS: 2 * 400 / 1000 is nothing, 3 * 400 / 1000 is one, down and up
        for (int heat : new int[] {0, 40, 100}) {
            BlackRoad x = laid(20, heat);
            x.weather(50, -20, 40, 40);
            for (int minutes = 0; minutes <= 60; minutes++) {
                Check.same("MEAN at " + minutes, x.mean(0, 20, 0, minutes),
                        meanTold(heat, 400, 50, -20, 40, 40, minutes));
            }
        }
    }

    private static void conduction() {
        Check.sentence("Terms IV", "C: 400000 / (DEPTH * DEPTH), 400 at most.");
        // DEPTH, C, HEAT, AIR, GROUND, W, G, and other C that would be seen: 1000 and 416 if they weren't held,
        // 391 and 98 rounded up
        int[][] due = {{20, 400, 200, -20, 20, 184, 199, 399, 1000}, {31, 400, 200, 15, 20, 192, 109, 399, 416},
            {32, 390, 193, -9, -17, 107, 198, 391, 400}, {33, 367, 196, -14, 13, 6, 166, 366, 400},
            {64, 97, 155, 50, 60, 193, 127, 96, 98}, {100, 40, 200, 15, 60, 106, 179, 39, 41},
            {199, 10, 200, 15, 20, 78, 140, 9, 11}, {200, 10, 173, -20, 20, 195, 161, 9, 11}};
        for (int[] row : due) {
            BlackRoad x = laid(row[0], row[2]);
            Check.same("DEPTH", x.job(0, 2), row[0]);
            x.weather(row[3], row[4], row[5], row[6]);
            int seen = 0;
            for (int minutes = 0; minutes <= 60; minutes++) {
                int told = meanTold(row[2], row[1], row[3], row[4], row[5], row[6], minutes);
                Check.same("MEAN of " + row[0] + " mm at " + minutes, x.mean(0, 20, 0, minutes), told);
                if (told != meanTold(row[2], row[7], row[3], row[4], row[5], row[6], minutes)) seen |= 1;
                if (told != meanTold(row[2], row[8], row[3], row[4], row[5], row[6], minutes)) seen |= 2;
            }
            Check.same("another C would be seen at " + row[0], seen, 3);
        }
        // DEPTH with what is filled: 260 mm, C 5
        BlackRoad y = new BlackRoad();
        y.section(10, 0);
        y.section(10, 60);
        y.even(20, 0, 0, 2, 3);
        y.layer(200, 0);
        y.plant(0, 10, 200, 1);
        Check.hours(y, "haul 0 1 from 0;");
        y.weather(50, -20, 35, 198);
        y.heat(200, 20, 0, 80, 70);
        Check.same("260 mm", y.job(0, 2), 260);
        int seen = 0;
        for (int minutes = 0; minutes <= 60; minutes++) {
            int told = meanTold(200, 5, 50, -20, 35, 198, minutes);
            Check.same("MEAN of 260 mm at " + minutes, y.mean(0, 20, 0, minutes), told);
            if (told != meanTold(200, 4, 50, -20, 35, 198, minutes)) seen |= 1;
            if (told != meanTold(200, 6, 50, -20, 35, 198, minutes)) seen |= 2;
        }
        Check.same("another C would be seen at 260", seen, 3);
    }

    private static void meanCut() {
        Check.sentence("Terms IV", "MEAN: all SHELLS / 5, cut.");
        // 500 less 5 is 495, less 6 is 494
        BlackRoad x = laid(20, 100);
        x.weather(50, 0, 100, 1);
        Check.same("495", x.mean(0, 20, 0, 1), 99);
        x.weather(50, -20, 100, 9);
        Check.same("494", x.mean(0, 20, 0, 1), 98);
        x.weather(50, 0, 79, 1);
        Check.same("497", x.mean(0, 20, 0, 1), 99);
        // below 0 it is cut towards 0 as well: -4, -5 and -8
        BlackRoad y = laid(20, 0);
        y.weather(-20, -20, 200, 1);
        Check.same("-4", y.mean(0, 20, 0, 1), 0);
        y.weather(-20, -20, 200, 50);
        Check.same("-5", y.mean(0, 20, 0, 1), -1);
        y.weather(-20, -20, 200, 200);
        Check.same("-8", y.mean(0, 20, 0, 1), -1);
    }

    private static void known() {
        Check.sentence("Terms IV", "It is known to 600 MINUTES behind LAID; later it is as then.");
        // with this weather MEAN goes to and fro between 31 in even and 32 in odd MINUTES; from 600 on it stays 31
        BlackRoad x = Scene.small(2, 10, 4);
        x.weather(50, 20, 75, 157);
        x.heat(200, 20, 0, 200, 32);
        for (int minutes = 590; minutes <= 600; minutes++) {
            Check.same("MEAN at " + minutes, x.mean(0, 20, 0, minutes), 31 + minutes % 2);
        }
        // JOB 1 begins so long behind LAID of JOB 0
        for (int behind : new int[] {597, 598, 599, 600, 601, 602, 603, 4001}) {
            Check.hours(x, "haul 0 1 from 0; open 3 to 3; open " + (3 + behind) + " to 4319;");
            Check.same("begins", x.laid(0, 4, 1, 0), 3 + behind);
            boolean warm = behind < 600 && behind % 2 == 1;
            Check.same("its JOINT " + behind + " behind", x.laid(0, 4, 1, 3), warm ? 0 : 1);
        }
        // JOB 1 is above JOB 0, and FIRM is 31: it may be laid in even MINUTES, and in all from 600 on
        BlackRoad y = Scene.small(1, 10, 2);
        y.layer(20, 0);
        y.weather(50, 20, 75, 157);
        y.heat(200, 20, 0, 31, 0);
        for (int behind : new int[] {598, 599, 600, 601, 602, 603, 4001}) {
            Check.hours(y, "haul 0 1 from 0; open 3 to 3; open " + (3 + behind) + " to 4319;");
            int waits = behind < 600 ? behind % 2 : 0;
            Check.same("it may be laid " + behind + " behind", y.laid(0, 4, 1, 0), 3 + behind + waits);
        }
    }

    private static void passTimes() {
        Check.sentence("Terms IV", "A PASS takes LONG / SPEED MINUTES, rounded up.");
        int[][] due = {{10, 10, 1}, {11, 10, 2}, {19, 10, 2}, {20, 10, 2}, {21, 10, 3}, {99, 100, 1}, {100, 100, 1},
            {101, 100, 2}, {500, 10, 50}, {491, 10, 50}, {490, 10, 49}, {500, 100, 5}, {500, 51, 10}, {500, 50, 10},
            {500, 49, 11}};
        for (int[] row : due) {
            BlackRoad x = Scene.small(1, row[0], 16);
            x.roller(0, row[1]);
            x.sort(0, 200, 0, 2);
            int laidAt = x.laid(0, 20, 0, 1);
            Check.same(row[0] + " m at " + row[1], x.laid(0, 20, 0, 7), laidAt + 1 + 2 * row[2]);
        }
    }

    private static final String BEGIN = "A ROLLER may begin a PASS on a JOB in a MINUTE behind LAID to 600 behind it, "
            + "if MEAN is from LOW to TOP of its SORT, "
            + "all PASSES of lower SORTS there are over, not all of its SORT were begun, and none goes on there.";

    private static void passBegins() {
        Check.sentence("Terms IV", BEGIN);
        // not in LAID itself, when it is 160
        BlackRoad x = Scene.small(1, 10, 1);
        x.roller(0, 10);
        x.sort(0, 160, 158, 1);
        Check.same("160 at LAID alone", x.laid(0, 20, 0, 4), 1);
        x.sort(0, 160, 157, 1);
        Check.same("157 behind it", x.laid(0, 20, 0, 7), 3 + 1 + 1);
        // nor of a JOB that is LAID while the ROLLER is at work: JOB 1 at 4
        BlackRoad z = Scene.small(2, 10, 2);
        z.roller(0, 10);
        z.sort(0, 160, 158, 1);
        Check.same("JOB 1 is LAID", z.laid(0, 20, 1, 1), 4);
        Check.same("JOB 1 is 160 at LAID alone", z.laid(0, 20, 1, 4), 1);
        z.sort(0, 160, 157, 1);
        Check.same("JOB 0 at 4", z.laid(0, 20, 0, 7), 5);
        Check.same("JOB 1 at 5", z.laid(0, 20, 1, 7), 6);
        // the last one at 600: PromiseTest.last600 has those that begin at 600 and that would begin at 601
        BlackRoad y = Scene.small(1, 490, 6);
        y.roller(0, 10);
        y.roller(1, 10);
        y.roller(2, 45);
        y.sort(0, 200, 0, 9);
        y.sort(1, 200, 0, 3);
        y.sort(2, 200, 0, 9);
        Check.same("of nine the second begins at 600", y.laid(0, 20, 0, 6), 7);
        Check.same("it goes on to 610", y.laid(0, 20, 0, 7), y.laid(0, 20, 0, 1) + 611);
        // all begun is all
        y.sort(0, 200, 0, 3);
        y.sort(1, 200, 0, 0);
        Check.same("nine of SORT 2 behind three of SORT 0", y.laid(0, 20, 0, 7),
                y.laid(0, 20, 0, 1) + 1 + 3 * 49 + 9 * 11);
    }

    private static void passHeat() {
        Check.sentence("Terms IV", "if MEAN is from LOW to TOP of its SORT");
        // 157, 154, 152, 150, 147 in the MINUTES behind LAID at 3
        BlackRoad x = Scene.small(1, 10, 1);
        x.roller(0, 10);
        int[][] due = {{157, 157, 5}, {156, 155, -1}, {156, 154, 6}, {154, 154, 6}, {153, 152, 7}, {200, 157, 5},
                {200, 158, -1}, {151, 150, 8}, {149, 148, -1}, {149, 147, 9}};
        for (int[] row : due) {
            x.sort(0, row[0], row[1], 1);
            Check.same("from " + row[1] + " to " + row[0], x.laid(0, 20, 0, 7), row[2]);
        }
    }

    private static void passOrder() {
        Check.sentence("Terms IV", "all PASSES of lower SORTS there are over, not all of its SORT were begun, and none "
                + "goes on there.");
        // 30 m at 10: three MINUTES each
        BlackRoad x = new BlackRoad();
        x.section(30, 0);
        x.even(20, 2, 10, 2, 3);
        x.layer(20, 0);
        x.plant(0, 10, 200, 1);
        Check.hours(x, "haul 0 1 from 0;");
        int laidAt = x.laid(0, 20, 0, 1);
        x.sort(0, 200, 0, 1);
        x.sort(1, 200, 0, 1);
        x.sort(2, 200, 0, 1);
        x.roller(2, 10);
        Check.same("SORT 2 never, of 0 and 1 there are none", x.laid(0, 20, 0, 6), 1);
        x.roller(1, 10);
        Check.same("SORT 1 never", x.laid(0, 20, 0, 5), 1);
        x.roller(0, 10);
        Check.same("all in their order, each as the one ahead is over", x.laid(0, 20, 0, 7), laidAt + 1 + 9);
        x.sort(1, 200, 0, 0);
        Check.same("without PASSES of SORT 1", x.laid(0, 20, 0, 7), laidAt + 1 + 6);
        x.sort(1, 0, 0, 1);
        Check.same("those that are missed are never over", x.laid(0, 20, 0, 6), 1);
        Check.same("SORT 0 alone", x.laid(0, 20, 0, 7), laidAt + 1 + 3);
        // two of a SORT: none begins while one goes on there
        x.sort(1, 200, 0, 0);
        x.sort(2, 200, 0, 0);
        x.sort(0, 200, 0, 4);
        Check.same("one ROLLER", x.laid(0, 20, 0, 7), laidAt + 1 + 12);
        x.roller(0, 10);
        Check.same("two do no more", x.laid(0, 20, 0, 7), laidAt + 1 + 12);
        Check.same("and not more than all", x.laid(0, 20, 0, 4), 0);
        passesThere();
    }

    /** Two JOBS are laid at 9; one of them alone has its PASS of SORT 0: those on the other don't count. */
    private static void passesThere() {
        BlackRoad x = Scene.small(2, 10, 2);
        Check.hours(x, "haul 0 1 from 0; open 9 to 9;");
        x.heat(160, 1, 0, 80, 70);
        x.sort(1, 200, 0, 1);
        x.sort(2, 200, 0, 1);
        for (int sort = 0; sort < 3; sort++) x.roller(sort, 10);
        int[] mean = {x.mean(0, 20, 0, 1), x.mean(0, 20, 1, 1)};
        Check.yes("JOB 1 is hotter, its LOAD was begun later", mean[0] < mean[1]);
        Check.yes("JOB 1 is colder than JOB 0 was, a MINUTE later", x.mean(0, 20, 1, 2) < mean[0]);
        for (int j = 0; j < 2; j++) {
            x.sort(0, mean[j], mean[j], 1);
            Check.same("SORT 0 on JOB " + j, x.laid(0, 20, j, 4), 0);
            Check.same("so SORT 1 behind it", x.laid(0, 20, j, 5), 0);
            Check.same("and SORT 2 behind both", x.laid(0, 20, j, 6), 0);
            Check.same("at 10, 11 and 12", x.laid(0, 20, j, 7), 13);
            Check.same("SORT 0 not on the other", x.laid(0, 20, 1 - j, 4), 1);
            Check.same("so SORT 1 isn't, either", x.laid(0, 20, 1 - j, 5), 1);
            Check.same("nor SORT 2", x.laid(0, 20, 1 - j, 6), 1);
            Check.same("no PASS there", x.laid(0, 20, 1 - j, 7), -1);
        }
    }

    private static void likeJobs() {
        Check.sentence("Terms IV", "MINUTE by MINUTE, by numbers, each that is free begins one on the JOB where it may "
                + "and MEAN is least, of like ones the lowest.");
        // three JOBS laid at 9 with 160
        BlackRoad x = Scene.small(3, 10, 3);
        Check.hours(x, "haul 0 1 from 0; open 9 to 9;");
        x.heat(160, 20, 0, 80, 70);
        x.sort(0, 200, 0, 1);
        x.roller(0, 10);
        for (int j = 0; j < 3; j++) Check.same("of like ones the lowest: " + j, x.laid(0, 20, j, 7), 11 + j);
        x.roller(0, 10);
        int[] two = {11, 11, 12};
        for (int j = 0; j < 3; j++) Check.same("by two: " + j, x.laid(0, 20, j, 7), two[j]);
        // the second one is slower: it takes the JOB that the first left
        BlackRoad y = Scene.small(2, 20, 4);
        Check.hours(y, "haul 0 1 from 0; open 9 to 9;");
        y.heat(160, 20, 0, 80, 70);
        y.sort(0, 200, 0, 1);
        y.roller(0, 20);
        y.roller(0, 10);
        Check.same("the first ROLLER on the first JOB", y.laid(0, 20, 0, 7), 11);
        Check.same("the second on the second", y.laid(0, 20, 1, 7), 12);
        // the one that was laid first is colder, whatever its number: JOB 0 at 3, JOB 1 at 4
        BlackRoad z = Scene.small(2, 10, 2);
        z.sort(0, 153, 0, 1);
        z.roller(0, 10);
        Check.same("the colder", z.laid(0, 20, 0, 7), 7);
        Check.same("then the other", z.laid(0, 20, 1, 7), 8);
        colderIsHigher();
    }

    /** JOB 1 is thinner, so that it becomes the colder one though both were laid at 9. */
    private static void colderIsHigher() {
        BlackRoad x = new BlackRoad();
        x.section(10, 0);
        x.section(10, 20);
        x.even(20, 0, 0, 2, 3);
        x.layer(30, 0);
        x.plant(0, 10, 200, 1);
        x.trucks(2, 5);
        x.heat(160, 20, 0, 80, 70);
        x.weather(-20, -20, 200, 200);
        Check.hours(x, "haul 0 1 from 0; open 9 to 9;");
        Check.same("50 mm", x.job(0, 2), 50);
        Check.same("30 mm", x.job(1, 2), 30);
        int behind = 1;
        while (behind < 20 && x.mean(0, 20, 0, behind) <= x.mean(0, 20, 1, behind)) behind++;
        Check.yes("the thinner one is colder then", x.mean(0, 20, 1, behind) < x.mean(0, 20, 0, behind));
        int top = x.mean(0, 20, 0, behind);
        Check.yes("and both are hotter ahead of it", x.mean(0, 20, 1, behind - 1) > top);
        x.sort(0, top, 0, 1);
        x.roller(0, 10);
        Check.same("the colder, the higher number", x.laid(0, 20, 1, 7), 9 + behind + 1);
        Check.same("then the other", x.laid(0, 20, 0, 7), 9 + behind + 2);
    }

    private static void missed() {
        Check.sentence("Terms IV", "MISSED of a JOB and a SORT: PASSES that were never begun.");
        BlackRoad x = Scene.small(1, 500, 6);
        x.sort(1, 0, 0, 0);
        x.sort(2, 0, 0, 0);
        for (int passes = 0; passes <= 9; passes++) {
            x.sort(0, 200, 0, passes);
            Check.same("without a ROLLER", x.laid(0, 20, 0, 4), passes);
        }
        x.roller(0, 10);
        Check.same("all nine are begun", x.laid(0, 20, 0, 4), 0);
        // 50 MINUTES each while MEAN is from 100 to 157: the last one begun isn't MISSED,
        // though it is over when it is colder
        x.sort(0, 157, 100, 9);
        int heat = x.laid(0, 20, 0, 2);
        int due = 0;
        for (int behind = 1; meanTold(heat, 400, 15, 20, 60, 40, behind) >= 100; behind += 50) {
            if (meanTold(heat, 400, 15, 20, 60, 40, behind) <= 157) due++;
        }
        Check.yes("some are begun", due > 0 && due < 9);
        Check.same("those begun", x.laid(0, 20, 0, 4), 9 - due);
        Check.same("the last goes on", x.laid(0, 20, 0, 7), x.laid(0, 20, 0, 1) + 1 + 50 * due);
        Check.yes("to where it is colder", x.mean(0, 20, 0, 50 * due) < 100);
    }

    private static void joints() {
        Check.sentence("Terms IV", "JOINT of a JOB with the one ahead of it in its LAYER: COLD, if that one's MEAN in "
                + "the MINUTE of this JOB's first tonne "
                + "is below JOIN (0 .. 200; at first 70). (SECTION 0 has none.)");
        // JOB 0 is laid at 3, JOB 1 begins at 4, JOB 2 above JOB 0 at 7
        BlackRoad x = Scene.small(2, 10, 2);
        x.layer(20, 0);
        for (int join : new int[] {0, 156, 157, 158, 200}) {
            x.heat(160, 4, 0, 200, join);
            Check.same("157 by JOIN " + join, x.laid(0, 20, 1, 3), join > 157 ? 1 : 0);
            Check.same("SECTION 0 by JOIN " + join, x.laid(0, 20, 0, 3), 0);
            Check.same("SECTION 0 of LAYER 1 by JOIN " + join, x.laid(0, 20, 2, 3), 0);
            Check.same("SECTION 1 of LAYER 1 by JOIN " + join, x.laid(0, 20, 3, 3), join > 157 ? 1 : 0);
        }
        // the first tonne tells, not the last: JOB 1 begins at 4 and ends later at pace 1
        BlackRoad y = Scene.small(2, 10, 2);
        y.heat(160, 4, 0, 200, 157);
        Check.same("JOB 0 ends", y.laid(0, 1, 0, 1), 6);
        Check.same("JOB 1 begins", y.laid(0, 1, 1, 0), 7);
        Check.same("JOB 1 ends", y.laid(0, 1, 1, 1), 10);
        Check.same("157 at 7", y.laid(0, 1, 1, 3), 0);
        y.heat(160, 4, 0, 200, 158);
        Check.same("157 below 158", y.laid(0, 1, 1, 3), 1);
        // one SECTION alone has no JOINT in any LAYER
        BlackRoad z = Scene.small(1, 10, 2);
        z.layer(20, 0);
        z.heat(160, 4, 0, 200, 200);
        Check.same("LAYER 0", z.laid(0, 20, 0, 3), 0);
        Check.same("LAYER 1", z.laid(0, 20, 1, 3), 0);
    }

    /** JOBS 0 .. 35, the greatest number that there may be: each cools and is rolled as the others. */
    private static void lastOfAll() {
        Check.sentence("Terms IV", COOLING);
        BlackRoad x = Scene.small(12, 10, 16);
        x.layer(21, 0);
        x.layer(22, 0);
        x.heat(160, 20, 0, 200, 70);
        for (int s = 0; s < 3; s++) x.sort(s, 200, 0, 2);
        for (int r = 0; r < 6; r++) x.roller(r % 3, 10);
        for (int j = 0; j < 36; j++) {
            int heat = x.laid(0, 20, j, 2);
            for (int minutes : new int[] {0, 1, 30, 565, 566, 599, 600}) {
                Check.same("MEAN of " + j + " at " + minutes, x.mean(0, 20, j, minutes),
                        meanTold(heat, 400, 15, 20, 60, 40, minutes));
            }
            Check.same("nothing MISSED of " + j, x.laid(0, 20, j, 8), 100);
        }
    }

    private static final String LAID = "Of a JOB by a RUN: 0 the MINUTE of its first tonne, 1 LAID, 2 its HEAT, 3 "
            + "whether its JOINT is COLD (1, 0), "
            + "4 .. 6 MISSED of a SORT, 7 the MINUTE behind its last PASS (NONE), 8 DENSE. NONE for others, and as "
            + "run().";

    private static void laidOthers() {
        Check.sentence("Promise 25", LAID);
        BlackRoad x = Scene.busy();
        String before = Scene.seen(x);
        int[] low = {0, 1, 0, 0};
        int[] high = {1, 20, 5, 8};
        int[] good = {0, 4, 1, 1};
        Scene.refuses("laid", -1, low, high, good, v -> x.laid(v[0], v[1], v[2], v[3]));
        Check.sameText("others change nothing", Scene.seen(x), before);
        for (int what = 0; what <= 8; what++) Check.yes("the last JOB, what " + what, x.laid(1, 20, 5, what) >= 0);
        x.layer(20, 1);
        for (int what = 0; what <= 8; what++) Check.same("as run()", x.laid(0, 4, 1, what), -1);
    }

    private static void noPass() {
        Check.sentence("Promise 25", LAID);
        BlackRoad x = Scene.small(1, 10, 1);
        Check.same("without ROLLERS", x.laid(0, 20, 0, 7), -1);
        x.roller(1, 10);
        Check.same("one that never may", x.laid(0, 20, 0, 7), -1);
        x.roller(0, 10);
        Check.yes("two that may", x.laid(0, 20, 0, 7) > 0);
        for (int sort = 0; sort < 3; sort++) x.sort(sort, 200, 0, 0);
        Check.same("no PASSES", x.laid(0, 20, 0, 7), -1);
        Check.same("nothing is MISSED then", x.laid(0, 20, 0, 8), 100);
    }

    private static void meanOthers() {
        Check.sentence("Promise 26", "MEAN of a JOB so many MINUTES (0 .. 600) behind LAID by a RUN. -1000 for others, "
                + "and as run().");
        BlackRoad x = Scene.busy();
        String before = Scene.seen(x);
        int[] low = {0, 1, 0, 0};
        int[] high = {1, 20, 5, 600};
        int[] good = {0, 4, 1, 30};
        Scene.refuses("mean", -1000, low, high, good, v -> x.mean(v[0], v[1], v[2], v[3]));
        Check.sameText("others change nothing", Scene.seen(x), before);
        Check.same("0 behind", x.mean(1, 20, 5, 0), x.laid(1, 20, 5, 2));
        Check.yes("600 behind", x.mean(1, 20, 5, 600) > 0);
        x.layer(20, 1);
        Check.same("as run()", x.mean(0, 4, 1, 30), -1000);
        Check.same("nothing at all", new BlackRoad().mean(0, 1, 0, 0), -1000);
    }
}
