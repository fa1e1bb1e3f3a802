/** The edges of HAUL, SHUT and OPEN, of part III, the runs, and of promises 19 to 24. */
final class RunEdges {
    private RunEdges() {
    }

    static void run() {
        hauls();
        shuts();
        opens();
        worldOthers();
        paceRange();
        making();
        standing();
        sendingOff();
        beginning();
        ordering();
        fewestSent();
        stayingFree();
        paving();
        waiting();
        firm();
        heatCut();
        refused();
        stops();
        done();
        kindWithoutPlant();
        laidHeat();
        runOthers();
        paceNone();
        paceRanks();
        fewestRange();
        loadOthers();
        loadsAreTaken();
        tonneOthers();
        manyLoads();
        mostLoads();
        begunAnew();
    }

    private static void hauls() {
        Check.sentence("Terms II", "In a WORLD: HAUL of a PLANT at a MINUTE: of its haul CLAUSES that hold there the "
                + "one with "
                + "the greatest from not above it, of like ones the latest told; 20 without.");
        BlackRoad x = new BlackRoad();
        Check.hours(x, "haul 1 9 from 9; haul 1 8 from 9; haul 1 5 from 5; haul 1 1 from 4319;"
                + "world 0; haul 1 7 from 9; haul 1 3 from 0; haul 1 4 from 0; world 1; haul 1 120 from 10;");
        int[][] due = {{0, 0, 4}, {0, 4, 4}, {0, 5, 5}, {0, 8, 5}, {0, 9, 7}, {0, 4318, 7}, {0, 4319, 1},
            {1, 0, 20}, {1, 4, 20}, {1, 5, 5}, {1, 8, 5}, {1, 9, 8}, {1, 10, 120}, {1, 4318, 120}, {1, 4319, 1}};
        for (int[] row : due) Check.same("HAUL in " + row[0] + " at " + row[1], x.world(row[0], row[1], 2), row[2]);
        Check.same("20 of another PLANT", x.world(0, 9, 1), 20);
        Check.same("20 of another PLANT", x.world(0, 9, 3), 20);
        // the greater from tells, though the lesser was told later
        Check.hours(x, "haul 0 30 from 7; haul 0 40 from 6;");
        Check.same("at 6", x.world(0, 6, 1), 40);
        Check.same("at 7", x.world(0, 7, 1), 30);
        Check.hours(x, "haul 0 30 from 7; haul 0 50 from 7; haul 0 40 from 7;");
        Check.same("the latest of three", x.world(0, 7, 1), 40);
    }

    private static void shuts() {
        Check.sentence("Terms II", "It is SHUT in MINUTES of its shut CLAUSES.");
        BlackRoad x = new BlackRoad();
        Check.hours(x, "shut 0 0 to 0; shut 2 4319 to 4319; shut 1 5 to 9; shut 1 8 to 12; shut 1 14 to 14;");
        Check.same("at 0", x.world(0, 0, 4), 1);
        Check.same("at 1", x.world(0, 1, 4), 0);
        Check.same("at 4318", x.world(0, 4318, 6), 0);
        Check.same("at 4319", x.world(0, 4319, 6), 1);
        for (int minute = 3; minute <= 16; minute++) {
            boolean shut = minute >= 5 && minute <= 12 || minute == 14;
            Check.same("at " + minute, x.world(0, minute, 5), shut ? 1 : 0);
            Check.same("another PLANT at " + minute, x.world(0, minute, 4), 0);
        }
    }

    private static void opens() {
        Check.sentence("Terms II", "The road is OPEN in MINUTES of open CLAUSES (in all, if no open CLAUSE holds in "
                + "that WORLD), but not in RAIN.");
        BlackRoad x = new BlackRoad();
        Check.hours(x, "rain 7 to 8; world 0; open 0 to 0; open 4319 to 4319; open 5 to 8; open 8 to 9; world 1; rain "
                + "0 to 0; rain 4319 to 4319; world 2; open 8 to 8;");
        for (int minute : new int[] {0, 1, 4, 5, 6, 7, 8, 9, 10, 4318, 4319}) {
            boolean rain = minute == 7 || minute == 8;
            boolean open = minute == 0 || minute == 4319 || minute >= 5 && minute <= 9;
            Check.same("by open CLAUSES at " + minute, x.world(0, minute, 0), open && !rain ? 1 : 0);
            Check.same("in all at " + minute, x.world(1, minute, 0), rain || minute % 4319 == 0 ? 0 : 1);
            Check.same("RAIN in all that is open at " + minute, x.world(2, minute, 0), 0);
        }
        // an open CLAUSE ahead of the worlds holds in all
        Check.hours(x, "open 5 to 5; world 0; world 1; open 7 to 7;");
        Check.same("of all in 0", x.world(0, 5, 0), 1);
        Check.same("of all in 1", x.world(1, 5, 0), 1);
        Check.same("of 1 in 0", x.world(0, 7, 0), 0);
        Check.same("of 1 in 1", x.world(1, 7, 0), 1);
        Check.same("of none in 0", x.world(0, 6, 0), 0);
    }

    private static void worldOthers() {
        Check.sentence("Promise 19", "What a WORLD is in a MINUTE: 0 OPEN (1, 0), 1 .. 3 HAUL of a PLANT 0 .. 2, 4 .. "
                + "6 whether it is SHUT (1, 0; also if there is none such). NONE for others.");
        BlackRoad x = new BlackRoad();
        // no PLANT has come
        Check.hours(x, "haul 0 1 from 0; haul 1 2 from 0; haul 2 3 from 0; shut 0 0 to 1; shut 2 1 to 4319; world 0; "
                + "world 1; rain 4319 to 4319;");
        int[][] due = {{0, 0, 1, 1, 2, 3, 1, 0, 0}, {0, 1, 1, 1, 2, 3, 1, 0, 1}, {1, 4319, 0, 1, 2, 3, 0, 0, 1}};
        for (int[] row : due) {
            for (int what = 0; what <= 6; what++) {
                Check.same(row[0] + " at " + row[1] + " what " + what, x.world(row[0], row[1], what), row[what + 2]);
            }
        }
        String before = Scene.seen(x);
        int[] low = {0, 0, 0};
        int[] high = {1, 4319, 6};
        int[] good = {1, 100, 3};
        Scene.refuses("world", -1, low, high, good, v -> x.world(v[0], v[1], v[2]));
        Check.sameText("others change nothing", Scene.seen(x), before);
    }

    private static void paceRange() {
        Check.sentence("Terms III", "A RUN in a WORLD at a PACE (1 .. 20 tonnes a minute), MINUTE by MINUTE from 0:");
        // five LOADS of 4 tonnes stand there as the road opens
        BlackRoad x = Scene.small(5, 10, 5);
        Check.hours(x, "haul 0 1 from 0; open 50 to 4319;");
        for (int pace = 1; pace <= 20; pace++) {
            Check.same("END at " + pace, x.run(0, pace, 1), 49 + (20 + pace - 1) / pace);
            Check.same("the first at " + pace, x.run(0, pace, 3), 50);
        }
        Check.same("0", x.run(0, 0, 1), -1);
        Check.same("21", x.run(0, 21, 1), -1);
        // the first MINUTE is 0: what is made in it is there at 1
        Check.same("ordered at 0", x.load(0, 20, 0, 4), 0);
        Check.same("begun at 1", x.load(0, 20, 0, 5), 1);
    }

    /** One LAYER of 50 mm on 500 m: 420 tonnes. The truck stands there from 1 on. */
    private static BlackRoad made(int rate, int silo, int trucks, int carry, String hours) {
        BlackRoad x = new BlackRoad();
        x.section(500, 0);
        x.layer(50, 0);
        x.plant(0, rate, silo, 1);
        x.trucks(trucks, carry);
        x.heat(160, 20, 0, 80, 70);
        Check.hours(x, "haul 0 1 from 0;" + hours);
        return x;
    }

    private static void making() {
        Check.sentence("Terms III", "(1) Each PLANT that isn't SHUT makes RATE tonnes into its SILO (what has no room "
                + "isn't made).");
        // 7 at 0, 10 at 1 (not 14): none left for the second, 7 at 2, 10 at 3
        BlackRoad x = made(7, 10, 2, 10, "");
        Check.same("the first", x.load(0, 20, 0, 5), 1);
        Check.same("the second", x.load(0, 20, 1, 5), 3);
        BlackRoad y = made(7, 14, 2, 10, "");
        Check.same("the second, with more room", y.load(0, 20, 1, 5), 2);
        // 5 tonnes by ones: at 4; none is made while it is SHUT, from its first MINUTE to its last
        Check.same("never SHUT", made(1, 10, 1, 5, "").load(0, 20, 0, 5), 4);
        Check.same("SHUT at 0", made(1, 10, 1, 5, "shut 0 0 to 0;").load(0, 20, 0, 5), 5);
        Check.same("SHUT from 1 to 3", made(1, 10, 1, 5, "shut 0 1 to 3;").load(0, 20, 0, 5), 7);
        Check.same("SHUT behind it", made(1, 10, 1, 5, "shut 0 5 to 9;").load(0, 20, 0, 5), 4);
        Check.same("another is SHUT", made(1, 10, 1, 5, "shut 1 0 to 9;").load(0, 20, 0, 5), 4);
    }

    private static void standing() {
        Check.sentence("Terms III", "(2) TRUCKS, by numbers, that come in this MINUTE: at a PLANT, or at the paver, "
                + "each stands behind the others there.");
        // all three come to the PLANT at 1
        BlackRoad x = Scene.small(1, 50, 3);
        for (int k = 0; k < 3; k++) Check.same("by numbers at the PLANT", x.load(0, 20, k, 5), 1 + k);
        // truck 1 comes to the paver at 3, truck 0 at 11; the road opens at 20
        BlackRoad y = Scene.small(1, 20, 2);
        y.plant(0, 10, 200, 1);
        Check.hours(y, "haul 0 5 from 0; haul 1 1 from 0; open 20 to 4319;");
        Check.same("from the nearer PLANT", y.load(0, 20, 1, 3), 1);
        Check.same("the first that came", y.tonne(0, 20, 0), 1);
        Check.same("behind it", y.tonne(0, 20, 2), 0);
        // both at 11
        Check.hours(y, "haul 0 5 from 0; haul 1 5 from 0; open 20 to 4319;");
        Check.same("by numbers", y.tonne(0, 20, 0), 0);
        Check.same("by numbers", y.tonne(0, 20, 5), 1);
        byNumbersNotByPlants();
    }

    /** LOAD 3 is on truck 1 from PLANT 0, LOAD 4 on truck 0 from PLANT 1; both come to the paver at 14. */
    private static void byNumbersNotByPlants() {
        BlackRoad x = new BlackRoad();
        x.section(60, 0);
        x.layer(20, 0);
        x.plant(0, 10, 200, 1);
        x.plant(0, 10, 200, 2);
        x.trucks(3, 5);
        Check.hours(x, "haul 0 3 from 0;haul 1 2 from 0;open 0 to 7;open 17 to 4319;");
        int[][] due = {{3, 1, 0, 7, 10}, {4, 0, 1, 8, 10}};
        for (int[] row : due) {
            for (int what = 2; what < 6; what++) {
                Check.same("LOAD " + row[0] + " what " + what, x.load(0, 20, row[0], what), row[what - 1]);
            }
        }
        int[] order = {1, 1, 1, 1, 1, 0, 0, 0, 0, 0, 2, 2, 2, 2, 2, 4, 3, 3, 3, 3, 3};
        for (int i = 0; i < order.length; i++) Check.same("tonne " + i, x.tonne(0, 20, i), order[i]);
    }

    private static final String THREE = "(3) PLANTS by numbers: one that is ready with a TRUCK sends it off (it comes "
            + "HAUL of then later to the paver); "
            + "one that fills none, isn't SHUT, and whose SILO has what the first TRUCK there is to have, begins to "
            + "fill it "
            + "(that goes out of the SILO; it is ready FILL MINUTES later).";

    private static void sendingOff() {
        Check.sentence("Terms III", THREE);
        // ready at 2; HAUL of 2 tells when it comes
        BlackRoad x = Scene.small(1, 10, 1);
        Check.hours(x, "haul 0 1 from 0; haul 0 9 from 2; haul 0 30 from 3;");
        Check.same("HAUL of then", x.run(0, 20, 1), 11);
        Check.hours(x, "haul 0 1 from 0; shut 0 2 to 4319;");
        Check.same("it is SHUT as it is ready", x.run(0, 20, 1), 3);
        // in the MINUTE in which one is sent off the next is begun
        BlackRoad y = Scene.small(2, 10, 2);
        Check.same("the first, ready at 2", y.load(0, 20, 0, 6), 3);
        Check.same("the next at 2", y.load(0, 20, 1, 5), 2);
        Check.hours(y, "haul 0 1 from 0; shut 0 2 to 2;");
        Check.same("the next not while it is SHUT", y.load(0, 20, 1, 5), 3);
    }

    private static void beginning() {
        Check.sentence("Terms III", THREE);
        // the SILO has 10 at 0, and is SHUT from 1 to 6
        BlackRoad x = Scene.small(1, 10, 1);
        Check.hours(x, "haul 0 1 from 0; shut 0 1 to 6;");
        Check.same("not while it is SHUT", x.load(0, 20, 0, 5), 7);
        // 5 for the first that stands there, 2 for the second: that one waits though there are 2 at 1
        BlackRoad y = new BlackRoad();
        y.section(20, 0);
        y.layer(20, 0);
        y.plant(0, 1, 200, 1);
        y.trucks(2, 5);
        Check.hours(y, "haul 0 1 from 0;");
        Check.same("7 tonnes", y.job(0, 3), 7);
        Check.same("5 at 4", y.load(0, 20, 0, 5), 4);
        Check.same("5 are gone: 1 at 5, 2 at 6", y.load(0, 20, 1, 5), 6);
        Check.same("ready at 5", y.load(0, 20, 0, 6), 6);
        // it fills one at a time: 20 MINUTES each
        BlackRoad z = new BlackRoad();
        z.section(20, 0);
        z.layer(20, 0);
        z.plant(0, 10, 200, 20);
        z.trucks(2, 5);
        Check.hours(z, "haul 0 1 from 0;");
        Check.same("one", z.load(0, 20, 0, 5), 1);
        Check.same("ready at 21", z.load(0, 20, 0, 6), 22);
        Check.same("none while it fills one", z.load(0, 20, 1, 5), 21);
    }

    private static final String FOUR = "(4) TRUCKS, by numbers, that are free (at the beginning all are): each is "
            + "ordered a LOAD: "
            + "of the first JOB of which not all TONNES are ordered: CARRY, or what is left of that JOB; it goes to "
            + "that PLANT of the JOB's KIND "
            + "to which the fewest TRUCKS are sent (under way there, standing, being filled; of like ones the lowest), "
            + "and comes there HAUL of then later; "
            + "without such a JOB it stays free. LOADS are numbered as they are ordered.";

    private static void ordering() {
        Check.sentence("Terms III", FOUR);
        // of 9, 10 and 11 tonnes by fives
        int[][] lots = {{25, 9, 5, 4}, {27, 10, 5, 5}, {28, 11, 5, 5, 1}};
        for (int[] row : lots) {
            BlackRoad x = new BlackRoad();
            x.section(50, 0);
            x.even(30, 2, 10, 2, 3);
            x.layer(row[0], 0);
            x.plant(0, 10, 200, 1);
            x.trucks(3, 5);
            Check.hours(x, "haul 0 1 from 0;");
            Check.same("TONNES", x.job(0, 3), row[1]);
            Check.same("LOADS of " + row[1], x.run(0, 20, 2), row.length - 2);
            for (int k = 0; k < row.length - 2; k++) {
                Check.same("LOAD " + k + " of " + row[1], x.load(0, 20, k, 1), row[k + 2]);
                Check.same("all at the beginning", x.load(0, 20, k, 4), 0);
                Check.same("by numbers", x.load(0, 20, k, 2), k);
            }
        }
        // HAUL of 0 to the PLANT; of two JOBS the first, and the second when all of it is ordered
        BlackRoad y = Scene.small(2, 20, 3);
        Check.hours(y, "haul 0 6 from 0; haul 0 1 from 1;");
        int[][] loads = {{0, 5, 0, 0, 0, 6}, {0, 2, 1, 0, 0, 7}, {1, 5, 2, 0, 0, 8}, {1, 2, 0, 0, 9, 10}};
        for (int k = 0; k < 4; k++) {
            for (int what = 0; what < 6; what++) {
                Check.same("LOAD " + k + " what " + what, y.load(0, 20, k, what), loads[k][what]);
            }
        }
        Check.same("no more", y.load(0, 20, 4, 0), -1);
    }

    private static void fewestSent() {
        Check.sentence("Terms III", FOUR);
        // under way: none comes there for long
        int[] turns = {0, 1, 2, 0, 1, 2};
        BlackRoad x = Scene.small(6, 10, 6);
        x.plant(0, 10, 200, 1);
        x.plant(0, 10, 200, 1);
        for (int k = 0; k < 6; k++) Check.same("by turns", x.load(0, 20, k, 3), turns[k]);
        // standing, and being filled: truck 0 is at PLANT 0 from 1 on, where 20 MINUTES go by
        sentAgain("shut 0 1 to 30;", 20, "standing");
        sentAgain("", 20, "being filled");
        // sent off it counts no more: PLANT 0 is the lower of like ones
        BlackRoad y = Scene.small(3, 10, 2);
        y.plant(0, 10, 200, 1);
        Check.hours(y, "haul 0 1 from 0; haul 1 1 from 0;");
        Check.same("at 4 both are sent off", y.load(0, 20, 2, 4), 4);
        Check.same("of like ones the lowest", y.load(0, 20, 2, 3), 0);
        // a PLANT of another KIND never, though none is sent there
        BlackRoad z = new BlackRoad();
        z.section(30, 0);
        z.layer(20, 1);
        z.plant(0, 10, 200, 1);
        z.plant(1, 10, 200, 1);
        z.trucks(3, 5);
        for (int k = 0; k < 3; k++) Check.same("of the KIND", z.load(0, 20, k, 3), 1);
    }

    /** Truck 1 is back from PLANT 1 while truck 0 is still sent to PLANT 0: it goes to PLANT 1 again. */
    private static void sentAgain(String hours, int fill, String how) {
        BlackRoad x = new BlackRoad();
        x.section(30, 0);
        x.layer(20, 0);
        x.plant(0, 10, 200, fill);
        x.plant(0, 10, 200, 1);
        x.trucks(2, 5);
        Check.hours(x, "haul 0 1 from 0; haul 1 1 from 0;" + hours);
        Check.same(how + ": truck 1", x.load(0, 20, 2, 2), 1);
        Check.same(how + ": at 4", x.load(0, 20, 2, 4), 4);
        Check.same(how + ": to the other", x.load(0, 20, 2, 3), 1);
    }

    private static void stayingFree() {
        Check.sentence("Terms III", "without such a JOB it stays free. LOADS are numbered as they are ordered.");
        // truck 1 has none to fetch until the one LOAD is refused; then truck 0 is free as well, and is the lower
        BlackRoad x = Scene.small(1, 10, 2);
        Check.hours(x, "haul 0 10 from 0; haul 0 1 from 15;");
        x.heat(160, 1, 150, 80, 70);
        Check.same("one LOAD at first", x.load(0, 20, 1, 4), 22);
        Check.same("by truck 0", x.load(0, 20, 1, 2), 0);
        Check.same("two in all", x.run(0, 20, 2), 2);
        // of a JOB of 17 the last LOAD is 2: with 16 trucks twelve stay free
        BlackRoad y = Scene.small(1, 50, 16);
        Check.same("four LOADS", y.run(0, 20, 2), 4);
        Check.same("the fourth is 2", y.load(0, 20, 3, 1), 2);
    }

    private static final String FIVE = "(5) The paver, if the road is OPEN: up to PACE tonnes of the JOB AT HAND (the "
            + "first not all laid), "
            + "if the JOB under it (one LAYER below) is FIRM or colder by then (0 .. 200; at first 80): out of what it "
            + "has; "
            + "if it has none, it takes the first TRUCK standing there that has a LOAD of that JOB (the TRUCK is free "
            + "from the next MINUTE on), "
            + "and goes on in the same MINUTE, with the next JOB, too.";

    private static void paving() {
        Check.sentence("Terms III", FIVE);
        // LOADS of 4 stand there as the road opens at 50
        BlackRoad x = Scene.small(5, 10, 5);
        Check.hours(x, "haul 0 1 from 0; open 50 to 4319;");
        int[][] taken = {{4, 50, 51, 52, 53, 54}, {5, 50, 50, 51, 52, 53}, {3, 50, 51, 52, 54, 55},
            {8, 50, 50, 51, 51, 52}, {9, 50, 50, 50, 51, 51}, {19, 50, 50, 50, 50, 50}, {20, 50, 50, 50, 50, 50}};
        for (int[] row : taken) {
            for (int k = 0; k < 5; k++) Check.same("LOAD " + k + " at " + row[0], x.load(0, row[0], k, 6), row[k + 1]);
        }
        Check.same("a tonne is left by 19", x.run(0, 19, 1), 51);
        Check.same("none by 20", x.run(0, 20, 1), 50);
        // the truck is free in the MINUTE behind
        BlackRoad y = Scene.small(2, 10, 1);
        Check.same("taken at 3", y.load(0, 20, 0, 6), 3);
        Check.same("ordered at 4", y.load(0, 20, 1, 4), 4);
        // of 17 tonnes: at pace 2 the paver has 5 from 3 to 5, the truck is free at 4 nevertheless
        BlackRoad z = Scene.small(1, 50, 1);
        Check.same("taken at 3", z.load(0, 2, 0, 6), 3);
        Check.same("ordered at 4", z.load(0, 2, 1, 4), 4);
        // rain: nothing is laid, nor taken
        Check.hours(z, "haul 0 1 from 0; rain 3 to 8;");
        Check.same("the road opens at 9", z.load(0, 2, 0, 6), 9);
    }

    private static void waiting() {
        Check.sentence("Terms III", FIVE);
        // truck 1 has JOB 1 and stands there from 3 on; JOB 0 comes at 21
        BlackRoad x = Scene.small(2, 10, 2);
        x.plant(0, 10, 200, 1);
        Check.hours(x, "haul 0 10 from 0; haul 1 1 from 0;");
        Check.same("JOB 1 from PLANT 1", x.load(0, 20, 1, 3), 1);
        Check.same("JOB 0 first", x.load(0, 20, 0, 6), 21);
        Check.same("JOB 1 in the same MINUTE", x.load(0, 20, 1, 6), 21);
        Check.same("as the pace lets", x.load(0, 4, 1, 6), 22);
        Check.same("the first tonne", x.tonne(0, 20, 3), 0);
        Check.same("behind it", x.tonne(0, 20, 4), 1);
        Check.same("waiting ahead of the first is no STOP", x.run(0, 20, 0), 0);
    }

    private static void firm() {
        Check.sentence("Terms III", "if the JOB under it (one LAYER below) is FIRM or colder by then (0 .. 200; at "
                + "first 80)");
        // JOB 0 is laid at 3; the LOAD of JOB 1 stands there from 4 on
        BlackRoad x = Scene.small(1, 10, 2);
        x.layer(20, 0);
        for (int behind : new int[] {1, 2, 30, 599, 600}) {
            int mean = x.mean(0, 20, 0, behind);
            x.heat(160, 4, 0, mean, 70);
            int begins = x.laid(0, 20, 1, 0);
            Check.yes("at FIRM it may be laid", begins <= 3 + behind);
            Check.yes("as cold there", x.mean(0, 20, 0, begins - 3) <= mean);
            Check.yes("not yet a MINUTE ahead", begins == 4 || x.mean(0, 20, 0, begins - 4) > mean);
        }
        // later than 600 MINUTES it is as then: 35
        x.heat(160, 4, 0, 35, 70);
        Check.same("35 at 600", x.mean(0, 20, 0, 600), 35);
        Check.yes("by FIRM 35", x.run(0, 20, 1) > 0);
        x.heat(160, 4, 0, 34, 70);
        Check.same("never 34", x.run(0, 20, 1), -1);
        // the JOB under JOB 3 is JOB 1, not JOB 2, which is just laid
        BlackRoad y = Scene.small(2, 10, 4);
        y.layer(20, 0);
        y.heat(160, 4, 0, 157, 70);
        Check.same("JOB 1 at 4", y.laid(0, 20, 1, 1), 4);
        Check.same("JOB 2 at 5", y.laid(0, 20, 2, 0), 5);
        Check.same("JOB 3 at 6", y.laid(0, 20, 3, 0), 6);
        y.heat(160, 4, 0, 150, 70);
        Check.same("JOB 0 is 150 at 7", y.laid(0, 20, 2, 0), 7);
        Check.same("JOB 1 is 150 at 8", y.laid(0, 20, 3, 0), 8);
    }

    private static void heatCut() {
        Check.sentence("Terms III", "HEAT of a LOAD as it is taken: HOT (100 .. 200; at first 160) less the MINUTES "
                + "since the PLANT began to fill it / KEEP (1 .. 20; at first 4).");
        int[][] due = {{4, 3, 160}, {4, 4, 160}, {4, 5, 159}, {4, 8, 159}, {4, 9, 158}, {1, 3, 158}, {1, 4, 157},
            {20, 20, 160}, {20, 21, 159}, {3, 3, 160}, {3, 4, 159}, {19, 19, 160}, {19, 20, 159}};
        BlackRoad x = Scene.small(1, 10, 1);
        for (int[] row : due) {
            x.heat(160, row[0], 0, 80, 70);
            Check.hours(x, "haul 0 1 from 0; open " + row[1] + " to 4319;");
            Check.same("begun at 1, taken at " + row[1] + " by KEEP " + row[0], x.load(0, 20, 0, 7), row[2]);
        }
        // down to 0, by REFUSE 0 no further
        x.heat(100, 1, 0, 80, 70);
        Check.hours(x, "haul 0 1 from 0; open 101 to 101;");
        Check.same("0", x.load(0, 20, 0, 7), 0);
        Check.same("0 is laid", x.laid(0, 20, 0, 2), 0);
        Check.hours(x, "haul 0 1 from 0; open 102 to 4319;");
        Check.same("below 0", x.load(0, 20, 0, 7), -1);
        Check.same("that is refused", x.load(0, 20, 0, 8), 1);
    }

    private static void refused() {
        Check.sentence("Terms III", "Is it below REFUSE (0 .. 200; at first 110): the LOAD is REFUSED: its TONNES are "
                + "to be ordered again "
                + "(of this JOB, ahead of others that follow by number), nothing of it is laid.");
        // 17 tonnes: LOADS begun at 1, 2, 3 and 4 stand there as the road opens at 20 with 141, 142, 143 and 144
        int[][] due = {{141, 0, 0}, {142, 1, 5}, {143, 2, 10}, {144, 3, 15}, {145, 4, 17}};
        BlackRoad x = Scene.small(1, 50, 4);
        Check.hours(x, "haul 0 1 from 0; open 20 to 4319;");
        for (int[] row : due) {
            x.heat(160, 1, row[0], 80, 70);
            Check.same("LOADS below " + row[0], x.run(0, 20, 4), row[1]);
            Check.same("tonnes below " + row[0], x.run(0, 20, 5), row[2]);
            for (int k = 0; k < 4; k++) {
                Check.same("all taken at 20", x.load(0, 20, k, 6), 20);
                Check.same("LOAD " + k + " of " + row[0], x.load(0, 20, k, 8), k < row[1] ? 1 : 0);
            }
            Check.same("what is warm enough is laid in that MINUTE", x.run(0, 20, 3), row[1] < 4 ? 20 : 24);
            Check.same("as much again", x.run(0, 20, 2), 4 + row[1]);
            for (int k = 4; k < 4 + row[1]; k++) {
                Check.same("ordered again at 21", x.load(0, 20, k, 4), 21);
                Check.same("by fives", x.load(0, 20, k, 1), k == 7 ? 2 : 5);
            }
            Check.same("the last tonne is of the last LOAD", x.tonne(0, 20, 16), 3 + row[1]);
            Check.same("17 are laid", x.tonne(0, 20, 17), -1);
        }
        aheadOfOthers();
    }

    /** JOB 0 is refused at 16, JOB 1 at 20, before a LOAD of JOB 2 is ordered: both are ordered again ahead of it. */
    private static void aheadOfOthers() {
        BlackRoad x = Scene.small(3, 10, 2);
        Check.hours(x, "haul 0 10 from 0; haul 0 5 from 11; haul 0 1 from 14;");
        x.heat(160, 1, 158, 80, 70);
        int[][] due = {{0, 4, 0, 0, 0, 10, 16, 154, 1}, {1, 4, 1, 0, 0, 11, 20, 151, 1}, {0, 4, 0, 0, 17, 18, 20, 158, 0},
            {1, 4, 0, 0, 21, 22, 24, 158, 0}, {2, 4, 1, 0, 21, 23, 25, 158, 0}};
        for (int k = 0; k < 5; k++) {
            for (int what = 0; what < 9; what++) {
                Check.same("LOAD " + k + " what " + what, x.load(0, 20, k, what), due[k][what]);
            }
        }
        Check.same("five in all", x.run(0, 20, 2), 5);
        Check.same("the first tonne is of LOAD 2", x.tonne(0, 20, 0), 2);
        // what comes is never warmer than 158, so that by 159 it is refused for ever
        x.heat(160, 1, 159, 80, 70);
        Check.same("never DONE", x.run(0, 20, 1), -1);
    }

    private static void stops() {
        Check.sentence("Terms III", "An OPEN MINUTE in which nothing is laid, behind the first and ahead of the last "
                + "one in which something is, is a STOP.");
        // LOADS of 17 tonnes at 3, 7, 11 and 15: nine MINUTES between them are without
        BlackRoad x = Scene.small(1, 50, 1);
        Check.same("nine", x.run(0, 20, 0), 9);
        Check.hours(x, "haul 0 1 from 0; rain 4 to 6; rain 8 to 10; rain 12 to 14;");
        Check.same("none of them OPEN", x.run(0, 20, 0), 0);
        Check.hours(x, "haul 0 1 from 0; rain 4 to 6; rain 8 to 10; rain 12 to 13;");
        Check.same("one of them OPEN", x.run(0, 20, 0), 1);
        Check.hours(x, "haul 0 1 from 0; rain 5 to 6; rain 8 to 10; rain 12 to 14;");
        Check.same("the one behind the first", x.run(0, 20, 0), 1);
        BlackRoad y = Scene.small(1, 10, 1);
        Check.same("one MINUTE alone", y.run(0, 20, 0), 0);
        Check.same("two beside one another", y.run(0, 2, 0), 0);
        // one that waits to be FIRM, and one with a LOAD that is refused
        BlackRoad z = Scene.small(1, 10, 2);
        z.layer(20, 0);
        z.heat(160, 4, 0, 154, 70);
        Check.same("FIRM at 5", z.run(0, 20, 1), 5);
        Check.same("a STOP at 4", z.run(0, 20, 0), 1);
        BlackRoad w = Scene.small(1, 20, 2);
        Check.hours(w, "haul 0 1 from 0; haul 0 9 from 3; haul 0 1 from 4;");
        w.heat(160, 1, 155, 80, 70);
        // 5 tonnes at 3; the other LOAD leaves at 3 and is refused at 12; it comes again at 16
        int[] due = {12, 16, 3, 3, 1, 2};
        for (int what = 0; what < 6; what++) Check.same("run " + what, w.run(0, 20, what), due[what]);
    }

    private static void done() {
        Check.sentence("Terms III", "A RUN is DONE in the MINUTE in which the last tonne is laid (END); it isn't, if "
                + "that doesn't come by 4319, or a KIND has no PLANT.");
        BlackRoad x = Scene.small(1, 10, 2);
        Check.hours(x, "haul 0 1 from 0; shut 0 0 to 4310; open 4319 to 4319;");
        Check.same("at 4319", x.run(0, 4, 1), 4319);
        Check.same("a tonne is left", x.run(0, 3, 1), -1);
        Check.hours(x, "haul 0 1 from 0; shut 0 0 to 4316;");
        Check.same("begun at 4317", x.run(0, 4, 1), 4319);
        Check.hours(x, "haul 0 1 from 0; shut 0 0 to 4317;");
        Check.same("it would come at 4320", x.run(0, 4, 1), -1);
        for (int what = 0; what < 6; what++) Check.same("what " + what, x.run(0, 4, what), -1);
    }

    private static void kindWithoutPlant() {
        Check.sentence("Terms III", "or a KIND has no PLANT.");
        BlackRoad x = new BlackRoad();
        x.section(10, 0);
        x.layer(20, 0);
        x.layer(20, 1);
        x.layer(20, 2);
        x.heat(160, 4, 0, 200, 70);
        for (int kind = 0; kind < 3; kind++) {
            Check.same("KIND " + kind + " has none", x.run(0, 20, 1), -1);
            x.plant(kind, 10, 200, 1);
        }
        Check.yes("all have one", x.run(0, 20, 1) > 0);
        // a KIND of no LAYER needs none
        for (int kind = 0; kind < 3; kind++) {
            BlackRoad y = new BlackRoad();
            y.section(10, 0);
            y.layer(20, kind);
            y.plant(kind, 10, 200, 1);
            Check.same("KIND " + kind + " alone", y.run(0, 20, 1), 41);
        }
    }

    private static void laidHeat() {
        Check.sentence("Terms III", "LAID of a JOB: the MINUTE of its last tonne; its HEAT: the least one of its LOADS "
                + "that were laid.");
        // LOADS of 141, 142, 143 and 144; the refused ones don't count, those that come again have 158 and less
        BlackRoad x = Scene.small(1, 50, 4);
        Check.hours(x, "haul 0 1 from 0; open 20 to 4319;");
        int[][] due = {{141, 20, 141}, {142, 24, 142}, {143, 25, 143}, {144, 26, 144}};
        for (int[] row : due) {
            x.heat(160, 1, row[0], 80, 70);
            Check.same("LAID by " + row[0], x.laid(0, 20, 0, 1), row[1]);
            Check.same("HEAT by " + row[0], x.laid(0, 20, 0, 2), row[2]);
            Check.same("the first tonne", x.laid(0, 20, 0, 0), 20);
        }
        // at pace 1 the LOADS are taken at 20, 25, 30 and 35; the last one by 130 is refused,
        // and comes again at 39 with 158
        x.heat(160, 1, 129, 80, 70);
        Check.same("HEAT at the last", x.laid(0, 1, 0, 2), 129);
        Check.same("LAID with its two tonnes", x.laid(0, 1, 0, 1), 36);
        x.heat(160, 1, 130, 80, 70);
        Check.same("HEAT of those that were laid", x.laid(0, 1, 0, 2), 133);
        Check.same("LAID with what came again", x.laid(0, 1, 0, 1), 40);
    }

    private static void runOthers() {
        Check.sentence("Promise 20", "A RUN: 0 STOPS, 1 END, 2 LOADS, 3 the MINUTE of the first tonne, 4 LOADS "
                + "REFUSED, 5 tonnes REFUSED. NONE: others, no JOBS, or it isn't DONE.");
        BlackRoad x = Scene.busy();
        String before = Scene.seen(x);
        int[] low = {0, 1, 0};
        int[] high = {1, 20, 5};
        int[] good = {0, 4, 1};
        Scene.refuses("run", -1, low, high, good, v -> x.run(v[0], v[1], v[2]));
        Check.sameText("others change nothing", Scene.seen(x), before);
        BlackRoad y = new BlackRoad();
        Check.same("nothing at all", y.run(0, 1, 0), -1);
        y.plant(0, 10, 200, 1);
        y.section(10, 0);
        Check.same("no LAYERS, no JOBS", y.run(0, 1, 0), -1);
        BlackRoad z = new BlackRoad();
        z.plant(0, 10, 200, 1);
        z.layer(20, 0);
        Check.same("no SECTIONS, no JOBS", z.run(0, 1, 0), -1);
        z.section(10, 0);
        Check.same("a JOB", z.run(0, 1, 0), 0);
    }

    private static void paceNone() {
        Check.sentence("Promise 21", "NONE: none.");
        BlackRoad x = new BlackRoad();
        Check.same("no JOBS", x.pace(), -1);
        x.section(10, 0);
        x.layer(20, 0);
        Check.same("no PLANT", x.pace(), -1);
        x.plant(0, 10, 200, 1);
        Check.same("one", x.pace(), 4);
        Check.hours(x, "world 0;world 1;world 2;shut 0 0 to 4319;");
        Check.same("never DONE in one of three", x.pace(), -1);
        x.hours();
        Check.same("again", x.pace(), 4);
    }

    private static void paceRanks() {
        Check.sentence("Promise 21", "then the earliest END of the latest WORLD, then the lowest.");
        // 17 tonnes stand there at 50 in four LOADS: no STOPS by any, 50 by 17 and more
        BlackRoad x = Scene.small(1, 50, 4);
        Check.hours(x, "haul 0 1 from 0; open 50 to 4319;");
        Check.same("17, of 17 to 20 the lowest", x.pace(), 17);
        BlackRoad y = Scene.small(5, 10, 5);
        Check.hours(y, "haul 0 1 from 0; open 50 to 4319;");
        Check.same("20, the greatest", y.pace(), 20);
        BlackRoad z = new BlackRoad();
        z.section(10, 0);
        z.even(20, 2, 10, 2, 3);
        z.layer(20, 0);
        z.plant(0, 10, 200, 1);
        Check.same("1, of all the lowest", z.pace(), 1);
    }

    private static void fewestRange() {
        Check.sentence("Promise 22", "The fewest TRUCKS (1 .. 16) by which RUNS at a PACE are DONE in all WORLDS "
                + "without STOPS. NONE: none, and for others. Nothing is changed.");
        // eighty tonnes by fives, forty MINUTES for each way there and back: sixteen at the least
        BlackRoad x = Scene.small(1, 238, 3);
        Check.hours(x, "");
        Check.same("eighty", x.job(0, 3), 80);
        String before = Scene.seen(x);
        Check.same("all sixteen", x.fewest(5), 16);
        Check.same("by slower ones fewer", x.fewest(1), 9);
        Check.same("0", x.fewest(0), -1);
        Check.same("21", x.fewest(21), -1);
        Check.same("the least", x.fewest(Integer.MIN_VALUE), -1);
        Check.same("the greatest", x.fewest(Integer.MAX_VALUE), -1);
        Check.sameText("nothing is changed", Scene.seen(x), before);
        Check.same("three stay", x.about(3), 3);
        x.section(10, 0);
        Check.same("seventeen would be", x.fewest(5), -1);
        BlackRoad y = Scene.small(1, 10, 5);
        Check.same("one", y.fewest(1), 1);
        Check.same("one", y.fewest(20), 1);
        Check.same("without JOBS", new BlackRoad().fewest(1), -1);
        // DONE without STOPS in one WORLD isn't enough
        Check.hours(y, "haul 0 1 from 0;world 0;world 1;open 4 to 4;open 6 to 6;");
        Check.same("by 4 at once", y.fewest(4), 1);
        Check.same("by 2 in both OPEN MINUTES", y.fewest(2), 1);
        Check.same("by 1 it isn't DONE", y.fewest(1), -1);
    }

    private static void loadOthers() {
        Check.sentence("Promise 23", "NONE for others, and as run().");
        BlackRoad x = Scene.busy();
        String before = Scene.seen(x);
        int loads = x.run(0, 4, 2);
        Check.yes("the last", x.load(0, 4, loads - 1, 1) > 0);
        int[] low = {0, 1, 0, 0};
        int[] high = {1, 20, loads - 1, 8};
        int[] good = {0, 4, 1, 4};
        Scene.refuses("load", -1, low, high, good, v -> x.load(v[0], v[1], v[2], v[3]));
        Check.sameText("others change nothing", Scene.seen(x), before);
        x.layer(20, 2);
        for (int what = 0; what < 9; what++) Check.same("as run()", x.load(0, 4, 1, what), -1);
    }

    /** In a RUN that is DONE each LOAD was begun and taken, for all of it is laid or REFUSED: NONE is never due. */
    private static void loadsAreTaken() {
        Check.sentence("Promise 23", "5 in which the PLANT began to fill it (NONE: it never did), 6 in which the paver "
                + "took it (NONE), 7 its HEAT then (NONE), 8 REFUSED (1, 0).");
        BlackRoad x = Scene.busy();
        for (int k = 0; k < x.run(1, 4, 2); k++) {
            int ordered = x.load(1, 4, k, 4);
            int begun = x.load(1, 4, k, 5);
            int taken = x.load(1, 4, k, 6);
            Check.yes("in their order", ordered < begun && begun < taken && taken <= x.run(1, 4, 1));
            int heat = 160 - (taken - begun);
            Check.same("its HEAT", x.load(1, 4, k, 7), heat);
            Check.same("REFUSED", x.load(1, 4, k, 8), heat < 150 ? 1 : 0);
        }
    }

    private static void tonneOthers() {
        Check.sentence("Promise 24", "The LOAD of which a tonne (from 0, as they were laid) is. NONE for others, and "
                + "as run().");
        BlackRoad x = Scene.busy();
        String before = Scene.seen(x);
        int all = x.about(9);
        int laid = 0;
        int last = -1;
        for (int i = 0; i < all; i++) {
            int load = x.tonne(0, 4, i);
            Check.same("a LOAD that was laid", x.load(0, 4, load, 8), 0);
            laid = load == last ? laid : laid + x.load(0, 4, load, 1);
            last = load;
        }
        Check.same("as many as all have", laid, all);
        int[] low = {0, 1, 0};
        int[] high = {1, 20, all - 1};
        int[] good = {0, 4, 1};
        Scene.refuses("tonne", -1, low, high, good, v -> x.tonne(v[0], v[1], v[2]));
        Check.sameText("others change nothing", Scene.seen(x), before);
    }

    /** Twelve JOBS of 168 tonnes are 34 LOADS each, the last one of 3 tonnes; by one PLANT they come in their order. */
    private static void manyLoads() {
        Check.sentence("Promise 24", "The LOAD of which a tonne (from 0, as they were laid) is.");
        BlackRoad x = Scene.small(12, 500, 16);
        x.heat(160, 20, 0, 200, 0);
        Check.same("168 tonnes", x.job(11, 3), 168);
        Check.same("408 LOADS", x.run(0, 20, 2), 408);
        for (int j = 0; j < 12; j++) {
            for (int i : new int[] {0, 4, 5, 164, 165, 167}) {
                Check.same("tonne " + i + " of " + j, x.tonne(0, 20, 168 * j + i), 34 * j + i / 5);
            }
        }
        Check.same("behind the last", x.tonne(0, 20, 168 * 12), -1);
        Check.sentence("Promise 23", "Of a LOAD of a RUN: 0 its JOB, 1 tonnes, 2 its TRUCK, 3 its PLANT, 4 the MINUTE "
                + "in which it was ordered,");
        Check.same("the last LOAD's JOB", x.load(0, 20, 407, 0), 11);
        Check.same("its tonnes", x.load(0, 20, 407, 1), 3);
        Check.same("its PLANT", x.load(0, 20, 407, 3), 0);
        Check.same("the last LOAD but one", x.load(0, 20, 406, 1), 5);
        Check.same("no more", x.load(0, 20, 408, 1), -1);
    }

    /** Three PLANTS send off one each MINUTE nearly to the end: that is as many LOADS as a RUN can have. */
    private static void mostLoads() {
        Check.sentence("Terms III", "LOADS are numbered as they are ordered.");
        BlackRoad x = new BlackRoad();
        for (int s = 0; s < 12; s++) x.section(500, 0);
        x.even(120, 2, 10, 2, 3);
        x.layer(200, 0);
        x.layer(165, 0);
        for (int p = 0; p < 3; p++) x.plant(0, 10, 200, 1);
        x.trucks(16, 5);
        x.heat(160, 20, 0, 200, 0);
        Check.hours(x, "haul 0 1 from 0;haul 1 1 from 0;haul 2 1 from 0;");
        // 2880 tonnes are 576 LOADS, 2376 are 476
        int all = 12 * 576 + 12 * 476;
        Check.same("12624", x.run(0, 20, 2), all);
        Check.yes("all MINUTES", x.run(0, 20, 1) >= all / 3);
        Check.same("the JOB of the last", x.load(0, 20, all - 1, 0), 23);
        Check.same("no more", x.load(0, 20, all, 0), -1);
        Check.same("the last tonne's JOB", x.load(0, 20, x.tonne(0, 20, 12 * (2880 + 2376) - 1), 0), 23);
        Check.same("no tonne more", x.tonne(0, 20, 12 * (2880 + 2376)), -1);
        for (int k : new int[] {0, 575, 576, 6911, 6912, 12147, 12148}) {
            Check.same("JOB of LOAD " + k, x.load(0, 20, k, 0), k < 6912 ? k / 576 : 12 + (k - 6912) / 476);
        }
    }

    /** WORLD 0 is DONE; in WORLD 1 all trucks stand at the paver for ever, in WORLD 2 some at a PLANT. */
    private static void begunAnew() {
        Check.sentence("Terms III", "MINUTE by MINUTE from 0:");
        String hours = "haul 0 1 from 0;haul 1 2 from 0;world 0;world 1;rain 0 to 4319;world 2;shut 0 0 to 4319;";
        String due = anew(stuck(hours), -1, 0);
        for (int world = 0; world < 3; world++) {
            for (int pace : new int[] {1, 4, 20}) {
                Check.sameText("after WORLD " + world + " at " + pace, anew(stuck(hours), world, pace), due);
            }
        }
        // the road opens for one MINUTE in which a part is laid: the paver has 3 of 5 tonnes at the end of time
        BlackRoad x = Scene.small(1, 20, 2);
        x.heat(160, 20, 0, 80, 70);
        Check.hours(x, "haul 0 1 from 0;open 3 to 3;open 50 to 50;");
        Check.same("never DONE by 2", x.run(0, 2, 1), -1);
        Check.same("nor by 3", x.run(0, 3, 1), -1);
        Check.same("by 4", x.run(0, 4, 1), 50);
        Check.same("the first at 3", x.run(0, 4, 3), 3);
        Check.same("LOAD 0 at 3", x.load(0, 4, 0, 6), 3);
        Check.same("LOAD 1 at 50", x.load(0, 4, 1, 6), 50);
        Check.same("never DONE by 2", x.run(0, 2, 1), -1);
        Check.same("the first of JOB 0 at 3", x.laid(0, 4, 0, 0), 3);
        Check.same("HEAT of LOAD 1 as it is taken", x.laid(0, 4, 0, 2), x.load(0, 4, 1, 7));
    }

    private static BlackRoad stuck(String hours) {
        BlackRoad x = new BlackRoad();
        x.section(40, 0);
        x.section(30, 0);
        x.layer(20, 0);
        x.plant(0, 1, 30, 2);
        x.plant(0, 1, 20, 1);
        x.trucks(5, 6);
        Check.hours(x, hours);
        return x;
    }

    /** What WORLD 0 answers at pace 4 after another RUN was asked for. */
    private static String anew(BlackRoad x, int world, int pace) {
        if (world >= 0) x.run(world, pace, 0);
        StringBuilder text = new StringBuilder();
        for (int what = 0; what < 6; what++) text.append(x.run(0, 4, what)).append(' ');
        for (int k = 0; k < x.run(0, 4, 2); k++) {
            for (int what = 0; what < 9; what++) text.append(x.load(0, 4, k, what)).append(' ');
        }
        for (int j = 0; j < 2; j++) for (int what = 0; what < 3; what++) text.append(x.laid(0, 4, j, what)).append(' ');
        return text.toString();
    }
}
