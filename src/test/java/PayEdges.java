/** The edges of part V, density, cores, THE RATE and PAY, and of promises 27 to 30. */
final class PayEdges {
    private PayEdges() {
    }

    static void run() {
        dense();
        drawn();
        drawnWraps();
        fromTheLeft();
        divided();
        held();
        pay();
        payOthers();
        payLong();
        tellsOthers();
        coreOthers();
        aboutEmpty();
        aboutFull();
        aboutOthers();
    }

    /** Two JOBS without ROLLERS, so that all PASSES are MISSED; the second has a COLD JOINT. */
    private static BlackRoad unrolled(int first, int second, int third) {
        BlackRoad x = Scene.small(2, 10, 2);
        x.heat(160, 4, 110, 80, 200);
        x.sort(0, 150, 110, first);
        x.sort(1, 120, 80, second);
        x.sort(2, 90, 60, third);
        return x;
    }

    private static void dense() {
        Check.sentence("Terms V", "DENSE of a JOB: 100, less 4 for each PASS that is MISSED, less 6 by a COLD JOINT, 0 "
                + "at least.");
        int[][] due = {{0, 0, 0, 100, 94}, {1, 0, 0, 96, 90}, {0, 1, 0, 96, 90}, {0, 0, 1, 96, 90}, {9, 9, 5, 8, 2},
            {9, 9, 6, 4, 0}, {9, 9, 7, 0, 0}, {9, 9, 8, 0, 0}, {9, 9, 9, 0, 0}};
        for (int[] row : due) {
            BlackRoad x = unrolled(row[0], row[1], row[2]);
            int missed = row[0] + row[1] + row[2];
            Check.same("COLD", x.laid(0, 20, 1, 3), 1);
            Check.same("without a JOINT, " + missed + " MISSED", x.laid(0, 20, 0, 8), row[3]);
            Check.same("with a COLD JOINT, " + missed + " MISSED", x.laid(0, 20, 1, 8), row[4]);
        }
    }

    private static final String CORES = "CORES: by a seed n JOBS are DRAWN: of the row of their numbers, for i from 0 "
            + "to n - 1: "
            + "s becomes s * 1103515245 + 12345 (32 bits), place i changes with place i + (s >>> 16) % (m - i), m JOBS "
            + "in all.";

    private static BlackRoad jobs(int sections, int layers) {
        BlackRoad x = new BlackRoad();
        for (int s = 0; s < sections; s++) x.section(10, 0);
        for (int l = 0; l < layers; l++) x.layer(20, 0);
        return x;
    }

    private static void drawn() {
        Check.sentence("Terms V", CORES);
        // by seed 1 s becomes 1103527590, of which the upper 16 bits are 16838; of 36 that leaves 26
        Check.same("the first of 36", jobs(12, 3).core(1, 1, 0), 26);
        Check.same("of one", jobs(1, 1).core(1, 1, 0), 0);
        // by seed 0 s becomes 12345, of which they are 0: place 0 changes with itself
        Check.same("of seed 0", jobs(12, 3).core(1, 0, 0), 0);
        Check.same("of seed 0, the second", jobs(12, 3).core(2, 0, 1), place(1, 36, 12345));
        // all of them: each JOB once, the last changes with itself
        BlackRoad x = jobs(12, 3);
        boolean[] seen = new boolean[36];
        for (int i = 0; i < 36; i++) {
            int j = x.core(36, 77, i);
            Check.yes("a JOB", j >= 0 && j < 36 && !seen[j]);
            seen[j] = true;
        }
        // how many are drawn doesn't tell which the first ones are
        for (int n = 1; n <= 36; n++) Check.same("the first of " + n, x.core(n, 77, 0), x.core(36, 77, 0));
    }

    /** Of the untouched row the JOB in the place that the s behind this one names. */
    private static int place(int i, int m, long s) {
        long next = s * 1103515245L + 12345 & 0xFFFFFFFFL;
        return i + (int) ((next >> 16) % (m - i));
    }

    private static void drawnWraps() {
        Check.sentence("Terms V", CORES);
        for (int seed : new int[] {0, 1, 2, -1, -2, 12345, 65535, 65536, Integer.MAX_VALUE, Integer.MIN_VALUE,
                1 << 30, 0x7FFF8000}) {
            BlackRoad x = jobs(5, 3);
            int[] row = new int[15];
            for (int i = 0; i < 15; i++) row[i] = i;
            long s = seed & 0xFFFFFFFFL;
            for (int i = 0; i < 15; i++) {
                s = s * 1103515245L + 12345 & 0xFFFFFFFFL;
                int other = i + (int) ((s >> 16) % (15 - i));
                int moved = row[i];
                row[i] = row[other];
                row[other] = moved;
            }
            for (int i = 0; i < 15; i++) Check.same("of seed " + seed + ", " + i, x.core(15, seed, i), row[i]);
        }
    }

    private static void told(String rate, int t, int d, int due) {
        BlackRoad x = new BlackRoad();
        Check.yes(rate, Check.rate(x, rate));
        Check.same(rate + " with " + t + ", " + d, x.tells(t, d, 0, 0), due);
    }

    private static void fromTheLeft() {
        Check.sentence("Terms V", "From the left;");
        told("2-3-4", 0, 0, -5);
        told("2-3+4", 0, 0, 3);
        told("100/7*7", 0, 0, 98);
        told("7*3/2", 0, 0, 10);
        told("100/7/2", 0, 0, 7);
        told("2+3*4-5", 0, 0, 9);
        told("-2*3", 0, 0, -6);
        told("-2-3", 0, 0, -5);
        told("-(2-3)", 0, 0, 1);
        told("- -2", 0, 0, 2);
    }

    private static void divided() {
        Check.sentence("Terms V", "/ cuts towards 0, by 0 it is 0;");
        int[][] due = {{7, 2, 3}, {-7, 2, -3}, {7, -2, -3}, {-7, -2, 3}, {1, 2, 0}, {-1, 2, 0}, {8, 2, 4}, {-8, 2, -4},
            {7, 0, 0}, {-7, 0, 0}, {0, 0, 0}, {0, 7, 0}, {1000000, -1, -1000000}, {-1000000, 1000000, -1},
            {999999, 1000000, 0}};
        for (int[] row : due) told("t/d", row[0], row[1], row[2]);
        told("t/0+3", 5, 0, 3);
        told("t/0*d", 5, 6, 0);
        told("t/(d-d)", 5, 6, 0);
        told("5/(1/2)", 0, 0, 0);
    }

    private static void held() {
        Check.sentence("Terms V", "what is above 1000000000 (below the same less) is that, at each step.");
        told("t*1000", 1000000, 0, 1000000000);
        told("t*1000-1", 1000000, 0, 999999999);
        told("t*1000+1", 1000000, 0, 1000000000);
        told("t*1000+1-1", 1000000, 0, 999999999);
        told("t*1000-1+1", 1000000, 0, 1000000000);
        told("t*1000", -1000000, 0, -1000000000);
        told("t*1000+1", -1000000, 0, -999999999);
        told("t*1000-1", -1000000, 0, -1000000000);
        told("t*1000-1+1", -1000000, 0, -999999999);
        told("t*1001", 1000000, 0, 1000000000);
        told("t*1001", -1000000, 0, -1000000000);
        told("t*t", 1000000, 0, 1000000000);
        told("t*t/t", 1000000, 0, 1000);
        told("t*d/d", 1000000, -1000000, 1000);
        told("t*t*t*t*t*t*t*t*t*t", 1000000, 0, 1000000000);
        told("t*t*t*t*t*t*t*t*t*d", 1000000, -1000000, -1000000000);
        told("-(t*t)", 1000000, 0, -1000000000);
        told("-(t*t)-t*t", 1000000, 0, -1000000000);
        told("t*t-(0-t*t)", 1000000, 0, 1000000000);
        told("t*t+t*t-t*t", 1000000, 0, 0);
        told("min(t*t+5,t*t-5)", 1000000, 0, 999999995);
        told("max(t*t+5,t*t)-1", 1000000, 0, 999999999);
        told("(t*t+5)*(t*t+5)/(t*t)", 1000000, 0, 1);
        told("9999*9999*10", 0, 0, 999800010);
        told("9999*9999*11", 0, 0, 1000000000);
    }

    private static final String PAY = "PAY of a RUN by n CORES of a seed: over all JOBS THE RATE with t its TONNES, d "
            + "its DENSE "
            + "(of those not DRAWN: the DENSE of those DRAWN together / n, cut), j 1 if its JOINT is COLD (else 0), m "
            + "its MISSED PASSES.";

    /** Three JOBS of 4, 7 and 11 tonnes; DENSE 80, 74 and 74, for five PASSES are MISSED on each. */
    private static BlackRoad three() {
        BlackRoad x = new BlackRoad();
        x.section(10, 0);
        x.section(20, 0);
        x.section(30, 0);
        x.layer(20, 0);
        x.plant(0, 10, 200, 1);
        x.heat(160, 4, 110, 80, 200);
        x.sort(0, 150, 110, 0);
        Check.hours(x, "haul 0 1 from 0;");
        return x;
    }

    private static void pay() {
        Check.sentence("Terms V", PAY);
        BlackRoad x = three();
        int[] dense = {80, 74, 74};
        for (int j = 0; j < 3; j++) Check.same("DENSE of " + j, x.laid(0, 20, j, 8), dense[j]);
        Check.same("t at first", x.pay(0, 20, 1, 5), 4 + 7 + 11);
        Check.yes("j", Check.rate(x, "j"));
        Check.same("two JOINTS are COLD", x.pay(0, 20, 1, 5), 2);
        Check.yes("m", Check.rate(x, "m"));
        Check.same("five each", x.pay(0, 20, 1, 5), 15);
        Check.yes("d", Check.rate(x, "d"));
        Check.same("all are DRAWN", x.pay(0, 20, 3, 5), 228);
        boolean[] seen = new boolean[3];
        for (int seed = 0; seed < 12; seed++) {
            int one = x.core(1, seed, 0);
            seen[one] = true;
            Check.same("of one " + one, x.pay(0, 20, 1, seed), 3 * dense[one]);
            int sum = dense[x.core(2, seed, 0)] + dense[x.core(2, seed, 1)];
            Check.same("of two", x.pay(0, 20, 2, seed), sum + sum / 2);
        }
        Check.yes("each was DRAWN by itself", seen[0] && seen[1] && seen[2]);
        // t and d go together: those DRAWN have their own d with their own t
        Check.yes("t*d", Check.rate(x, "t*d"));
        Check.same("all", x.pay(0, 20, 3, 5), 4 * 80 + 7 * 74 + 11 * 74);
        cut();
    }

    /** JOBS laid at 3, 4, 5 and 6; the ROLLER is at JOB 0 for two MINUTES when JOB 1 is at 157, and so with 2 and 3. */
    private static void cut() {
        BlackRoad x = Scene.small(4, 20, 4);
        x.trucks(4, 30);
        x.heat(160, 4, 110, 80, 200);
        x.sort(0, 157, 157, 1);
        x.sort(1, 120, 80, 0);
        x.sort(2, 90, 60, 0);
        x.roller(0, 10);
        int[] dense = {100, 90, 94, 90};
        for (int j = 0; j < 4; j++) Check.same("DENSE of " + j, x.laid(0, 20, j, 8), dense[j]);
        Check.yes("d", Check.rate(x, "d"));
        for (int seed = 0; seed < 12; seed++) {
            int sum = 0;
            for (int i = 0; i < 3; i++) sum += dense[x.core(3, seed, i)];
            Check.yes("the third part of " + sum + " isn't whole", sum % 3 != 0);
            Check.same("three of four", x.pay(0, 20, 3, seed), sum + sum / 3);
        }
    }

    private static void payOthers() {
        Check.sentence("Promise 28", "PAY. -1: others (n 1 to all JOBS), and as run().");
        BlackRoad x = Scene.busy();
        String before = Scene.seen(x);
        int[] low = {0, 1, 1};
        int[] high = {1, 20, 6};
        int[] good = {0, 4, 2};
        Scene.refuses("pay", -1, low, high, good, v -> x.pay(v[0], v[1], v[2], 9));
        Check.sameText("others change nothing", Scene.seen(x), before);
        Check.yes("all JOBS", x.pay(0, 4, 6, 9) > 0);
        for (int seed : new int[] {Integer.MIN_VALUE, -1, 0, Integer.MAX_VALUE}) {
            Check.yes("any seed", x.pay(0, 4, 3, seed) > 0);
        }
        x.layer(20, 1);
        Check.same("as run()", x.pay(0, 4, 2, 9), -1);
        Check.same("no JOBS", new BlackRoad().pay(0, 1, 0, 9), -1);
        Check.same("no JOBS", new BlackRoad().pay(0, 1, 1, 9), -1);
    }

    private static void payLong() {
        Check.sentence("Promise 28", "PAY. -1: others (n 1 to all JOBS), and as run().");
        BlackRoad x = Scene.small(3, 10, 3);
        Check.yes("much", Check.rate(x, "9999*9999*9999"));
        Check.same("three times", x.pay(0, 20, 1, 9), 3000000000L);
        Check.yes("much below", Check.rate(x, "-9999*9999*9999"));
        Check.same("three times below", x.pay(0, 20, 3, 9), -3000000000L);
        Check.yes("-1 in all", Check.rate(x, "0-j"));
        x.heat(160, 4, 110, 80, 200);
        Check.same("a PAY below 0", x.pay(0, 20, 3, 9), -2);
    }

    private static void tellsOthers() {
        Check.sentence("Promise 27", "What THE RATE tells with these (each -1000000 to 1000000). -2000000000 for "
                + "others.");
        BlackRoad x = Scene.busy();
        String before = Scene.seen(x);
        int[] low = {-1000000, -1000000, -1000000, -1000000};
        int[] high = {1000000, 1000000, 1000000, 1000000};
        int[] good = {7, 90, 1, 3};
        Scene.refuses("tells", -2000000000, low, high, good, v -> x.tells(v[0], v[1], v[2], v[3]));
        Check.sameText("others change nothing", Scene.seen(x), before);
        String[] rates = {"t", "d", "j", "m"};
        for (int i = 0; i < 4; i++) {
            BlackRoad y = new BlackRoad();
            Check.yes(rates[i], Check.rate(y, rates[i]));
            for (int edge : new int[] {-1000000, -1, 0, 1, 1000000}) {
                int[] v = {5, 5, 5, 5};
                v[i] = edge;
                Check.same(rates[i] + " of " + edge, y.tells(v[0], v[1], v[2], v[3]), edge);
            }
        }
    }

    private static void coreOthers() {
        Check.sentence("Promise 29", "The i-th JOB that is DRAWN so. NONE for others.");
        BlackRoad x = Scene.busy();
        String before = Scene.seen(x);
        int[] low = {1, 0};
        int[] high = {6, 1};
        int[] good = {2, 1};
        Scene.refuses("core", -1, low, high, good, v -> x.core(v[0], 9, v[1]));
        Check.sameText("others change nothing", Scene.seen(x), before);
        for (int n = 1; n <= 6; n++) {
            Check.yes("the first of " + n, x.core(n, 9, 0) >= 0);
            Check.yes("the last of " + n, x.core(n, 9, n - 1) >= 0);
            Check.same("one behind " + n, x.core(n, 9, n), -1);
        }
        Check.same("no JOBS", new BlackRoad().core(1, 9, 0), -1);
        Check.same("no JOBS, none", new BlackRoad().core(0, 9, 0), -1);
        // it needs no RUN
        BlackRoad y = jobs(1, 2);
        Check.same("two without a PLANT", y.core(2, 9, 0) + y.core(2, 9, 1), 1);
    }

    private static final String ABOUT = "0 SECTIONS, 1 LAYERS, 2 PLANTS, 3 TRUCKS, 4 CARRY, 5 ROLLERS, 6 CLAUSES, 7 "
            + "WORLDS, 8 JOBS, "
            + "9 TONNES of all JOBS (0 without LEVELS), 10 bytes of the tape. NONE for others.";

    private static void aboutEmpty() {
        Check.sentence("Promise 1", "No SECTIONS, LAYERS, PLANTS, ROLLERS; no HOURS.");
        int[] due = {0, 0, 0, 6, 20, 0, 0, 1, 0, 0, 0};
        BlackRoad x = new BlackRoad();
        for (int what = 0; what < due.length; what++) Check.same("about " + what, x.about(what), due[what]);
        // a second object knows nothing of the first
        Scene.busy();
        BlackRoad y = new BlackRoad();
        for (int what = 0; what < due.length; what++) Check.same("about " + what, y.about(what), due[what]);
        Check.sameText("and all else", Scene.seen(y), Scene.seen(x));
        Check.same("no HOURS", y.world(0, 0, 0), 1);
        Check.same("no HOURS", y.world(1, 0, 0), -1);
    }

    private static void aboutFull() {
        Check.sentence("Promise 30", ABOUT);
        BlackRoad x = new BlackRoad();
        for (int s = 0; s < 13; s++) x.section(10, 0);
        for (int l = 0; l < 4; l++) x.layer(20 + l, 0);
        for (int p = 0; p < 4; p++) x.plant(0, 1, 10, 1);
        for (int r = 0; r < 7; r++) x.roller(0, 10);
        x.trucks(16, 30);
        Check.hours(x, "world0;world1;world2;" + "rain0to0;".repeat(37));
        for (int f = 0; f < 21; f++) x.feed(0, 0, 0, 0, 0);
        // 3.36, 3.528 and 3.696 tonnes are 4 each
        int[] due = {12, 3, 3, 16, 30, 6, 40, 3, 36, 144, 400};
        for (int what = 0; what < due.length; what++) Check.same("about " + what, x.about(what), due[what]);
    }

    private static void aboutOthers() {
        Check.sentence("Promise 30", ABOUT);
        BlackRoad x = Scene.busy();
        String before = Scene.seen(x);
        for (int bad : new int[] {-1, 11, 12, Integer.MIN_VALUE, Integer.MAX_VALUE}) {
            Check.same("about " + bad, x.about(bad), -1);
        }
        Check.sameText("others change nothing", Scene.seen(x), before);
        BlackRoad y = new BlackRoad();
        y.layer(20, 0);
        Check.same("0 without LEVELS", y.about(9), 0);
        Check.same("no JOBS without SECTIONS", y.about(8), 0);
        y.section(10, 0);
        Check.same("with LEVELS", y.about(9), 4);
        BlackRoad z = new BlackRoad();
        z.section(10, 0);
        Check.same("without LAYERS", z.about(9), 0);
    }
}
