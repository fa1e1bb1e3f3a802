/** The edges of what is set by promises 8 to 13: plants, trucks, heat, weather, rollers and their sorts. */
final class SettingEdges {
    private SettingEdges() {
    }

    static void run() {
        plantNumbers();
        rates();
        silos();
        fills();
        plantRefused();
        truckRanges();
        truckRefused();
        heatRanges();
        heatAtFirst();
        heatRefused();
        weatherRanges();
        weatherAtFirst();
        weatherRefused();
        rollerRanges();
        rollerRefused();
        sortRanges();
        sortRefused();
    }

    private static final String PLANTS = "PLANTS 0 .. 2, each of a KIND, with RATE (1 .. 10 tonnes a minute), "
            + "SILO (10 .. 200 tonnes), FILL (1 .. 20 minutes).";

    /** Trucks that all come to the one plant in this minute; the first of its loads are as much as they carry. */
    private static BlackRoad hauled(int rate, int silo, int fill, int trucks, int carry, int haul) {
        BlackRoad x = new BlackRoad();
        x.section(500, 0);
        x.layer(50, 0);
        x.plant(0, rate, silo, fill);
        x.trucks(trucks, carry);
        x.heat(160, 20, 0, 80, 70);
        Check.hours(x, "haul 0 " + haul + " from 0;");
        return x;
    }

    private static int begun(BlackRoad x, int load) {
        return x.load(0, 20, load, 5);
    }

    private static void plantNumbers() {
        Check.sentence("Promise 8", "A PLANT: its number. NONE for others, or if there are 3.");
        BlackRoad x = Scene.small(1, 10, 1);
        Check.same("the second", x.plant(0, 1, 10, 1), 1);
        Check.same("the third", x.plant(2, 10, 200, 20), 2);
        String full = Scene.seen(x);
        Check.same("the fourth", x.plant(0, 1, 10, 1), -1);
        Check.same("a wrong fourth", x.plant(3, 0, 9, 0), -1);
        Check.sameText("the fourth changes nothing", Scene.seen(x), full);
    }

    private static void rates() {
        Check.sentence("Terms II", PLANTS);
        // the truck stands there from 1 on
        Check.same("1 a minute: 5 tonnes at 4", begun(hauled(1, 200, 1, 1, 5, 1), 0), 4);
        Check.same("10 a minute: not 21 at 1", begun(hauled(10, 200, 1, 1, 21, 1), 0), 2);
        Check.same("10 a minute: 20 at 1", begun(hauled(10, 200, 1, 1, 20, 1), 0), 1);
        Check.same("10 a minute: 30 at 2", begun(hauled(10, 200, 1, 1, 30, 1), 0), 2);
    }

    private static void silos() {
        Check.sentence("Terms II", PLANTS);
        Check.same("10 are enough for 10", begun(hauled(10, 10, 1, 1, 10, 1), 0), 1);
        Check.same("but never for 11", hauled(10, 10, 1, 1, 11, 1).run(0, 20, 1), -1);
        Check.same("11 are", begun(hauled(10, 11, 1, 1, 11, 1), 0), 1);
        // from 200 go 20 and come 2 each minute: 200 less 18 for each of ten leaves the 20 for the eleventh
        Check.same("200 for eleven", begun(hauled(2, 200, 1, 16, 20, 120), 10), 130);
        Check.same("199 aren't", begun(hauled(2, 199, 1, 16, 20, 120), 10), 131);
        // 21 go and 3 come: there are 20 for the eleventh, one too few
        Check.same("200 and no more", begun(hauled(3, 200, 1, 16, 21, 120), 10), 131);
        Check.same("the tenth has its 38", begun(hauled(3, 200, 1, 16, 21, 120), 9), 129);
    }

    private static void fills() {
        Check.sentence("Terms II", PLANTS);
        // begun at 1, at the paver a minute behind FILL
        Check.same("filled in a minute", hauled(10, 200, 1, 1, 5, 1).load(0, 20, 0, 6), 3);
        Check.same("filled in twenty", hauled(10, 200, 20, 1, 5, 1).load(0, 20, 0, 6), 22);
        Check.same("the next one behind it", begun(hauled(10, 200, 20, 2, 5, 1), 1), 21);
    }

    private static void plantRefused() {
        Check.sentence("Promise 8", "A PLANT: its number. NONE for others, or if there are 3.");
        BlackRoad x = Scene.busy();
        String before = Scene.seen(x);
        int[] low = {0, 1, 10, 1};
        int[] high = {2, 10, 200, 20};
        int[] good = {0, 5, 50, 5};
        Scene.refuses("plant", -1, low, high, good, v -> x.plant(v[0], v[1], v[2], v[3]));
        Check.sameText("others change nothing", Scene.seen(x), before);
    }

    private static void truckRanges() {
        Check.sentence("Terms II", "TRUCKS (1 .. 16; at first 6) that CARRY (5 .. 30 tonnes; at first 20).");
        BlackRoad x = new BlackRoad();
        x.section(500, 0);
        x.layer(60, 0);
        x.plant(0, 10, 200, 1);
        Check.same("six: the last", x.load(0, 20, 5, 2), 5);
        Check.same("six: none is free for a seventh at once", x.load(0, 20, 6, 2), 0);
        Check.same("20", x.load(0, 20, 0, 1), 20);
        Check.yes("one with the least", x.trucks(1, 5));
        Check.same("one alone", x.load(0, 20, 1, 2), 0);
        Check.same("5", x.load(0, 20, 0, 1), 5);
        Check.yes("sixteen with the most", x.trucks(16, 30));
        Check.same("sixteen: the last", x.load(0, 20, 15, 2), 15);
        Check.same("sixteen: at once", x.load(0, 20, 15, 4), 0);
        Check.same("sixteen: none is free for a seventeenth at once", x.load(0, 20, 16, 2), 0);
        Check.same("30", x.load(0, 20, 0, 1), 30);
    }

    private static void truckRefused() {
        Check.sentence("Promise 9", "TRUCKS, CARRY: true. False, changing nothing, for others.");
        BlackRoad x = Scene.busy();
        String before = Scene.seen(x);
        int[] low = {1, 5};
        int[] high = {16, 30};
        int[] good = {8, 11};
        Scene.refuses("trucks", 0, low, high, good, v -> Scene.count(x.trucks(v[0], v[1])));
        Check.sameText("others change nothing", Scene.seen(x), before);
        Check.yes("trucks", x.trucks(8, 11));
        Check.same("TRUCKS", x.about(3), 8);
        Check.same("CARRY", x.about(4), 11);
    }

    private static void heatRanges() {
        Check.sentence("Promise 10", "HOT, KEEP, REFUSE, FIRM, JOIN: true. False, changing nothing, for others.");
        // taken two minutes after it was begun
        BlackRoad x = Scene.small(2, 10, 2);
        x.layer(20, 0);
        Check.yes("the least of all", x.heat(100, 1, 0, 0, 0));
        Check.same("never firm", x.run(0, 20, 1), -1);
        Check.yes("HOT 100, KEEP 1", x.heat(100, 1, 98, 200, 0));
        Check.same("98", x.load(0, 20, 0, 7), 98);
        Check.same("no JOINT is COLD by JOIN 0", x.laid(0, 20, 1, 3), 0);
        Check.yes("the most of all", x.heat(200, 20, 200, 200, 200));
        Check.same("200", x.load(0, 20, 0, 7), 200);
        Check.same("none is refused by REFUSE 200", x.run(0, 20, 4), 0);
        Check.same("all are FIRM by 200", x.laid(0, 20, 2, 0), x.load(0, 20, 2, 6));
        Check.same("all are COLD by JOIN 200", x.laid(0, 20, 1, 3), 1);
    }

    /** As if it had been set, and not as if each had been one less or one more. */
    private static void heatAtFirst() {
        int[] first = {160, 4, 110, 80, 70};
        String[] words = {"HOT (100 .. 200; at first 160)", "KEEP (1 .. 20; at first 4)",
            "REFUSE (0 .. 200; at first 110)", "FIRM or colder by then (0 .. 200; at first 80)",
            "is below JOIN (0 .. 200; at first 70)."};
        String due = heatSeen(null);
        for (int i = 0; i < first.length; i++) {
            Check.sentence(i < 4 ? "Terms III" : "Terms IV", words[i]);
            Check.sameText("at first", heatSeen(first), due);
            for (int step = -1; step <= 1; step += 2) {
                int[] other = first.clone();
                other[i] += step;
                Check.no("not " + other[i], heatSeen(other).equals(due));
            }
        }
    }

    /** Loads taken later and later, and two JOBS above others in a minute of its own. */
    private static String heatSeen(int[] v) {
        StringBuilder text = new StringBuilder();
        for (int open = 3; open <= 230; open++) {
            BlackRoad x = Scene.small(1, 10, 1);
            if (v != null) x.heat(v[0], v[1], v[2], v[3], v[4]);
            Check.hours(x, "haul 0 1 from 0; open " + open + " to 4319;");
            text.append(x.load(0, 20, 0, 7)).append(x.load(0, 20, 0, 8)).append(' ');
        }
        BlackRoad y = Scene.small(1, 10, 2);
        y.layer(20, 0);
        if (v != null) y.heat(v[0], v[1], v[2], v[3], v[4]);
        text.append(y.laid(0, 20, 1, 0)).append(' ');
        for (int till = 3; till <= 100; till++) {
            BlackRoad z = Scene.small(2, 10, 2);
            if (v != null) z.heat(v[0], v[1], v[2], v[3], v[4]);
            Check.hours(z, "haul 0 1 from 0; shut 0 2 to " + till + ";");
            text.append(z.laid(0, 20, 1, 3));
        }
        return text.toString();
    }

    private static void heatRefused() {
        Check.sentence("Promise 10", "HOT, KEEP, REFUSE, FIRM, JOIN: true. False, changing nothing, for others.");
        BlackRoad x = Scene.busy();
        String before = Scene.seen(x);
        int[] low = {100, 1, 0, 0, 0};
        int[] high = {200, 20, 200, 200, 200};
        int[] good = {180, 2, 90, 60, 50};
        Scene.refuses("heat", 0, low, high, good, v -> Scene.count(x.heat(v[0], v[1], v[2], v[3], v[4])));
        Check.sameText("others change nothing", Scene.seen(x), before);
    }

    private static final String WEATHER = "AIR -20 .. 50, GROUND -20 .. 60, W, G 1 .. 200; at first 15, 20, 60, 40.";

    private static void weatherRanges() {
        Check.sentence("Terms IV", WEATHER);
        BlackRoad x = Scene.small(1, 10, 1);
        int[][] due = {{-20, 20, 50, 1, 155}, {50, 20, 50, 1, 157}, {15, -20, 1, 50, 155}, {15, 60, 1, 50, 156},
            {50, 60, 1, 1, 159}, {50, 60, 200, 1, 155}, {50, 60, 1, 200, 155}, {-20, -20, 200, 200, 142}};
        // of 160 a minute behind LAID, for which it is cooled once: C takes nothing from like SHELLS
        for (int[] v : due) {
            Check.yes("weather", x.weather(v[0], v[1], v[2], v[3]));
            int top = (160 - v[0]) * v[2] / 1000;
            int lowest = (160 - v[1]) * v[3] / 1000;
            Check.same("MEAN by " + v[0] + " " + v[1] + " " + v[2] + " " + v[3], x.mean(0, 20, 0, 1),
                    (800 - top - lowest) / 5);
        }
    }

    private static void weatherAtFirst() {
        Check.sentence("Terms IV", WEATHER);
        int[] first = {15, 20, 60, 40};
        String due = weatherSeen(null);
        Check.sameText("at first", weatherSeen(first), due);
        for (int i = 0; i < first.length; i++) {
            for (int step = -1; step <= 1; step += 2) {
                int[] other = first.clone();
                other[i] += step;
                Check.no("not " + other[i], weatherSeen(other).equals(due));
            }
        }
    }

    private static String weatherSeen(int[] v) {
        BlackRoad x = Scene.small(1, 10, 1);
        if (v != null) x.weather(v[0], v[1], v[2], v[3]);
        StringBuilder text = new StringBuilder();
        for (int minutes = 0; minutes <= 400; minutes++) text.append(x.mean(0, 20, 0, minutes)).append(' ');
        return text.toString();
    }

    private static void weatherRefused() {
        Check.sentence("Promise 11", "AIR, GROUND, W, G: true. False, changing nothing, for others.");
        BlackRoad x = Scene.busy();
        String before = Scene.seen(x);
        int[] low = {-20, -20, 1, 1};
        int[] high = {50, 60, 200, 200};
        int[] good = {0, 5, 90, 70};
        Scene.refuses("weather", 0, low, high, good, v -> Scene.count(x.weather(v[0], v[1], v[2], v[3])));
        Check.sameText("others change nothing", Scene.seen(x), before);
        Check.yes("the least of all", x.weather(-20, -20, 1, 1));
        Check.yes("the most of all", x.weather(50, 60, 200, 200));
    }

    private static void rollerRanges() {
        Check.sentence("Terms IV", "ROLLERS 0 .. 5, each of a SORT (0 .. 2), SPEED (10 .. 100 m a minute).");
        for (int sort = 0; sort < 3; sort++) {
            Check.same("500 m at 10", rolledOnce(sort, 500, 10), 50);
            Check.same("500 m at 100", rolledOnce(sort, 500, 100), 5);
            Check.same("500 m at 99", rolledOnce(sort, 500, 99), 6);
            Check.same("10 m at 100", rolledOnce(sort, 10, 100), 1);
        }
        BlackRoad x = new BlackRoad();
        for (int r = 0; r < 6; r++) Check.same("its number", x.roller(r % 3, 10 + r), r);
    }

    /** How long the one PASS of a SORT takes. */
    private static int rolledOnce(int sort, int length, int speed) {
        BlackRoad x = Scene.small(1, length, 6);
        for (int s = 0; s < 3; s++) x.sort(s, 200, 0, s == sort ? 1 : 0);
        Check.same("a roller", x.roller(sort, speed), 0);
        return x.laid(0, 20, 0, 7) - x.laid(0, 20, 0, 1) - 1;
    }

    private static void rollerRefused() {
        Check.sentence("Promise 12", "A ROLLER: its number. NONE for others, or if there are 6.");
        BlackRoad x = Scene.busy();
        String before = Scene.seen(x);
        int[] low = {0, 10};
        int[] high = {2, 100};
        int[] good = {1, 50};
        Scene.refuses("roller", -1, low, high, good, v -> x.roller(v[0], v[1]));
        Check.sameText("others change nothing", Scene.seen(x), before);
        for (int r = 2; r < 6; r++) Check.same("its number", x.roller(1, 50), r);
        String full = Scene.seen(x);
        Check.same("the seventh", x.roller(2, 50), -1);
        Check.same("a wrong seventh", x.roller(3, 9), -1);
        Check.sameText("the seventh changes nothing", Scene.seen(x), full);
    }

    private static void sortRanges() {
        Check.sentence("Terms IV", "Of a SORT: TOP, LOW (0 .. 200, LOW not above), PASSES (0 .. 9); "
                + "at first 150, 110, 2; 120, 80, 3; 90, 60, 2.");
        // at first: no ROLLER, so all are MISSED
        BlackRoad x = Scene.small(1, 10, 1);
        for (int sort = 0; sort < 3; sort++) Check.same("PASSES at first", x.laid(0, 20, 0, 4 + sort), sort == 1 ? 3 : 2);
        for (int sort = 0; sort < 3; sort++) {
            Check.yes("none", x.sort(sort, 0, 0, 0));
            Check.same("0", x.laid(0, 20, 0, 4 + sort), 0);
            Check.yes("nine", x.sort(sort, 200, 200, 9));
            Check.same("9", x.laid(0, 20, 0, 4 + sort), 9);
        }
        Check.yes("LOW as TOP", x.sort(0, 120, 120, 1));
        Check.no("LOW above", x.sort(0, 120, 121, 2));
        Check.same("as before", x.laid(0, 20, 0, 4), 1);
        x.roller(0, 10);
        Check.yes("to 0", x.sort(0, 120, 0, 1));
        Check.same("it has a PASS", x.laid(0, 20, 0, 4), 0);
        // a JOB of 200 is at TOP 200 as long as nothing goes off, one of 0 at LOW 0
        x.heat(200, 20, 0, 80, 70);
        x.weather(50, 60, 1, 1);
        Check.yes("from 200 to 200", x.sort(0, 200, 200, 1));
        Check.same("it is 200", x.mean(0, 20, 0, 1), 200);
        Check.same("it has one at 200", x.laid(0, 20, 0, 4), 0);
        Check.yes("to 199", x.sort(0, 199, 199, 1));
        Check.same("never 199", x.laid(0, 20, 0, 4), 1);
        x.heat(100, 1, 0, 80, 70);
        x.weather(0, 0, 1, 1);
        Check.hours(x, "haul 0 1 from 0; open 101 to 101;");
        Check.yes("from 0 to 0", x.sort(0, 0, 0, 1));
        Check.same("it is 0", x.mean(0, 20, 0, 1), 0);
        Check.same("it has one at 0", x.laid(0, 20, 0, 4), 0);
        Check.yes("from 1", x.sort(0, 200, 1, 1));
        Check.same("never 1", x.laid(0, 20, 0, 4), 1);
    }

    private static void sortRefused() {
        Check.sentence("Promise 13", "Of a SORT TOP, LOW, PASSES: true. False, changing nothing, for others.");
        BlackRoad x = Scene.busy();
        String before = Scene.seen(x);
        int[] low = {0, 100, 0, 0};
        int[] high = {2, 200, 120, 9};
        int[] good = {0, 120, 100, 4};
        // a TOP below LOW is no TOP, a LOW above TOP no LOW
        Scene.refuses("sort", 0, low, high, good, v -> Scene.count(x.sort(v[0], v[1], v[2], v[3])));
        Check.no("TOP below 0, LOW too", x.sort(0, -1, -1, 4));
        Check.no("both above 200", x.sort(0, 201, 201, 4));
        Check.sameText("others change nothing", Scene.seen(x), before);
    }
}
