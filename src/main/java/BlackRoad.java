import java.util.Arrays;

/** A road laid hot: levels, mix, trucks, paver, cooling, rolling, cores and pay, as DOC.md tells. */
public final class BlackRoad {
    public static final int NONE = -1;

    private static final int MINUTES = 4320;
    private static final int MOST_WORLDS = 3;
    private static final int MOST_SECTIONS = 12;
    private static final int MOST_LAYERS = 3;
    private static final int MOST_JOBS = MOST_SECTIONS * MOST_LAYERS;
    private static final int MOST_PLANTS = 3;
    private static final int MOST_TRUCKS = 16;
    private static final int MOST_ROLLERS = 6;
    private static final int MOST_PACE = 20;
    private static final int SORTS = 3;
    private static final int KINDS = 3;
    private static final int TAPE_ROOM = 400;
    private static final int RATE_ROOM = 100;
    private static final int FED = 20;
    private static final int NO_MEAN = -1000;
    private static final int NO_TELLING = -2000000000;
    private static final int MOST_TOLD = 1000000;
    private static final int UNKNOWN = -2;

    private final Road road = new Road();
    private final Plants plants = new Plants();
    private final Warmth warmth = new Warmth();
    private final Tape tape = new Tape(TAPE_ROOM);
    private final Hours hours = new Hours();
    private final Rate rate = new Rate();
    private final Loads loads = new Loads();
    private final Cooling cooling = new Cooling(road, warmth);
    private final Haulage haulage = new Haulage(road, plants, hours, loads);
    private final Paving paving = new Paving(road, warmth, haulage, cooling);
    private final Rolling rolling = new Rolling(road, cooling);
    private final int[] drawn = new int[MOST_JOBS];
    private final int[] trial = new int[3];
    private final int[] champion = new int[3];
    private final int[] fewestKnown = new int[MOST_PACE + 1];
    private int paceKnown = UNKNOWN;
    private int lastFault = NONE;
    private int lastPlace = NONE;

    public BlackRoad() {
        Arrays.fill(fewestKnown, UNKNOWN);
    }

    // ---- the road ----

    public int section(int length, int level) {
        if (!isFrom(length, 10, 500) || !isFrom(level, 0, Road.HIGHEST)) {
            return NONE;
        }
        int number = road.addSection(length, level);
        changed();
        return number;
    }

    public boolean even(int wide, int smooth, int deep, int mill, int lay) {
        if (!isFrom(wide, 20, 120) || !isFrom(smooth, 0, 9) || !isFrom(deep, 0, 20)
                || !isFrom(mill, 1, 9) || !isFrom(lay, 1, 9)) {
            return false;
        }
        road.wide = wide;
        road.smooth = smooth;
        road.deep = deep;
        road.mill = mill;
        road.lay = lay;
        road.settle();
        changed();
        return true;
    }

    public int levels() {
        return road.cost;
    }

    public int level(int section) {
        if (road.cost == NONE || !isFrom(section, 0, road.sections - 1)) {
            return NONE;
        }
        return at(road.best, section);
    }

    public int layer(int thick, int kind) {
        if (!isFrom(thick, 20, 200) || !isFrom(kind, 0, KINDS - 1)) {
            return NONE;
        }
        int number = road.addLayer(thick, kind);
        changed();
        return number;
    }

    public int job(int j, int what) {
        if (road.cost == NONE || !isFrom(j, 0, road.jobs() - 1)) {
            return NONE;
        }
        switch (what) {
            case 0: return road.sectionOf(j);
            case 1: return road.layerOf(j);
            case 2: return at(road.depths, j);
            case 3: return at(road.tonnes, j);
            default: return NONE;
        }
    }

    // ---- what is set ----

    public int plant(int kind, int rate, int silo, int fill) {
        if (!isFrom(kind, 0, KINDS - 1) || !isFrom(rate, 1, 10)
                || !isFrom(silo, 10, 200) || !isFrom(fill, 1, 20)) {
            return NONE;
        }
        int number = plants.add(kind, rate, silo, fill);
        changed();
        return number;
    }

    public boolean trucks(int n, int carry) {
        if (!isFrom(n, 1, MOST_TRUCKS) || !isFrom(carry, 5, 30)) {
            return false;
        }
        plants.trucks = n;
        plants.carry = carry;
        changed();
        return true;
    }

    public boolean heat(int hot, int keep, int refuse, int firm, int join) {
        if (!isFrom(hot, 100, 200) || !isFrom(keep, 1, 20) || !isFrom(refuse, 0, 200)
                || !isFrom(firm, 0, 200) || !isFrom(join, 0, 200)) {
            return false;
        }
        warmth.hot = hot;
        warmth.keep = keep;
        warmth.refuse = refuse;
        warmth.firm = firm;
        warmth.join = join;
        changed();
        return true;
    }

    public boolean weather(int air, int ground, int w, int g) {
        if (!isFrom(air, -20, 50) || !isFrom(ground, -20, 60)
                || !isFrom(w, 1, 200) || !isFrom(g, 1, 200)) {
            return false;
        }
        warmth.air = air;
        warmth.ground = ground;
        warmth.airTakes = w;
        warmth.groundTakes = g;
        changed();
        return true;
    }

    public int roller(int sort, int speed) {
        if (!isFrom(sort, 0, SORTS - 1) || !isFrom(speed, 10, 100)) {
            return NONE;
        }
        return rolling.add(sort, speed);
    }

    public boolean sort(int sort, int top, int low, int passes) {
        if (!isFrom(sort, 0, SORTS - 1) || !isFrom(top, 0, 200)
                || !isFrom(low, 0, top) || !isFrom(passes, 0, 9)) {
            return false;
        }
        rolling.setSort(sort, top, low, passes);
        return true;
    }

    // ---- the tape and the texts ----

    public int feed(int a, int b, int c, int d, int e) {
        if (tape.size + FED > TAPE_ROOM) {
            return NONE;
        }
        tape.addFour(a);
        tape.addFour(b);
        tape.addFour(c);
        tape.addFour(d);
        tape.addFour(e);
        return tape.size;
    }

    public int end(int n) {
        if (!isFrom(n, 0, tape.size)) {
            return NONE;
        }
        tape.size = n;
        return n;
    }

    public int hours() {
        boolean fits = hours.read(tape);
        tapeWasRead();
        if (!fits) {
            return NONE;
        }
        changed();
        return hours.count;
    }

    public boolean rate() {
        if (tape.size > RATE_ROOM) {
            return false;
        }
        boolean fits = rate.read(tape);
        tapeWasRead();
        return fits;
    }

    public int fault(int what) {
        switch (what) {
            case 0: return lastFault;
            case 1: return lastPlace;
            default: return NONE;
        }
    }

    public int world(int world, int minute, int what) {
        if (!isFrom(world, 0, hours.worldCount - 1) || !isFrom(minute, 0, MINUTES - 1)) {
            return NONE;
        }
        if (what == 0) {
            return hours.isOpen(world, minute) ? 1 : 0;
        }
        if (isFrom(what, 1, MOST_PLANTS)) {
            return hours.haul(world, what - 1, minute);
        }
        if (isFrom(what, MOST_PLANTS + 1, 2 * MOST_PLANTS)) {
            return hours.isShut(world, what - 1 - MOST_PLANTS, minute) ? 1 : 0;
        }
        return NONE;
    }

    // ---- runs ----

    public int run(int world, int pace, int what) {
        if (!isFrom(what, 0, Paving.SUMS - 1) || !isPaved(world, pace)) {
            return NONE;
        }
        return what == Paving.LOADS ? loads.count : at(paving.sums, what);
    }

    public int pace() {
        if (paceKnown != UNKNOWN) {
            return paceKnown;
        }
        int best = NONE;
        for (int pace = 1; pace <= MOST_PACE; pace++) {
            if (canBePaved() && tryPace(pace) && (best == NONE || isTrialBetter())) {
                best = pace;
                System.arraycopy(trial, 0, champion, 0, trial.length);
            }
        }
        paceKnown = best;
        return best;
    }

    public int fewest(int pace) {
        if (!isFrom(pace, 1, MOST_PACE)) {
            return NONE;
        }
        if (at(fewestKnown, pace) != UNKNOWN) {
            return at(fewestKnown, pace);
        }
        int least = NONE;
        for (int n = 1; n <= MOST_TRUCKS && least == NONE; n++) {
            if (canBePaved() && neverStops(pace, n)) {
                least = n;
            }
        }
        set(fewestKnown, pace, least);
        return least;
    }

    public int load(int world, int pace, int k, int what) {
        if (!isFrom(what, 0, Loads.FIELDS - 1) || !isPaved(world, pace)
                || !isFrom(k, 0, loads.count - 1)) {
            return NONE;
        }
        return loads.of(k, what);
    }

    public int tonne(int world, int pace, int i) {
        if (i < 0 || !isPaved(world, pace)) {
            return NONE;
        }
        return loads.ofTonne(i);
    }

    public int laid(int world, int pace, int j, int what) {
        if (!isFrom(what, 0, 8) || !isPaved(world, pace) || !isFrom(j, 0, road.jobs() - 1)) {
            return NONE;
        }
        rolling.roll(paving.stamp);
        switch (what) {
            case 0: return at(paving.firsts, j);
            case 1: return at(cooling.laidAt, j);
            case 2: return at(cooling.heats, j);
            case 3: return isColdJoint(j) ? 1 : 0;
            case 7: return at(rolling.overAt, j);
            case 8: return denseOf(j);
            default: return rolling.missed(j, what - 4);
        }
    }

    public int mean(int world, int pace, int j, int minutes) {
        if (!isFrom(minutes, 0, Cooling.KNOWN) || !isPaved(world, pace)
                || !isFrom(j, 0, road.jobs() - 1)) {
            return NO_MEAN;
        }
        return cooling.meanBehind(j, minutes);
    }

    // ---- pay ----

    public int tells(int t, int d, int j, int m) {
        if (!isTold(t) || !isTold(d) || !isTold(j) || !isTold(m)) {
            return NO_TELLING;
        }
        return (int) rate.tell(t, d, j, m);
    }

    public long pay(int world, int pace, int n, int seed) {
        if (!isFrom(n, 1, road.jobs()) || !isPaved(world, pace)) {
            return NONE;
        }
        rolling.roll(paving.stamp);
        draw(n, seed);
        int together = 0;
        for (int i = 0; i < n; i++) {
            together += denseOf(at(drawn, i));
        }
        long sum = 0;
        for (int i = 0; i < road.jobs(); i++) {
            int j = at(drawn, i);
            int dense = i < n ? denseOf(j) : cut(together, n);
            sum += rate.tell(at(road.tonnes, j), dense, isColdJoint(j) ? 1 : 0,
                    rolling.missedOn(j));
        }
        return sum;
    }

    public int core(int n, int seed, int i) {
        if (!isFrom(n, 1, road.jobs()) || !isFrom(i, 0, n - 1)) {
            return NONE;
        }
        draw(n, seed);
        return at(drawn, i);
    }

    public int about(int what) {
        switch (what) {
            case 0: return road.sections;
            case 1: return road.layers;
            case 2: return plants.count;
            case 3: return plants.trucks;
            case 4: return plants.carry;
            case 5: return rolling.count;
            case 6: return hours.count;
            case 7: return hours.worldCount;
            case 8: return road.jobs();
            case 9: return road.allTonnes();
            case 10: return tape.size;
            default: return NONE;
        }
    }

    // ---- what the calls share ----

    /** What was worked out from the former settings must not answer for the new ones. */
    private void changed() {
        paving.forget();
        paceKnown = UNKNOWN;
        Arrays.fill(fewestKnown, UNKNOWN);
    }

    private void tapeWasRead() {
        lastFault = tape.fault;
        lastPlace = tape.faultPlace;
        tape.size = 0;
    }

    private boolean isPaved(int world, int pace) {
        return isFrom(pace, 1, MOST_PACE) && isFrom(world, 0, hours.worldCount - 1)
                && canBePaved() && paving.isDone(world, pace, plants.trucks);
    }

    private boolean canBePaved() {
        if (road.cost == NONE || road.jobs() == 0) {
            return false;
        }
        for (int layer = 0; layer < road.layers; layer++) {
            if (!plants.make(at(road.kinds, layer))) {
                return false;
            }
        }
        return true;
    }

    /** Fills the trial row with the worst STOPS, all STOPS and the latest END; false if a world isn't done. */
    private boolean tryPace(int pace) {
        int worst = 0;
        int all = 0;
        int latest = 0;
        for (int world = 0; world < hours.worldCount; world++) {
            if (!paving.isDone(world, pace, plants.trucks)) {
                return false;
            }
            int stops = at(paving.sums, Paving.STOPS);
            worst = Math.max(worst, stops);
            all += stops;
            latest = Math.max(latest, at(paving.sums, Paving.END));
        }
        set(trial, 0, worst);
        set(trial, 1, all);
        set(trial, 2, latest);
        return true;
    }

    private boolean isTrialBetter() {
        for (int i = 0; i < trial.length; i++) {
            if (at(trial, i) != at(champion, i)) {
                return at(trial, i) < at(champion, i);
            }
        }
        return false;
    }

    private boolean neverStops(int pace, int trucks) {
        for (int world = 0; world < hours.worldCount; world++) {
            if (!paving.isDone(world, pace, trucks) || at(paving.sums, Paving.STOPS) != 0) {
                return false;
            }
        }
        return true;
    }

    private boolean isColdJoint(int j) {
        return road.sectionOf(j) > 0
                && cooling.meanAt(j - 1, at(paving.firsts, j)) < warmth.join;
    }

    private int denseOf(int j) {
        int lost = 4 * rolling.missedOn(j) + (isColdJoint(j) ? 6 : 0);
        return Math.max(0, 100 - lost);
    }

    /** The first n places of the row are the jobs that are drawn, the others stand behind them. */
    private void draw(int n, int seed) {
        int all = road.jobs();
        for (int i = 0; i < all; i++) {
            set(drawn, i, i);
        }
        int s = seed;
        for (int i = 0; i < n && i < all; i++) {
            s = s * 1103515245 + 12345;
            int other = i + (s >>> 16) % Math.max(1, all - i);
            int moved = at(drawn, i);
            set(drawn, i, at(drawn, other));
            set(drawn, other, moved);
        }
    }

    private static boolean isTold(int value) {
        return isFrom(value, -MOST_TOLD, MOST_TOLD);
    }

    private static boolean isFrom(int value, int low, int high) {
        return value >= low && value <= high;
    }

    // ---- rows and divisors, looked at before they are used ----

    private static int at(int[] row, int place) {
        return place >= 0 && place < row.length ? row[place] : 0;
    }

    private static void set(int[] row, int place, int value) {
        if (place >= 0 && place < row.length) {
            row[place] = value;
        }
    }

    private static int cut(int value, int divisor) {
        return divisor == 0 ? 0 : value / divisor;
    }

    /** Sections and layers, the best levels, and the jobs that follow from them. */
    private static final class Road {
        static final int HIGHEST = 60;
        static final int HEIGHTS = HIGHEST + 1;
        static final int NEVER = 1000000;

        final int[] lengths = new int[MOST_SECTIONS];
        final int[] olds = new int[MOST_SECTIONS];
        final int[] best = new int[MOST_SECTIONS];
        final int[] costs = new int[MOST_SECTIONS * HEIGHTS];
        final int[] thicks = new int[MOST_LAYERS];
        final int[] kinds = new int[MOST_LAYERS];
        final int[] depths = new int[MOST_JOBS];
        final int[] tonnes = new int[MOST_JOBS];
        int sections = 0;
        int layers = 0;
        int wide = 70;
        int smooth = 2;
        int deep = 10;
        int mill = 2;
        int lay = 3;
        int cost = NONE;

        int addSection(int length, int old) {
            if (sections >= MOST_SECTIONS) {
                return NONE;
            }
            set(lengths, sections, length);
            set(olds, sections, old);
            sections++;
            settle();
            return sections - 1;
        }

        int addLayer(int thick, int kind) {
            if (layers >= MOST_LAYERS) {
                return NONE;
            }
            set(thicks, layers, thick);
            set(kinds, layers, kind);
            layers++;
            settle();
            return layers - 1;
        }

        int jobs() {
            return sections * layers;
        }

        int sectionOf(int j) {
            return sections == 0 ? 0 : j % sections;
        }

        int layerOf(int j) {
            return cut(j, sections);
        }

        int kindOf(int j) {
            return at(kinds, layerOf(j));
        }

        int allTonnes() {
            int sum = 0;
            for (int j = 0; j < jobs() && cost != NONE; j++) {
                sum += at(tonnes, j);
            }
            return sum;
        }

        void settle() {
            weighHeights();
            chooseLevels();
            measureJobs();
        }

        private void weighHeights() {
            for (int s = sections - 1; s >= 0; s--) {
                for (int height = 0; height < HEIGHTS; height++) {
                    set(costs, s * HEIGHTS + height, costFrom(s, height));
                }
            }
        }

        /** The least cost of a section that comes to lie at a height, with all sections behind it. */
        private int costFrom(int s, int height) {
            int old = at(olds, s);
            if (height < old - deep) {
                return NEVER;
            }
            int own = height < old ? (old - height) * mill : (height - old) * lay;
            if (s + 1 >= sections) {
                return own;
            }
            int next = cheapest(s + 1, height - smooth, height + smooth);
            return next == NONE ? NEVER : own + at(costs, (s + 1) * HEIGHTS + next);
        }

        /** The lowest of the heights that cost least from this section on. */
        private int cheapest(int s, int low, int high) {
            int chosen = NONE;
            int least = NEVER;
            for (int height = Math.max(0, low); height <= Math.min(HIGHEST, high); height++) {
                int total = at(costs, s * HEIGHTS + height);
                if (total < least) {
                    least = total;
                    chosen = height;
                }
            }
            return chosen;
        }

        private void chooseLevels() {
            cost = NONE;
            int low = 0;
            int high = HIGHEST;
            for (int s = 0; s < sections; s++) {
                int height = cheapest(s, low, high);
                if (height == NONE) {
                    cost = NONE;
                    return;
                }
                set(best, s, height);
                if (s == 0) {
                    cost = at(costs, height);
                }
                low = height - smooth;
                high = height + smooth;
            }
        }

        private void measureJobs() {
            for (int j = 0; j < jobs(); j++) {
                int s = sectionOf(j);
                int layer = layerOf(j);
                int filled = layer == 0 ? Math.max(0, at(best, s) - at(olds, s)) : 0;
                int depth = at(thicks, layer) + filled;
                set(depths, j, depth);
                set(tonnes, j, (at(lengths, s) * wide * depth * 24 + 99999) / 100000);
            }
        }
    }

    /** The plants and how many trucks carry how much from them. */
    private static final class Plants {
        final int[] kinds = new int[MOST_PLANTS];
        final int[] rates = new int[MOST_PLANTS];
        final int[] silos = new int[MOST_PLANTS];
        final int[] fills = new int[MOST_PLANTS];
        int count = 0;
        int trucks = 6;
        int carry = 20;

        int add(int kind, int rate, int silo, int fill) {
            if (count >= MOST_PLANTS) {
                return NONE;
            }
            set(kinds, count, kind);
            set(rates, count, rate);
            set(silos, count, silo);
            set(fills, count, fill);
            count++;
            return count - 1;
        }

        boolean make(int kind) {
            for (int p = 0; p < count; p++) {
                if (at(kinds, p) == kind) {
                    return true;
                }
            }
            return false;
        }
    }

    /** How hot mix is made, how it keeps, and what takes its heat on the road. */
    private static final class Warmth {
        int hot = 160;
        int keep = 4;
        int refuse = 110;
        int firm = 80;
        int join = 70;
        int air = 15;
        int ground = 20;
        int airTakes = 60;
        int groundTakes = 40;
    }

    /** Bytes of a text, read token by token; the first fault stays. */
    private static final class Tape {
        static final int END = 0;
        static final int WORD = 1;
        static final int NUMBER = 2;
        static final int SIGN = 3;
        static final int HELD_VALUE = 100000;

        final int[] bytes;
        int size = 0;
        int kind = END;
        int value = 0;
        int fault = 0;
        int faultPlace = NONE;
        private int from = 0;
        private int till = 0;

        Tape(int room) {
            bytes = new int[Math.max(0, room)];
        }

        void addFour(int four) {
            for (int shift = 24; shift >= 0; shift -= 8) {
                set(bytes, size, (four >>> shift) & 255);
                size++;
            }
        }

        void copyFrom(Tape other) {
            for (int i = 0; i < other.size; i++) {
                set(bytes, i, at(other.bytes, i));
            }
            size = other.size;
        }

        void start() {
            till = 0;
            fault = 0;
            faultPlace = NONE;
            next();
        }

        void next() {
            from = till;
            while (from < size && isBlank(at(bytes, from))) {
                from++;
            }
            till = from;
            value = 0;
            if (from >= size) {
                kind = END;
            } else if (isLetter(at(bytes, from))) {
                kind = WORD;
                while (till < size && isLetter(at(bytes, till))) {
                    till++;
                }
            } else if (isDigit(at(bytes, from))) {
                kind = NUMBER;
                while (till < size && isDigit(at(bytes, till))) {
                    // a long row of digits must not wrap round into a number that is told
                    value = Math.min(HELD_VALUE, value * 10 + at(bytes, till) - '0');
                    till++;
                }
            } else {
                kind = SIGN;
                value = at(bytes, from);
                till++;
            }
        }

        boolean isSound() {
            return fault == 0;
        }

        boolean isSign(char sign) {
            return kind == SIGN && value == sign;
        }

        boolean isWord(String word) {
            if (kind != WORD || till - from != word.length()) {
                return false;
            }
            for (int i = 0; i < word.length(); i++) {
                if (at(bytes, from + i) != word.charAt(i)) {
                    return false;
                }
            }
            return true;
        }

        void fail(int what) {
            if (fault == 0) {
                fault = what;
                faultPlace = from;
            }
        }

        void passSign(char sign) {
            if (isSound() && isSign(sign)) {
                next();
            } else {
                fail(1);
            }
        }

        void passWord(String word) {
            if (isSound() && isWord(word)) {
                next();
            } else {
                fail(1);
            }
        }

        int passNumber(int low, int high) {
            if (kind != NUMBER) {
                fail(1);
            } else if (!isFrom(value, low, high)) {
                fail(2);
            }
            if (!isSound()) {
                return low;
            }
            int passed = value;
            next();
            return passed;
        }

        private static boolean isBlank(int sign) {
            return sign == 32 || sign == 10;
        }

        private static boolean isLetter(int sign) {
            return sign >= 'a' && sign <= 'z' || sign >= 'A' && sign <= 'Z';
        }

        private static boolean isDigit(int sign) {
            return sign >= '0' && sign <= '9';
        }
    }

    /** The clauses of HOURS, and what they make of each minute in each world. */
    private static final class Hours {
        static final int MOST_CLAUSES = 40;
        static final int WORLD = 0;
        static final int HAUL = 1;
        static final int SHUT = 2;
        static final int OPEN = 3;
        static final int RAIN = 4;
        static final int OPEN_BIT = 1;
        static final int USUAL_HAUL = 20;

        final int[] kinds = new int[MOST_CLAUSES];
        final int[] owners = new int[MOST_CLAUSES];
        final int[] places = new int[MOST_CLAUSES];
        final int[] froms = new int[MOST_CLAUSES];
        /** The last minute of a clause; of a haul clause how many minutes it takes. */
        final int[] tills = new int[MOST_CLAUSES];
        /** For each minute of each world a bit for OPEN, and one for each plant that is SHUT. */
        final int[] bits = new int[MOST_WORLDS * MINUTES];
        int count = 0;
        int worldCount = 1;
        private int told = 0;
        private int worldsTold = 0;

        Hours() {
            Arrays.fill(bits, OPEN_BIT);
        }

        /** Reads twice: the former clauses stay if the text has a fault. */
        boolean read(Tape tape) {
            scan(tape, false);
            if (!tape.isSound()) {
                return false;
            }
            scan(tape, true);
            count = told;
            worldCount = Math.max(1, worldsTold);
            for (int world = 0; world < worldCount; world++) {
                markWorld(world);
            }
            return true;
        }

        private void scan(Tape tape, boolean keep) {
            told = 0;
            worldsTold = 0;
            tape.start();
            for (int turn = 0; turn <= MOST_CLAUSES && tape.isSound() && tape.kind != Tape.END; turn++) {
                passClause(tape, keep);
            }
        }

        private void passClause(Tape tape, boolean keep) {
            int kind = kindOf(tape);
            if (kind == NONE) {
                tape.fail(1);
                return;
            }
            if (told >= MOST_CLAUSES) {
                tape.fail(3);
                return;
            }
            tape.next();
            int place = 0;
            int from = 0;
            int till = 0;
            if (kind == WORLD) {
                tape.passNumber(worldsTold, Math.min(worldsTold, MOST_WORLDS - 1));
            } else if (kind == HAUL) {
                place = tape.passNumber(0, MOST_PLANTS - 1);
                till = tape.passNumber(1, 120);
                tape.passWord("from");
                from = tape.passNumber(0, MINUTES - 1);
            } else {
                place = kind == SHUT ? tape.passNumber(0, MOST_PLANTS - 1) : 0;
                from = tape.passNumber(0, MINUTES - 1);
                tape.passWord("to");
                till = tape.passNumber(from, MINUTES - 1);
            }
            tape.passSign(';');
            if (keep) {
                set(kinds, told, kind);
                set(owners, told, worldsTold - 1);
                set(places, told, place);
                set(froms, told, from);
                set(tills, told, till);
            }
            told++;
            worldsTold += kind == WORLD ? 1 : 0;
        }

        private static int kindOf(Tape tape) {
            if (tape.isWord("world")) {
                return WORLD;
            }
            if (tape.isWord("haul")) {
                return HAUL;
            }
            if (tape.isWord("shut")) {
                return SHUT;
            }
            if (tape.isWord("open")) {
                return OPEN;
            }
            return tape.isWord("rain") ? RAIN : NONE;
        }

        private boolean holds(int clause, int world) {
            int owner = at(owners, clause);
            return owner == NONE || owner == world;
        }

        private void markWorld(int world) {
            boolean opens = false;
            for (int c = 0; c < count; c++) {
                opens |= at(kinds, c) == OPEN && holds(c, world);
            }
            for (int minute = 0; minute < MINUTES; minute++) {
                set(bits, world * MINUTES + minute, opens ? 0 : OPEN_BIT);
            }
            for (int c = 0; c < count; c++) {
                if (at(kinds, c) == OPEN && holds(c, world)) {
                    mark(world, c, OPEN_BIT);
                } else if (at(kinds, c) == SHUT && holds(c, world)) {
                    mark(world, c, shutBit(at(places, c)));
                }
            }
            // rain closes what any open clause opens, wherever it is told
            for (int c = 0; c < count; c++) {
                if (at(kinds, c) == RAIN && holds(c, world)) {
                    wet(world, c);
                }
            }
        }

        private void mark(int world, int clause, int bit) {
            for (int minute = at(froms, clause); minute <= at(tills, clause); minute++) {
                int place = world * MINUTES + minute;
                set(bits, place, at(bits, place) | bit);
            }
        }

        private void wet(int world, int clause) {
            for (int minute = at(froms, clause); minute <= at(tills, clause); minute++) {
                int place = world * MINUTES + minute;
                set(bits, place, at(bits, place) & ~OPEN_BIT);
            }
        }

        private static int shutBit(int plant) {
            return 2 << plant;
        }

        boolean isOpen(int world, int minute) {
            return (at(bits, world * MINUTES + minute) & OPEN_BIT) != 0;
        }

        boolean isShut(int world, int plant, int minute) {
            return (at(bits, world * MINUTES + minute) & shutBit(plant)) != 0;
        }

        int haul(int world, int plant, int minute) {
            int takes = USUAL_HAUL;
            int latest = NONE;
            for (int c = 0; c < count; c++) {
                int from = at(froms, c);
                if (at(kinds, c) == HAUL && at(places, c) == plant && holds(c, world)
                        && from <= minute && from >= latest) {
                    latest = from;
                    takes = at(tills, c);
                }
            }
            return takes;
        }
    }

    /** The text of THE RATE: one reading both finds its faults and works it out. */
    private static final class Rate {
        static final int MOST_OPEN = 8;
        static final int MOST_NUMBER = 9999;
        static final long HELD = 1000000000L;

        private final Tape text = new Tape(RATE_ROOM);
        private int t = 0;
        private int d = 0;
        private int j = 0;
        private int m = 0;

        Rate() {
            text.addFour('t' << 24);
            text.size = 1;
        }

        boolean read(Tape tape) {
            tape.start();
            sum(tape, 0);
            if (tape.kind != Tape.END) {
                tape.fail(1);
            }
            if (!tape.isSound()) {
                return false;
            }
            text.copyFrom(tape);
            return true;
        }

        long tell(int tonnes, int dense, int joint, int missed) {
            t = tonnes;
            d = dense;
            j = joint;
            m = missed;
            text.start();
            return sum(text, 0);
        }

        private long sum(Tape tape, int open) {
            long total = product(tape, open);
            for (int turn = 0; turn < RATE_ROOM && tape.isSound(); turn++) {
                if (tape.isSign('+')) {
                    tape.next();
                    total = held(total + product(tape, open));
                } else if (tape.isSign('-')) {
                    tape.next();
                    total = held(total - product(tape, open));
                } else {
                    return total;
                }
            }
            return total;
        }

        private long product(Tape tape, int open) {
            long total = one(tape, open);
            for (int turn = 0; turn < RATE_ROOM && tape.isSound(); turn++) {
                if (tape.isSign('*')) {
                    tape.next();
                    total = held(total * one(tape, open));
                } else if (tape.isSign('/')) {
                    tape.next();
                    long divisor = one(tape, open);
                    total = divisor == 0 ? 0 : total / divisor;
                } else {
                    return total;
                }
            }
            return total;
        }

        private long one(Tape tape, int open) {
            if (tape.kind == Tape.NUMBER) {
                return tape.passNumber(0, MOST_NUMBER);
            }
            if (tape.isSign('-')) {
                return opens(tape, '-', open) ? -one(tape, open + 1) : 0;
            }
            boolean least = tape.isWord("min");
            boolean ofTwo = least || tape.isWord("max");
            if (!ofTwo && !tape.isSign('(')) {
                return letter(tape);
            }
            if (ofTwo) {
                tape.next();
            }
            if (!opens(tape, '(', open)) {
                return 0;
            }
            long inside = sum(tape, open + 1);
            if (ofTwo) {
                tape.passSign(',');
                if (!tape.isSound()) {
                    return 0;
                }
                long other = sum(tape, open + 1);
                inside = least ? Math.min(inside, other) : Math.max(inside, other);
            }
            tape.passSign(')');
            return inside;
        }

        /** Passes a ( or a - if it stands here and may still open. */
        private boolean opens(Tape tape, char sign, int open) {
            if (!tape.isSign(sign)) {
                tape.fail(1);
                return false;
            }
            if (open >= MOST_OPEN) {
                tape.fail(3);
                return false;
            }
            tape.next();
            return true;
        }

        private long letter(Tape tape) {
            long told = 0;
            if (tape.isWord("t")) {
                told = t;
            } else if (tape.isWord("d")) {
                told = d;
            } else if (tape.isWord("j")) {
                told = j;
            } else if (tape.isWord("m")) {
                told = m;
            } else {
                tape.fail(1);
                return 0;
            }
            tape.next();
            return told;
        }

        private static long held(long value) {
            return Math.max(-HELD, Math.min(HELD, value));
        }
    }

    /** The loads of a run in a row that grows, and the order in which they were laid. */
    private static final class Loads {
        static final int JOB = 0;
        static final int TONNES = 1;
        static final int TRUCK = 2;
        static final int PLANT = 3;
        static final int ORDERED = 4;
        static final int BEGUN = 5;
        static final int TAKEN = 6;
        static final int HEAT = 7;
        static final int REFUSED = 8;
        static final int FIELDS = 9;
        /** A truck is at least four minutes under way between two of its orders. */
        static final int MOST = MOST_TRUCKS * MINUTES / 4;

        private int[] row = new int[FIELDS * 64];
        private int[] order = new int[64];
        private int laidCount = 0;
        int count = 0;

        void clear() {
            count = 0;
            laidCount = 0;
        }

        int add(int job, int tonnes, int truck, int plant, int minute) {
            if (count >= MOST) {
                return NONE;
            }
            if (count >= order.length) {
                int room = Math.min(MOST, 2 * order.length);
                order = Arrays.copyOf(order, room);
                row = Arrays.copyOf(row, room * FIELDS);
            }
            int load = count;
            count++;
            note(load, JOB, job);
            note(load, TONNES, tonnes);
            note(load, TRUCK, truck);
            note(load, PLANT, plant);
            note(load, ORDERED, minute);
            note(load, BEGUN, NONE);
            note(load, TAKEN, NONE);
            note(load, HEAT, NONE);
            note(load, REFUSED, 0);
            return load;
        }

        int of(int load, int field) {
            return at(row, load * FIELDS + field);
        }

        void note(int load, int field, int value) {
            set(row, load * FIELDS + field, value);
        }

        void noteLaid(int load) {
            set(order, laidCount, load);
            laidCount++;
        }

        int ofTonne(int tonne) {
            int behind = tonne;
            for (int i = 0; i < laidCount; i++) {
                int load = at(order, i);
                behind -= of(load, TONNES);
                if (behind < 0) {
                    return load;
                }
            }
            return NONE;
        }
    }

    /** What the jobs' shells hold, minute by minute behind the one in which each was laid. */
    private static final class Cooling {
        static final int SHELLS = 5;
        static final int KNOWN = 600;

        final int[] laidAt = new int[MOST_JOBS];
        final int[] heats = new int[MOST_JOBS];
        private final int[] known = new int[MOST_JOBS];
        private final int[] shells = new int[MOST_JOBS * SHELLS];
        private final int[] means = new int[MOST_JOBS * (KNOWN + 1)];
        private final Road road;
        private final Warmth warmth;

        Cooling(Road road, Warmth warmth) {
            this.road = road;
            this.warmth = warmth;
        }

        void begin(int j, int minute, int heat) {
            set(laidAt, j, minute);
            set(heats, j, heat);
            set(known, j, 0);
            for (int shell = 0; shell < SHELLS; shell++) {
                set(shells, j * SHELLS + shell, heat);
            }
            set(means, j * (KNOWN + 1), heat);
        }

        int meanAt(int j, int minute) {
            return meanBehind(j, minute - at(laidAt, j));
        }

        int meanBehind(int j, int minutes) {
            int asked = Math.max(0, Math.min(KNOWN, minutes));
            for (int minute = at(known, j) + 1; minute <= asked; minute++) {
                int sum = cool(j);
                set(means, j * (KNOWN + 1) + minute, sum / SHELLS);
                set(known, j, minute);
            }
            return at(means, j * (KNOWN + 1) + asked);
        }

        /** One minute; each flow comes from what was there ahead of it. Answers the sum of the shells. */
        private int cool(int j) {
            int depth = at(road.depths, j);
            int c = Math.min(400, cut(400000, depth * depth));
            int first = j * SHELLS;
            int sum = 0;
            int own = at(shells, first);
            int comes = -((own - warmth.air) * warmth.airTakes / 1000);
            for (int shell = 0; shell < SHELLS; shell++) {
                boolean lowest = shell == SHELLS - 1;
                int below = lowest ? 0 : at(shells, first + shell + 1);
                int goes = lowest ? (own - warmth.ground) * warmth.groundTakes / 1000
                        : (own - below) * c / 1000;
                int after = own + comes - goes;
                set(shells, first + shell, after);
                sum += after;
                comes = goes;
                own = below;
            }
            return sum;
        }
    }

    /** The plants, silos and trucks in a run. */
    private static final class Haulage {
        static final int FREE = 0;
        static final int TO_PLANT = 1;
        static final int AT_PLANT = 2;
        static final int FILLING = 3;
        static final int TO_PAVER = 4;
        static final int AT_PAVER = 5;

        final Plants plants;
        final Hours hours;
        final Loads loads;
        private final Road road;
        private int world = 0;
        private int trucks = 0;
        private int orderedUpTo = 0;
        private final int[] stock = new int[MOST_PLANTS];
        private final int[] filling = new int[MOST_PLANTS];
        private final int[] readyAt = new int[MOST_PLANTS];
        private final int[] sent = new int[MOST_PLANTS];
        private final int[] doing = new int[MOST_TRUCKS];
        private final int[] comes = new int[MOST_TRUCKS];
        private final int[] carried = new int[MOST_TRUCKS];
        private final int[] ordered = new int[MOST_JOBS];

        Haulage(Road road, Plants plants, Hours hours, Loads loads) {
            this.road = road;
            this.plants = plants;
            this.hours = hours;
            this.loads = loads;
        }

        void begin(int inWorld, int ofTrucks) {
            world = inWorld;
            trucks = ofTrucks;
            orderedUpTo = 0;
            loads.clear();
            Arrays.fill(stock, 0);
            Arrays.fill(filling, NONE);
            Arrays.fill(readyAt, 0);
            Arrays.fill(sent, 0);
            Arrays.fill(doing, FREE);
            Arrays.fill(comes, 0);
            Arrays.fill(carried, NONE);
            Arrays.fill(ordered, 0);
        }

        void makeMix(int minute) {
            for (int p = 0; p < plants.count; p++) {
                if (!hours.isShut(world, p, minute)) {
                    set(stock, p, Math.min(at(plants.silos, p), at(stock, p) + at(plants.rates, p)));
                }
            }
        }

        void comeIn(int minute) {
            for (int t = 0; t < trucks; t++) {
                if (at(comes, t) == minute && at(doing, t) == TO_PLANT) {
                    set(doing, t, AT_PLANT);
                } else if (at(comes, t) == minute && at(doing, t) == TO_PAVER) {
                    set(doing, t, AT_PAVER);
                }
            }
        }

        void servePlant(int p, int minute) {
            int filled = at(filling, p);
            if (filled != NONE && at(readyAt, p) <= minute) {
                set(doing, filled, TO_PAVER);
                set(comes, filled, minute + hours.haul(world, p, minute));
                set(sent, p, at(sent, p) - 1);
                set(filling, p, NONE);
            }
            if (at(filling, p) == NONE && !hours.isShut(world, p, minute)) {
                beginFilling(p, minute);
            }
        }

        private void beginFilling(int p, int minute) {
            int truck = firstStanding(AT_PLANT, Loads.PLANT, p);
            if (truck == NONE) {
                return;
            }
            int load = at(carried, truck);
            int tonnes = loads.of(load, Loads.TONNES);
            if (at(stock, p) < tonnes) {
                return;
            }
            set(stock, p, at(stock, p) - tonnes);
            set(filling, p, truck);
            set(readyAt, p, minute + at(plants.fills, p));
            set(doing, truck, FILLING);
            loads.note(load, Loads.BEGUN, minute);
        }

        /** Trucks stand in the order in which they came, those of one minute by their numbers. */
        int firstStanding(int where, int field, int value) {
            int first = NONE;
            for (int t = 0; t < trucks; t++) {
                if (at(doing, t) == where && loads.of(at(carried, t), field) == value
                        && (first == NONE || at(comes, t) < at(comes, first))) {
                    first = t;
                }
            }
            return first;
        }

        void orderLoads(int minute) {
            for (int t = 0; t < trucks; t++) {
                if (at(doing, t) == FREE) {
                    int j = nextToOrder();
                    if (j == NONE) {
                        return;
                    }
                    orderLoad(t, j, minute);
                }
            }
        }

        /** The first job of which not all is ordered; refused tonnes put it back. */
        private int nextToOrder() {
            while (orderedUpTo < road.jobs() && at(ordered, orderedUpTo) >= at(road.tonnes, orderedUpTo)) {
                orderedUpTo++;
            }
            return orderedUpTo < road.jobs() ? orderedUpTo : NONE;
        }

        private void orderLoad(int truck, int j, int minute) {
            int p = leastSent(road.kindOf(j));
            int tonnes = Math.min(plants.carry, at(road.tonnes, j) - at(ordered, j));
            int load = p == NONE ? NONE : loads.add(j, tonnes, truck, p, minute);
            if (load == NONE) {
                return;
            }
            set(ordered, j, at(ordered, j) + tonnes);
            set(sent, p, at(sent, p) + 1);
            set(carried, truck, load);
            set(doing, truck, TO_PLANT);
            set(comes, truck, minute + hours.haul(world, p, minute));
        }

        private int leastSent(int kind) {
            int least = NONE;
            for (int p = 0; p < plants.count; p++) {
                if (at(plants.kinds, p) == kind && (least == NONE || at(sent, p) < at(sent, least))) {
                    least = p;
                }
            }
            return least;
        }

        /** The paver has taken what the truck carried; it is free when loads are ordered next. */
        int unload(int truck) {
            set(doing, truck, FREE);
            return at(carried, truck);
        }

        void orderAgain(int load) {
            int j = loads.of(load, Loads.JOB);
            set(ordered, j, at(ordered, j) - loads.of(load, Loads.TONNES));
            orderedUpTo = Math.min(orderedUpTo, j);
        }
    }

    /** A run: the paver, minute by minute, and what it came to. The latest run is kept. */
    private static final class Paving {
        static final int STOPS = 0;
        static final int END = 1;
        static final int LOADS = 2;
        static final int FIRST = 3;
        static final int REFUSED = 4;
        static final int TONNES_REFUSED = 5;
        static final int SUMS = 6;
        static final int MOST_TURNS = 1000;

        final int[] sums = new int[SUMS];
        final int[] firsts = new int[MOST_JOBS];
        /** Another number for each run that is made, so that what hangs on a run can tell. */
        int stamp = 0;
        private final Road road;
        private final Warmth warmth;
        private final Haulage haulage;
        private final Cooling cooling;
        private boolean made = false;
        private boolean done = false;
        private int world = 0;
        private int pace = 0;
        private int trucks = 0;
        private int atHand = 0;
        private int laidOfIt = 0;
        private int coldest = 0;
        private int held = 0;

        Paving(Road road, Warmth warmth, Haulage haulage, Cooling cooling) {
            this.road = road;
            this.warmth = warmth;
            this.haulage = haulage;
            this.cooling = cooling;
        }

        void forget() {
            made = false;
        }

        boolean isDone(int inWorld, int atPace, int ofTrucks) {
            if (made && world == inWorld && pace == atPace && trucks == ofTrucks) {
                return done;
            }
            clear();
            world = inWorld;
            pace = atPace;
            trucks = ofTrucks;
            haulage.begin(world, trucks);
            for (int minute = 0; minute < MINUTES && !done; minute++) {
                haulage.makeMix(minute);
                haulage.comeIn(minute);
                for (int p = 0; p < haulage.plants.count; p++) {
                    haulage.servePlant(p, minute);
                }
                haulage.orderLoads(minute);
                if (haulage.hours.isOpen(world, minute)) {
                    pave(minute);
                }
            }
            made = true;
            return done;
        }

        private void clear() {
            stamp++;
            done = false;
            atHand = 0;
            laidOfIt = 0;
            held = 0;
            Arrays.fill(sums, 0);
            set(sums, FIRST, NONE);
            Arrays.fill(firsts, NONE);
        }

        private void pave(int minute) {
            int left = pace;
            for (int turn = 0; turn < MOST_TURNS && left > 0 && !done && isFirmBelow(minute); turn++) {
                if (held > 0) {
                    left -= layOut(left, minute);
                } else if (!takeLoad(minute)) {
                    break;
                }
            }
            if (left == pace && at(sums, FIRST) != NONE) {
                set(sums, STOPS, at(sums, STOPS) + 1);
            }
        }

        private boolean isFirmBelow(int minute) {
            int below = atHand - road.sections;
            return below < 0
                    || cooling.meanBehind(below, minute - at(cooling.laidAt, below)) <= warmth.firm;
        }

        private boolean takeLoad(int minute) {
            int truck = haulage.firstStanding(Haulage.AT_PAVER, Loads.JOB, atHand);
            if (truck == NONE) {
                return false;
            }
            Loads loads = haulage.loads;
            int load = haulage.unload(truck);
            int tonnes = loads.of(load, Loads.TONNES);
            int heat = warmth.hot - cut(minute - loads.of(load, Loads.BEGUN), warmth.keep);
            loads.note(load, Loads.TAKEN, minute);
            loads.note(load, Loads.HEAT, heat);
            if (heat < warmth.refuse) {
                loads.note(load, Loads.REFUSED, 1);
                haulage.orderAgain(load);
                set(sums, REFUSED, at(sums, REFUSED) + 1);
                set(sums, TONNES_REFUSED, at(sums, TONNES_REFUSED) + tonnes);
                return true;
            }
            coldest = laidOfIt == 0 ? heat : Math.min(coldest, heat);
            held = tonnes;
            loads.noteLaid(load);
            return true;
        }

        /** Lays of what the paver has, at most so much; answers how much that was. */
        private int layOut(int most, int minute) {
            int tonnes = Math.min(held, most);
            if (at(sums, FIRST) == NONE) {
                set(sums, FIRST, minute);
            }
            if (laidOfIt == 0) {
                set(firsts, atHand, minute);
            }
            held -= tonnes;
            laidOfIt += tonnes;
            if (laidOfIt >= at(road.tonnes, atHand)) {
                cooling.begin(atHand, minute, coldest);
                atHand++;
                laidOfIt = 0;
                if (atHand >= road.jobs()) {
                    done = true;
                    set(sums, END, minute);
                }
            }
            return tonnes;
        }
    }

    /** The rollers and what they do on a run. */
    private static final class Rolling {
        private final int[] sorts = new int[MOST_ROLLERS];
        private final int[] speeds = new int[MOST_ROLLERS];
        private final int[] tops = {150, 120, 90};
        private final int[] lows = {110, 80, 60};
        private final int[] passes = {2, 3, 2};
        private final int[] freeAt = new int[MOST_ROLLERS];
        private final int[] begun = new int[MOST_JOBS * SORTS];
        /** The minute behind the last pass on each job. */
        final int[] overAt = new int[MOST_JOBS];
        private final Road road;
        private final Cooling cooling;
        private int rolledStamp = NONE;
        int count = 0;

        Rolling(Road road, Cooling cooling) {
            this.road = road;
            this.cooling = cooling;
        }

        int add(int sort, int speed) {
            if (count >= MOST_ROLLERS) {
                return NONE;
            }
            set(sorts, count, sort);
            set(speeds, count, speed);
            count++;
            rolledStamp = NONE;
            return count - 1;
        }

        void setSort(int sort, int top, int low, int number) {
            set(tops, sort, top);
            set(lows, sort, low);
            set(passes, sort, number);
            rolledStamp = NONE;
        }

        int missed(int j, int sort) {
            return at(passes, sort) - at(begun, j * SORTS + sort);
        }

        int missedOn(int j) {
            int sum = 0;
            for (int sort = 0; sort < SORTS; sort++) {
                sum += missed(j, sort);
            }
            return sum;
        }

        /** Rolls the run of this stamp, which is the one that the cooling is of. */
        void roll(int stamp) {
            if (rolledStamp == stamp) {
                return;
            }
            rolledStamp = stamp;
            Arrays.fill(freeAt, 0);
            Arrays.fill(begun, 0);
            Arrays.fill(overAt, NONE);
            int last = at(cooling.laidAt, road.jobs() - 1) + Cooling.KNOWN;
            for (int minute = at(cooling.laidAt, 0) + 1; minute <= last; minute++) {
                for (int r = 0; r < count; r++) {
                    if (at(freeAt, r) <= minute) {
                        beginPass(r, minute);
                    }
                }
            }
        }

        private void beginPass(int r, int minute) {
            int sort = at(sorts, r);
            int chosen = NONE;
            int least = 0;
            for (int j = 0; j < road.jobs(); j++) {
                if (mayBegin(j, sort, minute)) {
                    int mean = cooling.meanAt(j, minute);
                    if (isFrom(mean, at(lows, sort), at(tops, sort)) && (chosen == NONE || mean < least)) {
                        chosen = j;
                        least = mean;
                    }
                }
            }
            if (chosen == NONE) {
                return;
            }
            int speed = Math.max(1, at(speeds, r));
            int takes = (at(road.lengths, road.sectionOf(chosen)) + speed - 1) / speed;
            set(begun, chosen * SORTS + sort, at(begun, chosen * SORTS + sort) + 1);
            set(overAt, chosen, minute + takes);
            set(freeAt, r, minute + takes);
        }

        /** All but the heat: laid, nothing going on there, its turn, and not all begun. */
        private boolean mayBegin(int j, int sort, int minute) {
            int behind = minute - at(cooling.laidAt, j);
            if (!isFrom(behind, 1, Cooling.KNOWN) || at(overAt, j) > minute
                    || at(begun, j * SORTS + sort) >= at(passes, sort)) {
                return false;
            }
            for (int lower = 0; lower < sort; lower++) {
                if (at(begun, j * SORTS + lower) < at(passes, lower)) {
                    return false;
                }
            }
            return true;
        }
    }
}
