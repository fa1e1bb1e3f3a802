import java.util.ArrayDeque;
import java.util.ArrayList;
import java.util.Arrays;
import java.util.Deque;
import java.util.HashMap;
import java.util.Iterator;
import java.util.List;
import java.util.Map;
import java.util.regex.Matcher;
import java.util.regex.Pattern;

/** The document told a second time, slowly, with queues and lists and no rows that are used again. */
final class PlainModel {
    private static final int NONE = -1;

    private static final class Truck {
        int number;
        String doing = "free";
        int comes;
        Load load;
    }

    private static final class Load {
        int number, job, tonnes, truck, plant, ordered, begun = NONE, taken = NONE, heat = NONE, refused;
    }

    private static final class Plant {
        int kind, rate, silo, fill;
        int stock, ready, sent;
        Truck filled;
        Deque<Truck> standing = new ArrayDeque<>();
    }

    private static final class Clause {
        String word;
        int world, plant, from, to, minutes;
    }

    private static final class Fault extends Exception {
        private static final long serialVersionUID = 1;
        final int what, place;

        Fault(int what, int place) {
            super("fault " + what + " at " + place);
            this.what = what;
            this.place = place;
        }
    }

    private static final class Run {
        boolean done;
        int stops, end, first = NONE, refused, refusedTonnes;
        List<Load> loads = new ArrayList<>();
        List<Load> tonnes = new ArrayList<>();
        Map<Integer, Integer> firsts = new HashMap<>();
        Map<Integer, Integer> laid = new HashMap<>();
        Map<Integer, Integer> heats = new HashMap<>();
        Map<Integer, int[]> means = new HashMap<>();
        int[][] begun;
        int[] over;
    }

    private final List<int[]> sections = new ArrayList<>();
    private final List<int[]> layers = new ArrayList<>();
    private final List<int[]> plants = new ArrayList<>();
    private final List<int[]> rollers = new ArrayList<>();
    private final int[][] sorts = {{150, 110, 2}, {120, 80, 3}, {90, 60, 2}};
    private int wide = 70, smooth = 2, deep = 10, mill = 2, lay = 3;
    private int trucks = 6, carry = 20;
    private int hot = 160, keep = 4, refuse = 110, firm = 80, join = 70;
    private int air = 15, ground = 20, w = 60, g = 40;
    private String tape = "";
    private List<Clause> clauses = new ArrayList<>();
    private int worlds = 1;
    private String rate = "t";
    private int fault = NONE, place = NONE;
    private final Map<String, Run> runs = new HashMap<>();

    private static boolean in(int v, int a, int b) {
        return a <= v && v <= b;
    }

    int section(int length, int level) {
        if (!in(length, 10, 500) || !in(level, 0, 60) || sections.size() == 12) return NONE;
        sections.add(new int[] {length, level});
        runs.clear();
        return sections.size() - 1;
    }

    boolean even(int a, int b, int c, int d, int e) {
        if (!in(a, 20, 120) || !in(b, 0, 9) || !in(c, 0, 20) || !in(d, 1, 9) || !in(e, 1, 9)) return false;
        wide = a;
        smooth = b;
        deep = c;
        mill = d;
        lay = e;
        runs.clear();
        return true;
    }

    /** For each last height the cheapest row up to there, of like ones the first; {cost, heights ..}. */
    private int[] best() {
        if (sections.isEmpty()) return null;
        List<int[]> rows = new ArrayList<>();
        rows.add(new int[] {0});
        for (int s = 0; s < sections.size(); s++) {
            int old = sections.get(s)[1];
            List<int[]> longer = new ArrayList<>();
            for (int h = 0; h <= 60; h++) {
                if (h < old - deep) continue;
                int[] chosen = null;
                for (int[] row : rows) {
                    if (s > 0 && Math.abs(row[s] - h) > smooth) continue;
                    int[] more = Arrays.copyOf(row, s + 2);
                    more[s + 1] = h;
                    more[0] += h < old ? (old - h) * mill : (h - old) * lay;
                    if (chosen == null || Arrays.compare(more, chosen) < 0) chosen = more;
                }
                if (chosen != null) longer.add(chosen);
            }
            rows = longer;
        }
        int[] least = null;
        for (int[] row : rows) if (least == null || Arrays.compare(row, least) < 0) least = row;
        return least;
    }

    int levels() {
        int[] best = best();
        return best == null ? NONE : best[0];
    }

    int level(int s) {
        int[] best = best();
        return best == null || !in(s, 0, sections.size() - 1) ? NONE : best[s + 1];
    }

    int layer(int thick, int kind) {
        if (!in(thick, 20, 200) || !in(kind, 0, 2) || layers.size() == 3) return NONE;
        layers.add(new int[] {thick, kind});
        runs.clear();
        return layers.size() - 1;
    }

    private int jobs() {
        return sections.size() * layers.size();
    }

    private int[][] jobTable() {
        int[] best = best();
        int[][] all = new int[jobs()][];
        int j = 0;
        for (int l = 0; l < layers.size(); l++) {
            for (int s = 0; s < sections.size(); s++) {
                int depth = layers.get(l)[0];
                if (l == 0 && best[s + 1] > sections.get(s)[1]) depth += best[s + 1] - sections.get(s)[1];
                long mass = (long) sections.get(s)[0] * wide * depth * 24;
                long tonnes = mass / 100000 + (mass % 100000 != 0 ? 1 : 0);
                all[j++] = new int[] {s, l, depth, (int) tonnes};
            }
        }
        return all;
    }

    int job(int j, int what) {
        return in(j, 0, jobs() - 1) && in(what, 0, 3) ? jobTable()[j][what] : NONE;
    }

    int plant(int kind, int rate, int silo, int fill) {
        if (!in(kind, 0, 2) || !in(rate, 1, 10) || !in(silo, 10, 200) || !in(fill, 1, 20)) return NONE;
        if (plants.size() == 3) return NONE;
        plants.add(new int[] {kind, rate, silo, fill});
        runs.clear();
        return plants.size() - 1;
    }

    boolean trucks(int n, int c) {
        if (!in(n, 1, 16) || !in(c, 5, 30)) return false;
        trucks = n;
        carry = c;
        runs.clear();
        return true;
    }

    boolean heat(int a, int b, int c, int d, int e) {
        if (!in(a, 100, 200) || !in(b, 1, 20) || !in(c, 0, 200) || !in(d, 0, 200) || !in(e, 0, 200)) return false;
        hot = a;
        keep = b;
        refuse = c;
        firm = d;
        join = e;
        runs.clear();
        return true;
    }

    boolean weather(int a, int b, int c, int d) {
        if (!in(a, -20, 50) || !in(b, -20, 60) || !in(c, 1, 200) || !in(d, 1, 200)) return false;
        air = a;
        ground = b;
        w = c;
        g = d;
        runs.clear();
        return true;
    }

    int roller(int sort, int speed) {
        if (!in(sort, 0, 2) || !in(speed, 10, 100) || rollers.size() == 6) return NONE;
        rollers.add(new int[] {sort, speed});
        runs.clear();
        return rollers.size() - 1;
    }

    boolean sort(int sort, int top, int low, int passes) {
        if (!in(sort, 0, 2) || !in(top, 0, 200) || !in(low, 0, 200) || low > top || !in(passes, 0, 9)) return false;
        sorts[sort] = new int[] {top, low, passes};
        runs.clear();
        return true;
    }

    int feed(int... fives) {
        if (tape.length() + 20 > 400) return NONE;
        StringBuilder more = new StringBuilder(tape);
        for (int five : fives) {
            more.append((char) (five >>> 24)).append((char) (five >>> 16 & 255));
            more.append((char) (five >>> 8 & 255)).append((char) (five & 255));
        }
        tape = more.toString();
        return tape.length();
    }

    int end(int n) {
        if (n < 0 || n > tape.length()) return NONE;
        tape = tape.substring(0, n);
        return n;
    }

    // ---- texts: rows of {token, place}; behind the last one the end ----

    private static final class Token {
        String text;
        int place;

        boolean isNumber() {
            return !text.isEmpty() && text.charAt(0) >= '0' && text.charAt(0) <= '9';
        }

        int number() {
            String bare = text.replaceFirst("^0+", "");
            return bare.isEmpty() ? 0 : bare.length() > 6 ? 999999 : Integer.parseInt(bare);
        }
    }

    private List<Token> tokens;
    private int next;

    private void cut(String text) {
        tokens = new ArrayList<>();
        next = 0;
        Matcher m = Pattern.compile("[a-zA-Z]+|[0-9]+|[^ \n]", Pattern.DOTALL).matcher(text);
        while (m.find()) {
            Token token = new Token();
            token.text = m.group();
            token.place = m.start();
            tokens.add(token);
        }
        Token last = new Token();
        last.text = "";
        last.place = text.length();
        tokens.add(last);
    }

    private Token peek() {
        return tokens.get(next);
    }

    private void want(String text) throws Fault {
        if (!peek().text.equals(text)) throw new Fault(1, peek().place);
        next++;
    }

    private int wantNumber(int low, int high) throws Fault {
        if (!peek().isNumber()) throw new Fault(1, peek().place);
        if (!in(peek().number(), low, high)) throw new Fault(2, peek().place);
        return tokens.get(next++).number();
    }

    int hours() {
        String text = tape;
        tape = "";
        cut(text);
        List<Clause> fresh = new ArrayList<>();
        int world = NONE;
        try {
            while (!peek().text.isEmpty()) {
                Clause c = new Clause();
                c.word = peek().text;
                if (!List.of("world", "haul", "shut", "open", "rain").contains(c.word)) throw new Fault(1, peek().place);
                if (fresh.size() == 40) throw new Fault(3, peek().place);
                next++;
                c.world = world;
                if (c.word.equals("world")) {
                    world = wantNumber(world + 1, world == 2 ? NONE : world + 1);
                } else if (c.word.equals("haul")) {
                    c.plant = wantNumber(0, 2);
                    c.minutes = wantNumber(1, 120);
                    want("from");
                    c.from = wantNumber(0, 4319);
                } else {
                    if (c.word.equals("shut")) c.plant = wantNumber(0, 2);
                    c.from = wantNumber(0, 4319);
                    want("to");
                    c.to = wantNumber(c.from, 4319);
                }
                want(";");
                fresh.add(c);
            }
        } catch (Fault f) {
            fault = f.what;
            place = f.place;
            return NONE;
        }
        fault = 0;
        place = NONE;
        clauses = fresh;
        worlds = Math.max(1, world + 1);
        runs.clear();
        return clauses.size();
    }

    private final Map<String, Integer> letters = new HashMap<>();

    private long value(String text, int t, int d, int j, int m) throws Fault {
        letters.put("t", t);
        letters.put("d", d);
        letters.put("j", j);
        letters.put("m", m);
        cut(text);
        long told = sum(0);
        if (!peek().text.isEmpty()) throw new Fault(1, peek().place);
        return told;
    }

    private static long held(long v) {
        if (v > 1000000000L) return 1000000000L;
        return v < -1000000000L ? -1000000000L : v;
    }

    private long sum(int open) throws Fault {
        long v = product(open);
        while (peek().text.equals("+") || peek().text.equals("-")) {
            int sign = tokens.get(next++).text.equals("+") ? 1 : -1;
            v = held(v + sign * product(open));
        }
        return v;
    }

    private long product(int open) throws Fault {
        long v = one(open);
        while (peek().text.equals("*") || peek().text.equals("/")) {
            boolean times = tokens.get(next++).text.equals("*");
            long o = one(open);
            if (times) v = held(v * o);
            else v = o == 0 ? 0 : v / o;
        }
        return v;
    }

    private void opening(int open) throws Fault {
        if (open == 8) throw new Fault(3, peek().place);
        next++;
    }

    private long one(int open) throws Fault {
        Token token = peek();
        if (token.isNumber()) return wantNumber(0, 9999);
        switch (token.text) {
            case "-":
                opening(open);
                return -one(open + 1);
            case "(": {
                opening(open);
                long v = sum(open + 1);
                want(")");
                return v;
            }
            case "min":
            case "max": {
                next++;
                if (!peek().text.equals("(")) throw new Fault(1, peek().place);
                opening(open);
                long a = sum(open + 1);
                want(",");
                long b = sum(open + 1);
                want(")");
                return token.text.equals("min") == a < b ? a : b;
            }
            default:
                if (!letters.containsKey(token.text)) throw new Fault(1, token.place);
                next++;
                return letters.get(token.text);
        }
    }

    boolean rate() {
        if (tape.length() > 100) return false;
        String text = tape;
        tape = "";
        try {
            value(text, 1, 1, 1, 1);
        } catch (Fault f) {
            fault = f.what;
            place = f.place;
            return false;
        }
        fault = 0;
        place = NONE;
        rate = text;
        return true;
    }

    int fault(int what) {
        return what == 0 ? fault : what == 1 ? place : NONE;
    }

    // ---- worlds ----

    private boolean holds(Clause c, int world) {
        return c.world == NONE || c.world == world;
    }

    private boolean within(String word, int world, int plant, int minute) {
        for (Clause c : clauses) {
            if (c.word.equals(word) && holds(c, world) && (plant == NONE || c.plant == plant)
                    && in(minute, c.from, c.to)) return true;
        }
        return false;
    }

    private boolean open(int world, int minute) {
        boolean told = false;
        for (Clause c : clauses) told |= c.word.equals("open") && holds(c, world);
        return (!told || within("open", world, NONE, minute)) && !within("rain", world, NONE, minute);
    }

    private int haul(int world, int plant, int minute) {
        Clause best = null;
        for (Clause c : clauses) {
            if (c.word.equals("haul") && holds(c, world) && c.plant == plant && c.from <= minute) {
                if (best == null || c.from >= best.from) best = c;
            }
        }
        return best == null ? 20 : best.minutes;
    }

    int world(int world, int minute, int what) {
        if (!in(world, 0, worlds - 1) || !in(minute, 0, 4319) || !in(what, 0, 6)) return NONE;
        if (what == 0) return open(world, minute) ? 1 : 0;
        if (what < 4) return haul(world, what - 1, minute);
        return within("shut", world, what - 4, minute) ? 1 : 0;
    }

    // ---- runs ----

    private int[] curve(int depth, int heat) {
        int[] all = new int[601];
        int[] now = {heat, heat, heat, heat, heat};
        int c = Math.min(400, 400000 / (depth * depth));
        for (int m = 0; m <= 600; m++) {
            all[m] = (now[0] + now[1] + now[2] + now[3] + now[4]) / 5;
            int[] then = now.clone();
            then[0] -= (now[0] - air) * w / 1000;
            then[4] -= (now[4] - ground) * g / 1000;
            for (int i = 0; i < 4; i++) {
                int flow = (now[i] - now[i + 1]) * c / 1000;
                then[i] -= flow;
                then[i + 1] += flow;
            }
            now = then;
        }
        return all;
    }

    private int meanAt(Run run, int j, int minute) {
        return run.means.get(j)[Math.min(600, minute - run.laid.get(j))];
    }

    private Run made(int world, int pace, int count) {
        if (!in(world, 0, worlds - 1) || !in(pace, 1, 20) || jobs() == 0) return null;
        for (int[] layer : layers) {
            boolean some = false;
            for (int[] p : plants) some |= p[0] == layer[1];
            if (!some) return null;
        }
        String key = world + " " + pace + " " + count;
        Run run = runs.get(key);
        if (run == null) {
            run = make(world, pace, count);
            runs.put(key, run);
        }
        return run.done ? run : null;
    }

    private Run make(int world, int pace, int count) {
        Run run = new Run();
        int[][] jobs = jobTable();
        int[] ordered = new int[jobs.length];
        List<Plant> yard = new ArrayList<>();
        for (int[] p : plants) {
            Plant plant = new Plant();
            plant.kind = p[0];
            plant.rate = p[1];
            plant.silo = p[2];
            plant.fill = p[3];
            yard.add(plant);
        }
        List<Truck> fleet = new ArrayList<>();
        for (int i = 0; i < count; i++) {
            Truck truck = new Truck();
            truck.number = i;
            fleet.add(truck);
        }
        List<Truck> atPaver = new ArrayList<>();
        Load inPaver = null;
        int inPaverTonnes = 0;
        int hand = 0;
        int laidHere = 0;
        int least = 0;
        for (int minute = 0; minute < 4320; minute++) {
            for (int p = 0; p < yard.size(); p++) {
                Plant plant = yard.get(p);
                if (!within("shut", world, p, minute)) plant.stock = Math.min(plant.silo, plant.stock + plant.rate);
            }
            for (Truck truck : fleet) {
                if (truck.comes != minute) continue;
                if (truck.doing.equals("to plant")) {
                    truck.doing = "standing";
                    yard.get(truck.load.plant).standing.addLast(truck);
                } else if (truck.doing.equals("to paver")) {
                    truck.doing = "standing";
                    atPaver.add(truck);
                }
            }
            for (int p = 0; p < yard.size(); p++) {
                Plant plant = yard.get(p);
                if (plant.filled != null && plant.ready == minute) {
                    plant.filled.doing = "to paver";
                    plant.filled.comes = minute + haul(world, p, minute);
                    plant.filled = null;
                    plant.sent--;
                }
                if (plant.filled == null && !within("shut", world, p, minute) && !plant.standing.isEmpty()
                        && plant.stock >= plant.standing.peekFirst().load.tonnes) {
                    plant.filled = plant.standing.removeFirst();
                    plant.stock -= plant.filled.load.tonnes;
                    plant.ready = minute + plant.fill;
                    plant.filled.load.begun = minute;
                }
            }
            for (Truck truck : fleet) {
                if (!truck.doing.equals("free")) continue;
                int j = 0;
                while (j < jobs.length && ordered[j] == jobs[j][3]) j++;
                if (j == jobs.length) continue;
                int kind = layers.get(jobs[j][1])[1];
                int to = NONE;
                for (int p = 0; p < yard.size(); p++) {
                    if (yard.get(p).kind == kind && (to == NONE || yard.get(p).sent < yard.get(to).sent)) to = p;
                }
                Load load = new Load();
                load.number = run.loads.size();
                load.job = j;
                load.tonnes = Math.min(carry, jobs[j][3] - ordered[j]);
                load.truck = truck.number;
                load.plant = to;
                load.ordered = minute;
                run.loads.add(load);
                ordered[j] += load.tonnes;
                yard.get(to).sent++;
                truck.load = load;
                truck.doing = "to plant";
                truck.comes = minute + haul(world, to, minute);
            }
            if (!open(world, minute)) continue;
            int left = pace;
            while (left > 0) {
                int below = hand - sections.size();
                if (below >= 0 && meanAt(run, below, minute) > firm) break;
                if (inPaverTonnes == 0) {
                    Truck found = null;
                    for (Iterator<Truck> i = atPaver.iterator(); found == null && i.hasNext();) {
                        Truck truck = i.next();
                        if (truck.load.job == hand) {
                            found = truck;
                            i.remove();
                        }
                    }
                    if (found == null) break;
                    found.doing = "free";
                    Load load = found.load;
                    load.taken = minute;
                    load.heat = hot - (minute - load.begun) / keep;
                    if (load.heat < refuse) {
                        load.refused = 1;
                        run.refused++;
                        run.refusedTonnes += load.tonnes;
                        ordered[hand] -= load.tonnes;
                        continue;
                    }
                    least = laidHere == 0 ? load.heat : Math.min(least, load.heat);
                    inPaver = load;
                    inPaverTonnes = load.tonnes;
                }
                if (run.first == NONE) run.first = minute;
                run.firsts.putIfAbsent(hand, minute);
                run.tonnes.add(inPaver);
                inPaverTonnes--;
                left--;
                laidHere++;
                if (laidHere == jobs[hand][3]) {
                    run.laid.put(hand, minute);
                    run.heats.put(hand, least);
                    run.means.put(hand, curve(jobs[hand][2], least));
                    hand++;
                    laidHere = 0;
                    if (hand == jobs.length) {
                        run.end = minute;
                        run.done = true;
                        roll(run, jobs);
                        return run;
                    }
                }
            }
            if (left == pace && run.first != NONE) run.stops++;
        }
        return run;
    }

    private void roll(Run run, int[][] jobs) {
        run.begun = new int[jobs.length][3];
        run.over = new int[jobs.length];
        Arrays.fill(run.over, NONE);
        int[] free = new int[rollers.size()];
        for (int minute = 0; minute <= run.end + 600; minute++) {
            for (int r = 0; r < rollers.size(); r++) {
                if (free[r] > minute) continue;
                int sort = rollers.get(r)[0];
                int chosen = NONE;
                for (int j = 0; j < jobs.length; j++) {
                    int behind = minute - run.laid.get(j);
                    if (behind < 1 || behind > 600 || run.over[j] > minute) continue;
                    int mean = run.means.get(j)[behind];
                    if (mean > sorts[sort][0] || mean < sorts[sort][1]) continue;
                    if (run.begun[j][sort] == sorts[sort][2]) continue;
                    boolean turn = true;
                    for (int s = 0; s < sort; s++) turn &= run.begun[j][s] == sorts[s][2];
                    if (turn && (chosen == NONE || mean < meanAt(run, chosen, minute))) chosen = j;
                }
                if (chosen == NONE) continue;
                int length = sections.get(jobs[chosen][0])[0];
                int speed = rollers.get(r)[1];
                int takes = length / speed + (length % speed == 0 ? 0 : 1);
                free[r] = minute + takes;
                run.over[chosen] = minute + takes;
                run.begun[chosen][sort]++;
            }
        }
    }

    int run(int world, int pace, int what) {
        Run run = made(world, pace, trucks);
        if (run == null || !in(what, 0, 5)) return NONE;
        return new int[] {run.stops, run.end, run.loads.size(), run.first, run.refused, run.refusedTonnes}[what];
    }

    int pace() {
        int best = NONE;
        int[] with = null;
        for (int pace = 1; pace <= 20; pace++) {
            int[] mine = new int[3];
            boolean all = true;
            for (int world = 0; world < worlds && all; world++) {
                Run run = made(world, pace, trucks);
                all = run != null;
                if (!all) break;
                mine[0] = Math.max(mine[0], run.stops);
                mine[1] += run.stops;
                mine[2] = Math.max(mine[2], run.end);
            }
            if (all && (with == null || Arrays.compare(mine, with) < 0)) {
                with = mine;
                best = pace;
            }
        }
        return best;
    }

    int fewest(int pace) {
        for (int n = 1; n <= 16; n++) {
            boolean all = true;
            for (int world = 0; world < worlds && all; world++) {
                Run run = made(world, pace, n);
                all = run != null && run.stops == 0;
            }
            if (all) return n;
        }
        return NONE;
    }

    int load(int world, int pace, int k, int what) {
        Run run = made(world, pace, trucks);
        if (run == null || !in(k, 0, run.loads.size() - 1) || !in(what, 0, 8)) return NONE;
        Load l = run.loads.get(k);
        return new int[] {l.job, l.tonnes, l.truck, l.plant, l.ordered, l.begun, l.taken, l.heat, l.refused}[what];
    }

    int tonne(int world, int pace, int i) {
        Run run = made(world, pace, trucks);
        return run == null || !in(i, 0, run.tonnes.size() - 1) ? NONE : run.tonnes.get(i).number;
    }

    private boolean cold(Run run, int j) {
        return j % sections.size() != 0 && meanAt(run, j - 1, run.firsts.get(j)) < join;
    }

    private int missed(Run run, int j) {
        int sum = 0;
        for (int s = 0; s < 3; s++) sum += sorts[s][2] - run.begun[j][s];
        return sum;
    }

    private int dense(Run run, int j) {
        return Math.max(0, 100 - 4 * missed(run, j) - (cold(run, j) ? 6 : 0));
    }

    int laid(int world, int pace, int j, int what) {
        Run run = made(world, pace, trucks);
        if (run == null || !in(j, 0, jobs() - 1) || !in(what, 0, 8)) return NONE;
        if (what == 0) return run.firsts.get(j);
        if (what == 1) return run.laid.get(j);
        if (what == 2) return run.heats.get(j);
        if (what == 3) return cold(run, j) ? 1 : 0;
        if (what < 7) return sorts[what - 4][2] - run.begun[j][what - 4];
        return what == 7 ? run.over[j] : dense(run, j);
    }

    int mean(int world, int pace, int j, int minutes) {
        Run run = made(world, pace, trucks);
        return run == null || !in(j, 0, jobs() - 1) || !in(minutes, 0, 600) ? -1000 : run.means.get(j)[minutes];
    }

    int tells(int t, int d, int j, int m) {
        for (int v : new int[] {t, d, j, m}) if (!in(v, -1000000, 1000000)) return -2000000000;
        try {
            return (int) value(rate, t, d, j, m);
        } catch (Fault f) {
            throw new IllegalStateException(f);
        }
    }

    private List<Integer> drawn(int n, int seed) {
        List<Integer> row = new ArrayList<>();
        for (int j = 0; j < jobs(); j++) row.add(j);
        int s = seed;
        for (int i = 0; i < n; i++) {
            s = s * 1103515245 + 12345;
            java.util.Collections.swap(row, i, i + (s >>> 16) % (jobs() - i));
        }
        return row.subList(0, n);
    }

    long pay(int world, int pace, int n, int seed) {
        Run run = made(world, pace, trucks);
        if (run == null || !in(n, 1, jobs())) return -1;
        List<Integer> cores = drawn(n, seed);
        int together = 0;
        for (int j : cores) together += dense(run, j);
        long sum = 0;
        for (int j = 0; j < jobs(); j++) {
            int d = cores.contains(j) ? dense(run, j) : together / n;
            try {
                sum += value(rate, jobTable()[j][3], d, cold(run, j) ? 1 : 0, missed(run, j));
            } catch (Fault f) {
                throw new IllegalStateException(f);
            }
        }
        return sum;
    }

    int core(int n, int seed, int i) {
        return in(n, 1, jobs()) && in(i, 0, n - 1) ? drawn(n, seed).get(i) : NONE;
    }

    int about(int what) {
        int tonnes = 0;
        if (jobs() > 0) for (int[] job : jobTable()) tonnes += job[3];
        int[] all = {sections.size(), layers.size(), plants.size(), trucks, carry, rollers.size(),
            clauses.size(), worlds, jobs(), tonnes, tape.length()};
        return in(what, 0, 10) ? all[what] : NONE;
    }
}
