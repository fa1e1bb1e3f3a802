import java.util.Random;

/** Runs of drawn calls, told to the program and to the plain model: every answer must be the same. */
public final class ModelTest {
    private static int wrong = 0;
    private static long calls = 0;
    private static int done = 0;
    private static int refused = 0;
    private static int stopped = 0;
    private static int colds = 0;
    private static int rolled = 0;

    /** An object is used for 512 calls; with fewer than this behind it one more turn keeps within them. */
    private static final int MOST_USED = 470;

    private int used = 0;
    private final Random random;
    private final int seed;
    private final BlackRoad road = new BlackRoad();
    private final PlainModel model = new PlainModel();

    private ModelTest(int seed) {
        this.seed = seed;
        random = new Random(seed);
    }

    public static void main(String[] args) {
        int runs = args.length > 0 ? Integer.parseInt(args[0]) : 400;
        int first = args.length > 1 ? Integer.parseInt(args[1]) : 0;
        for (int seed = first; seed < first + runs && wrong < 20; seed++) {
            new ModelTest(seed).play();
        }
        System.out.println(calls + " calls, done " + done + ", refused " + refused + ", stops " + stopped
                + ", cold joints " + colds + ", passes missed in part " + rolled);
        if (done == 0 || refused == 0 || stopped == 0 || colds == 0 || rolled == 0) {
            System.out.println("the drawn runs don't reach what they should");
            wrong++;
        }
        System.out.println(wrong == 0 ? "the program and the model agree" : wrong + " answers differ");
        if (wrong != 0) System.exit(1);
    }

    private void same(String call, long got, long want) {
        calls++;
        used++;
        if (got != want) {
            wrong++;
            System.out.println("seed " + seed + ": " + call + " answered " + got + ", the model " + want);
        }
    }

    private void same(String call, boolean got, boolean want) {
        same(call, got ? 1 : 0, want ? 1 : 0);
    }

    private int of(int low, int high) {
        return low + random.nextInt(high - low + 1);
    }

    /** Mostly within, now and then at an edge or a step outside. */
    private int near(int low, int high) {
        switch (random.nextInt(16)) {
            case 0: return low;
            case 1: return high;
            case 2: return random.nextInt(3) == 0 ? low - 1 : low;
            case 3: return random.nextInt(3) == 0 ? high + 1 : high;
            default: return of(low, high);
        }
    }

    private void play() {
        int big = random.nextInt(4);
        for (int i = of(1, big == 0 ? 13 : 4); i > 0; i--) section(big == 0 ? 500 : 90);
        for (int i = of(1, 3); i > 0; i--) layer();
        if (random.nextBoolean()) even();
        for (int i = of(1, 3); i > 0; i--) plant();
        for (int i = of(0, 6); i > 0; i--) roller();
        if (random.nextBoolean()) trucks();
        if (random.nextBoolean()) heat();
        if (random.nextBoolean()) weather();
        for (int i = of(0, 3); i > 0; i--) sort();
        if (random.nextBoolean()) hours();
        if (random.nextBoolean()) rate();
        for (int i = 0; i < 60 && used < MOST_USED; i++) {
            if (random.nextInt(8) == 0) change();
            ask();
            if (random.nextInt(4) == 0) wild();
        }
    }

    /** Any number at all: mostly one from far outside, in a call that must change nothing then. */
    private int any() {
        switch (random.nextInt(8)) {
            case 0: return Integer.MIN_VALUE;
            case 1: return Integer.MAX_VALUE;
            case 2: return random.nextInt();
            case 3: return -1;
            case 4: return of(-3, 700);
            case 5: return of(-3, 50);
            default: return of(0, 3);
        }
    }

    private void wild() {
        int a = any(), b = any(), c = any(), d = any(), e = any();
        String with = " " + a + " " + b + " " + c + " " + d + " " + e;
        switch (random.nextInt(24)) {
            case 0: same("section" + with, road.section(a, b), model.section(a, b)); break;
            case 1: same("even" + with, road.even(a, b, c, d, e), model.even(a, b, c, d, e)); break;
            case 2: same("level" + with, road.level(a), model.level(a)); break;
            case 3: same("layer" + with, road.layer(a, b), model.layer(a, b)); break;
            case 4: same("job" + with, road.job(a, b), model.job(a, b)); break;
            case 5: same("plant" + with, road.plant(a, b, c, d), model.plant(a, b, c, d)); break;
            case 6: same("trucks" + with, road.trucks(a, b), model.trucks(a, b)); break;
            case 7: same("heat" + with, road.heat(a, b, c, d, e), model.heat(a, b, c, d, e)); break;
            case 8: same("weather" + with, road.weather(a, b, c, d), model.weather(a, b, c, d)); break;
            case 9: same("roller" + with, road.roller(a, b), model.roller(a, b)); break;
            case 10: same("sort" + with, road.sort(a, b, c, d), model.sort(a, b, c, d)); break;
            case 11: same("feed" + with, road.feed(a, b, c, d, e), model.feed(a, b, c, d, e)); break;
            case 12: same("end" + with, road.end(a), model.end(a)); break;
            case 13: same("fault" + with, road.fault(a), model.fault(a)); break;
            case 14: same("world" + with, road.world(a, b, c), model.world(a, b, c)); break;
            case 15: same("run" + with, road.run(a, b, c), model.run(a, b, c)); break;
            case 16: same("load" + with, road.load(a, b, c, d), model.load(a, b, c, d)); break;
            case 17: same("tonne" + with, road.tonne(a, b, c), model.tonne(a, b, c)); break;
            case 18: same("laid" + with, road.laid(a, b, c, d), model.laid(a, b, c, d)); break;
            case 19: same("mean" + with, road.mean(a, b, c, d), model.mean(a, b, c, d)); break;
            case 20: same("tells" + with, road.tells(a, b, c, d), model.tells(a, b, c, d)); break;
            case 21: same("pay" + with, road.pay(a, b, c, d), model.pay(a, b, c, d)); break;
            case 22: same("core" + with, road.core(a, b, c), model.core(a, b, c)); break;
            default: same("about" + with, road.about(a), model.about(a)); break;
        }
    }

    private void change() {
        switch (random.nextInt(13)) {
            case 0: section(120); break;
            case 1: layer(); break;
            case 2: even(); break;
            case 3: plant(); break;
            case 4: roller(); break;
            case 5: case 6: trucks(); break;
            case 7: heat(); break;
            case 8: weather(); break;
            case 9: sort(); break;
            case 10: case 11: hours(); break;
            default: rate(); break;
        }
    }

    private void section(int most) {
        int a = near(10, most), b = near(0, 60);
        if (random.nextInt(3) > 0) b = of(20, 30);
        same("section " + a + " " + b, road.section(a, b), model.section(a, b));
    }

    private void layer() {
        int a = random.nextBoolean() ? near(20, 60) : near(20, 200), b = near(0, 2);
        if (random.nextInt(3) > 0) b = 0;
        same("layer " + a + " " + b, road.layer(a, b), model.layer(a, b));
    }

    private void even() {
        int a = near(20, 120), b = near(0, 9), c = near(0, 20), d = near(1, 9), e = near(1, 9);
        same("even " + a + " " + b + " " + c + " " + d + " " + e, road.even(a, b, c, d, e), model.even(a, b, c, d, e));
    }

    private void plant() {
        int a = random.nextInt(3) > 0 ? 0 : near(0, 2), b = near(1, 10), c = near(10, 200), d = near(1, 20);
        same("plant " + a + " " + b + " " + c + " " + d, road.plant(a, b, c, d), model.plant(a, b, c, d));
    }

    private void trucks() {
        int a = near(1, 16), b = near(5, 30);
        same("trucks " + a + " " + b, road.trucks(a, b), model.trucks(a, b));
    }

    private void heat() {
        int a = near(100, 200), b = near(1, 20), c = near(0, 200), d = near(0, 200), e = near(0, 200);
        if (random.nextInt(3) > 0) c = of(60, 150);
        if (random.nextInt(3) > 0) d = of(40, 150);
        same("heat " + a + " " + b + " " + c + " " + d + " " + e, road.heat(a, b, c, d, e), model.heat(a, b, c, d, e));
    }

    private void weather() {
        int a = near(-20, 50), b = near(-20, 60), c = near(1, 200), d = near(1, 200);
        same("weather " + a + " " + b + " " + c + " " + d, road.weather(a, b, c, d), model.weather(a, b, c, d));
    }

    private void roller() {
        int a = near(0, 2), b = near(10, 100);
        same("roller " + a + " " + b, road.roller(a, b), model.roller(a, b));
    }

    private void sort() {
        int a = near(0, 2), b = near(0, 200), c = near(0, 200), d = near(0, 9);
        if (random.nextInt(3) > 0) {
            b = of(100, 200);
            c = of(20, 100);
            d = of(0, 3);
        }
        same("sort " + a + " " + b + " " + c + " " + d, road.sort(a, b, c, d), model.sort(a, b, c, d));
    }

    private String number(int low, int high) {
        if (random.nextInt(150) == 0) return "99999999999999999999";
        return (random.nextInt(20) == 0 ? "000" : "") + Math.max(0, near(low, high));
    }

    private String minutes() {
        int a = of(0, 700), b = a + of(0, 300);
        if (random.nextInt(25) == 0) return number(0, 4319) + " to " + number(0, 4319);
        return number(a, a) + " to " + Math.min(4319, b);
    }

    private String hoursText() {
        StringBuilder text = new StringBuilder();
        int world = 0;
        int most = random.nextInt(12) == 0 ? 60 : of(0, 9);
        for (int i = 0; i < most && text.length() < (most == 60 ? 380 : 340); i++) {
            switch (random.nextInt(most == 60 ? 30 : 8)) {
                case 0:
                    if (world < 3 || random.nextInt(6) == 0) text.append("world ").append(number(world, world++)).append(';');
                    break;
                case 1: case 2:
                    text.append("haul ").append(number(0, 2)).append(' ').append(number(1, random.nextBoolean() ? 30 : 120));
                    text.append(" from ").append(number(0, 300)).append("; ");
                    break;
                case 3: text.append("shut ").append(number(0, 2)).append('\n').append(minutes()).append(';'); break;
                case 4: text.append("open ").append(minutes()).append(" ; "); break;
                case 5: text.append("rain").append(minutes()).append(";\n"); break;
                default: if (most == 60) text.append("rain9to9;"); break;
            }
        }
        return spoiled(text, "worldhulstpenai0123 ;\nXZ?\t\u00e9");
    }

    private String spoiled(StringBuilder text, String signs) {
        if (random.nextInt(4) == 0 && text.length() > 0) {
            int place = random.nextInt(text.length());
            char sign = signs.charAt(random.nextInt(signs.length()));
            switch (random.nextInt(4)) {
                case 0: text.setCharAt(place, sign); break;
                case 1: text.deleteCharAt(place); break;
                case 2: text.insert(place, sign); break;
                default: text.setLength(place); break;
            }
        }
        return text.toString();
    }

    private String sumText(int depth) {
        StringBuilder text = new StringBuilder(productText(depth));
        for (int i = random.nextInt(3); i > 0; i--) text.append(random.nextBoolean() ? "+" : " -").append(productText(depth));
        return text.toString();
    }

    private String productText(int depth) {
        StringBuilder text = new StringBuilder(oneText(depth));
        for (int i = random.nextInt(3); i > 0; i--) text.append(random.nextBoolean() ? "*" : "/ ").append(oneText(depth));
        return text.toString();
    }

    private String oneText(int depth) {
        switch (random.nextInt(depth > 3 ? 6 : 10)) {
            case 0: return number(0, 9999);
            case 1: return number(0, 9);
            case 2: return "t";
            case 3: return "d";
            case 4: return " j";
            case 5: return "m ";
            case 6: return "-" + oneText(depth + 1);
            case 7: return "(" + sumText(depth + 1) + ")";
            case 8: return "min(" + sumText(depth + 2) + "," + sumText(depth + 2) + ")";
            default: return "max (" + sumText(depth + 2) + ", " + sumText(depth + 2) + ")";
        }
    }

    private void put(String text) {
        same("end 0", road.end(0), model.end(0));
        for (int i = 0; i < text.length(); i += 20) {
            int[] five = new int[5];
            for (int k = 0; k < 20; k++) {
                int sign = i + k < text.length() ? text.charAt(i + k) : 0;
                five[k / 4] |= sign << 24 - 8 * (k % 4);
            }
            same("feed", road.feed(five[0], five[1], five[2], five[3], five[4]), model.feed(five));
        }
        same("end " + text.length(), road.end(text.length()), model.end(text.length()));
    }

    private void faults(String text) {
        same("fault 0 of " + text, road.fault(0), model.fault(0));
        same("fault 1 of " + text, road.fault(1), model.fault(1));
        same("about 10", road.about(10), model.about(10));
    }

    private void hours() {
        String text = hoursText();
        put(text);
        same("hours " + text, road.hours(), model.hours());
        faults(text);
    }

    private void rate() {
        String text = spoiled(new StringBuilder(sumText(random.nextInt(5))), "tdjmin()+-*/,0129 \n;A");
        if (random.nextInt(10) == 0) text = "-(".repeat(of(2, 5)) + text;
        if (text.length() > 200) text = text.substring(0, 200);
        put(text);
        same("rate " + text, road.rate(), model.rate());
        faults(text);
        for (int i = 0; i < 4; i++) {
            int a = near(-1000000, 1000000), b = near(0, 100), c = near(0, 1), d = near(-1000000, 1000000);
            same("tells " + a + " " + b + " " + c + " " + d + " by " + text, road.tells(a, b, c, d), model.tells(a, b, c, d));
        }
    }

    private void ask() {
        int world = near(0, Math.max(0, model.about(7) - 1)), pace = near(1, 20), jobs = model.about(8);
        if (random.nextInt(4) == 0 && pace > 1) pace = 5;
        String run = world + " " + pace + " ";
        switch (random.nextInt(14)) {
            case 0: {
                int what = near(0, 10);
                same("about " + what, road.about(what), model.about(what));
                break;
            }
            case 1: {
                int s = near(0, 11), j = near(0, Math.max(0, jobs - 1)), what = near(0, 3);
                same("levels", road.levels(), model.levels());
                same("level " + s, road.level(s), model.level(s));
                same("job " + j + " " + what, road.job(j, what), model.job(j, what));
                break;
            }
            case 2: {
                int minute = random.nextBoolean() ? near(0, 4319) : of(0, 1000), what = near(0, 6);
                same("world " + world + " " + minute + " " + what, road.world(world, minute, what), model.world(world, minute, what));
                break;
            }
            case 3: case 4:
                for (int what = -1; what <= 6; what++) same("run " + run + what, road.run(world, pace, what), model.run(world, pace, what));
                if (model.run(world, pace, 0) > 0) stopped++;
                if (model.run(world, pace, 4) > 0) refused++;
                if (model.run(world, pace, 0) >= 0) done++;
                break;
            case 5: if (random.nextInt(4) == 0) same("pace", road.pace(), model.pace()); break;
            case 6: if (random.nextInt(4) == 0) same("fewest " + pace, road.fewest(pace), model.fewest(pace)); break;
            case 7: case 8: {
                int k = near(0, Math.max(0, model.run(world, pace, 2) - 1));
                for (int what = -1; what <= 9; what++) same("load " + run + k + " " + what, road.load(world, pace, k, what), model.load(world, pace, k, what));
                break;
            }
            case 9: {
                int i = near(0, Math.max(0, model.about(9) - 1));
                same("tonne " + run + i, road.tonne(world, pace, i), model.tonne(world, pace, i));
                break;
            }
            case 10: case 11: {
                int j = near(0, Math.max(0, jobs - 1));
                for (int what = -1; what <= 9; what++) same("laid " + run + j + " " + what, road.laid(world, pace, j, what), model.laid(world, pace, j, what));
                if (model.laid(world, pace, j, 3) == 1) colds++;
                if (model.laid(world, pace, j, 7) > 0 && model.laid(world, pace, j, 8) < 100) rolled++;
                break;
            }
            case 12: {
                int j = near(0, Math.max(0, jobs - 1)), minutes = random.nextBoolean() ? of(0, 40) : near(0, 600);
                same("mean " + run + j + " " + minutes, road.mean(world, pace, j, minutes), model.mean(world, pace, j, minutes));
                break;
            }
            default: {
                int n = near(1, Math.max(1, jobs)), s = random.nextInt(), i = near(0, Math.max(0, n - 1));
                same("core " + n + " " + s + " " + i, road.core(n, s, i), model.core(n, s, i));
                same("pay " + run + n + " " + s, road.pay(world, pace, n, s), model.pay(world, pace, n, s));
                break;
            }
        }
    }
}
