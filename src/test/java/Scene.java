/** Objects that the edge tests begin with, and what can be seen of an object. */
final class Scene {

    private Scene() {
    }

    /** Sections of old level 0, one layer of 20 mm: 4 tonnes for each 10 m. A plant one minute away. */
    static BlackRoad small(int sections, int length, int trucks) {
        BlackRoad x = new BlackRoad();
        for (int s = 0; s < sections; s++) x.section(length, 0);
        x.layer(20, 0);
        x.plant(0, 10, 200, 1);
        x.trucks(trucks, 5);
        Check.hours(x, "haul 0 1 from 0;");
        return x;
    }

    /** One of which every part is in use: two worlds, two layers, two plants, rollers, loads that are refused. */
    static BlackRoad busy() {
        BlackRoad x = new BlackRoad();
        x.section(30, 10);
        x.section(20, 14);
        x.section(40, 6);
        x.layer(20, 0);
        x.layer(30, 0);
        x.plant(0, 3, 40, 2);
        x.plant(0, 2, 30, 1);
        x.trucks(3, 7);
        x.heat(160, 1, 150, 120, 152);
        x.roller(0, 10);
        x.roller(1, 10);
        x.sort(1, 120, 100, 3);
        Check.hours(x, "haul 0 3 from 0;haul 1 2 from 0;world 0;rain 12 to 20;world 1;shut 0 30 to 40;");
        Check.rate(x, "t*d/10-j*50-m");
        x.feed(0x74207420, 0, 0, 0, 0);
        return x;
    }

    /** Some hundred answers: what is seen of the object, of two runs, and of what hangs on them. */
    static String seen(BlackRoad x) {
        return kept(x) + "tape " + x.about(10) + " fault " + x.fault(0) + " at " + x.fault(1);
    }

    /** What a text that isn't read leaves as it is: all but the tape and the fault. */
    static String kept(BlackRoad x) {
        StringBuilder text = new StringBuilder();
        for (int what = 0; what < 10; what++) add(text, x.about(what));
        add(text, x.levels());
        for (int s = 0; s < 3; s++) add(text, x.level(s));
        for (int what = 2; what < 4; what++) for (int j = 0; j < 4; j++) add(text, x.job(j, what));
        for (int what = 0; what <= 6; what++) add(text, x.world(0, 30, what));
        for (int what = 0; what <= 6; what++) add(text, x.world(1, 12, what));
        for (int what = 0; what < 6; what++) add(text, x.run(0, 4, what));
        for (int k = 1; k < 4; k++) for (int what = 0; what < 9; what++) add(text, x.load(0, 4, k, what));
        for (int i = 3; i < 30; i += 9) add(text, x.tonne(0, 4, i));
        for (int j = 0; j < 2; j++) for (int what = 0; what < 9; what++) add(text, x.laid(0, 4, j, what));
        add(text, x.mean(0, 4, 0, 5));
        add(text, x.mean(0, 4, 1, 30));
        add(text, x.pay(0, 4, 1, 9));
        add(text, x.core(1, 9, 0));
        add(text, x.tells(7, 90, 1, 3));
        add(text, x.run(1, 2, 1));
        add(text, x.pace());
        add(text, x.fewest(1));
        return text.toString();
    }

    private static void add(StringBuilder text, long answer) {
        text.append(answer).append(' ');
    }

    /** A call with its arguments in a row; a boolean counts 1 or 0. */
    interface Call {
        long of(int[] v);
    }

    static long count(boolean answer) {
        return answer ? 1 : 0;
    }

    /** Each argument by itself just outside its range, and far outside: the call is refused. */
    static void refuses(String name, long refusal, int[] low, int[] high, int[] good, Call call) {
        for (int i = 0; i < good.length; i++) {
            for (int bad : new int[] {low[i] - 1, high[i] + 1, Integer.MIN_VALUE, Integer.MAX_VALUE}) {
                int[] v = good.clone();
                v[i] = bad;
                Check.same(name + java.util.Arrays.toString(v), call.of(v), refusal);
            }
        }
    }
}
