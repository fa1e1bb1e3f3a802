import java.util.ArrayList;
import java.util.List;
import java.util.function.Consumer;
import java.util.function.Supplier;
import java.util.function.ToLongFunction;

/**
 * Calls whose answers hang on what an earlier call has kept (a run, a pace, rolled layers, drawn cores, best levels):
 * asked again after each setting, after each refused one, and after each other question.
 */
final class AskedAgain {
    /** A question, with the promise and the sentence that it is for. */
    private record Question(String heading, String words, String call, ToLongFunction<BlackRoad> of) {
    }

    /** A setting by a promise, and the same call with arguments that are refused, or a text with a FAULT. */
    private record Setting(String heading, String words, String call, Consumer<BlackRoad> set,
            Consumer<BlackRoad> refused) {
    }

    private static final List<Question> QUESTIONS = new ArrayList<>();
    private static final List<Setting> SETTINGS = new ArrayList<>();

    private AskedAgain() {
    }

    static void run() {
        questions();
        settings();
        afterSettings(Scene::busy, "busy");
        afterSettings(AskedAgain::brisk, "brisk");
        afterQuestions(Scene::busy, "busy");
        afterQuestions(AskedAgain::brisk, "brisk");
        setBack();
        untilTheLastCall();
    }

    /** One of which fewest() answers with a number of trucks, and pace() with another one than the busy one's. */
    private static BlackRoad brisk() {
        BlackRoad x = Scene.small(3, 40, 4);
        x.layer(25, 0);
        x.heat(160, 4, 110, 200, 158);
        x.roller(0, 20);
        x.roller(1, 20);
        x.sort(2, 90, 60, 1);
        Check.hours(x, "haul 0 1 from 0;world 0;world 1;haul 0 3 from 0;");
        Check.rate(x, "t*d-j*7-m");
        return x;
    }

    private static void question(String heading, String words, String call, ToLongFunction<BlackRoad> of) {
        QUESTIONS.add(new Question(heading, words, call, of));
    }

    private static void questions() {
        question("Promise 4", "COST of THE BEST LEVELS.", "levels()", x -> x.levels());
        question("Promise 5", "The NEW LEVEL of a SECTION.", "level(2)", x -> x.level(2));
        question("Promise 7", "Of a JOB: 0 SECTION, 1 LAYER, 2 DEPTH, 3 TONNES.", "job(3, 3)", x -> x.job(3, 3));
        question("Promise 19", "What a WORLD is in a MINUTE:", "world(1, 12, 1)", x -> x.world(1, 12, 1));
        String run = "A RUN: 0 STOPS, 1 END, 2 LOADS, 3 the MINUTE of the first tonne, 4 LOADS REFUSED, 5 tonnes "
                + "REFUSED.";
        question("Promise 20", run, "run(0, 4, 1)", x -> x.run(0, 4, 1));
        question("Promise 20", run, "run(0, 7, 0)", x -> x.run(0, 7, 0));
        question("Promise 20", run, "run(1, 4, 2)", x -> x.run(1, 4, 2));
        question("Promise 21", "THE PACE: by which the RUN is DONE in all WORLDS,", "pace()", x -> x.pace());
        question("Promise 22", "The fewest TRUCKS (1 .. 16) by which RUNS at a PACE are DONE in all WORLDS without "
                + "STOPS.", "fewest(4)", x -> x.fewest(4));
        question("Promise 22", "The fewest TRUCKS (1 .. 16) by which RUNS at a PACE are DONE in all WORLDS without "
                + "STOPS.", "fewest(2)", x -> x.fewest(2));
        question("Promise 23", "Of a LOAD of a RUN:", "load(0, 4, 5, 6)", x -> x.load(0, 4, 5, 6));
        question("Promise 23", "Of a LOAD of a RUN:", "load(1, 4, 3, 3)", x -> x.load(1, 4, 3, 3));
        question("Promise 24", "The LOAD of which a tonne (from 0, as they were laid) is.", "tonne(0, 4, 30)",
                x -> x.tonne(0, 4, 30));
        question("Promise 25", "Of a JOB by a RUN:", "laid(0, 4, 1, 7)", x -> x.laid(0, 4, 1, 7));
        question("Promise 25", "Of a JOB by a RUN:", "laid(1, 4, 1, 8)", x -> x.laid(1, 4, 1, 8));
        question("Promise 25", "Of a JOB by a RUN:", "laid(0, 4, 2, 3)", x -> x.laid(0, 4, 2, 3));
        question("Promise 26", "MEAN of a JOB so many MINUTES (0 .. 600) behind LAID by a RUN.", "mean(0, 4, 2, 40)",
                x -> x.mean(0, 4, 2, 40));
        question("Promise 27", "What THE RATE tells with these", "tells(9, 80, 1, 2)", x -> x.tells(9, 80, 1, 2));
        question("Promise 28", "PAY.", "pay(0, 4, 2, 9)", x -> x.pay(0, 4, 2, 9));
        question("Promise 28", "PAY.", "pay(1, 4, 3, 8)", x -> x.pay(1, 4, 3, 8));
        question("Promise 29", "The i-th JOB that is DRAWN so.", "core(3, 9, 2)", x -> x.core(3, 9, 2));
        question("Promise 30", "8 JOBS, 9 TONNES of all JOBS (0 without LEVELS)", "about(9)", x -> x.about(9));
    }

    private static void setting(String heading, String words, String call, Consumer<BlackRoad> set,
            Consumer<BlackRoad> refused) {
        SETTINGS.add(new Setting(heading, words, call, set, refused));
    }

    private static void settings() {
        setting("Promise 2", "A SECTION: its number.", "section", x -> x.section(25, 30), x -> x.section(25, 61));
        setting("Promise 3", "WIDE, SMOOTH, DEEP, MILL, LAY: true.", "even", x -> x.even(90, 1, 10, 2, 1),
                x -> x.even(90, 1, 10, 2, 10));
        setting("Promise 6", "A LAYER: its number.", "layer", x -> x.layer(35, 0), x -> x.layer(35, 3));
        setting("Promise 6", "A LAYER: its number.", "layer of a KIND without a PLANT", x -> x.layer(35, 2),
                x -> x.layer(201, 2));
        setting("Promise 8", "A PLANT: its number.", "plant", x -> x.plant(0, 9, 90, 1), x -> x.plant(0, 9, 90, 21));
        setting("Promise 9", "TRUCKS, CARRY: true.", "trucks", x -> x.trucks(2, 6), x -> x.trucks(17, 6));
        setting("Promise 9", "TRUCKS, CARRY: true.", "carry", x -> x.trucks(4, 9), x -> x.trucks(4, 31));
        setting("Promise 10", "HOT, KEEP, REFUSE, FIRM, JOIN: true.", "hot", x -> x.heat(190, 3, 110, 130, 160),
                x -> x.heat(201, 3, 110, 130, 160));
        setting("Promise 10", "HOT, KEEP, REFUSE, FIRM, JOIN: true.", "refuse", x -> x.heat(160, 1, 157, 200, 150),
                x -> x.heat(160, 1, 201, 200, 150));
        setting("Promise 10", "HOT, KEEP, REFUSE, FIRM, JOIN: true.", "firm", x -> x.heat(160, 1, 120, 100, 150),
                x -> x.heat(160, 1, 120, 201, 150));
        setting("Promise 10", "HOT, KEEP, REFUSE, FIRM, JOIN: true.", "join", x -> x.heat(160, 4, 120, 150, 10),
                x -> x.heat(160, 4, 120, 150, 201));
        setting("Promise 11", "AIR, GROUND, W, G: true.", "weather", x -> x.weather(-5, 0, 90, 80),
                x -> x.weather(-21, 0, 90, 80));
        setting("Promise 12", "A ROLLER: its number.", "roller", x -> x.roller(2, 35), x -> x.roller(3, 35));
        setting("Promise 13", "Of a SORT TOP, LOW, PASSES: true.", "sort", x -> x.sort(2, 95, 30, 5),
                x -> x.sort(2, 95, 96, 5));
        setting("Promise 13", "Of a SORT TOP, LOW, PASSES: true.", "passes", x -> x.sort(1, 120, 80, 1),
                x -> x.sort(1, 120, 80, 10));
        setting("Promise 16", "The tape (empty then) becomes HOURS: how many CLAUSES.", "hours", x -> Check.hours(x,
                "haul 0 9 from 0;world 0;rain 15 to 19;world 1;haul 0 2 from 9;shut 0 3 to 9;"),
                x -> Check.hours(x, "haul 0 50 from 0;world 0;rain 15 to 14;"));
        setting("Promise 16", "The tape (empty then) becomes HOURS: how many CLAUSES.", "no hours",
                x -> Check.hours(x, ""), x -> Check.hours(x, "rain"));
        setting("Promise 17", "The tape (empty then) becomes THE RATE: true.", "rate", x -> Check.rate(x,
                "d+1000*m-t*j"), x -> Check.rate(x, "d+1000*m-t*jj"));
        setting("Promise 14", "Twenty bytes come behind the tape,", "tape", x -> x.feed(1, 2, 3, 4, 5), x -> x.end(-1));
    }

    private static void afterSettings(Supplier<BlackRoad> made, String name) {
        boolean[] hung = new boolean[QUESTIONS.size()];
        boolean[] changed = new boolean[SETTINGS.size()];
        for (int q = 0; q < QUESTIONS.size(); q++) {
            Question question = QUESTIONS.get(q);
            Check.sentence(question.heading, question.words);
            for (int s = 0; s < SETTINGS.size(); s++) {
                Setting setting = SETTINGS.get(s);
                BlackRoad x = made.get();
                long before = question.of.applyAsLong(x);
                setting.refused.accept(x);
                String call = question.call + " of a " + name + " one";
                Check.same(call + " after a refused " + setting.call, question.of.applyAsLong(x), before);
                setting.set.accept(x);
                long behind = question.of.applyAsLong(x);
                BlackRoad fresh = made.get();
                setting.set.accept(fresh);
                Check.same(call + " after " + setting.call, behind, question.of.applyAsLong(fresh));
                setting.refused.accept(x);
                Check.same(call + " after " + setting.call + " and a refused one", question.of.applyAsLong(x), behind);
                hung[q] |= behind != before;
                changed[s] |= behind != before;
            }
        }
        boolean busy = name.equals("busy");
        for (int q = 0; q < QUESTIONS.size(); q++) {
            Question question = QUESTIONS.get(q);
            Check.sentence(question.heading, question.words);
            Check.yes(question.call + " hangs on a setting", hung[q] || busy && question.call.startsWith("fewest"));
        }
        for (int s = 0; s < SETTINGS.size(); s++) {
            Setting setting = SETTINGS.get(s);
            Check.sentence(setting.heading, setting.words);
            Check.same(setting.call + " changes an answer", changed[s] ? 1 : 0, setting.call.equals("tape") ? 0 : 1);
        }
    }

    private static void afterQuestions(Supplier<BlackRoad> made, String name) {
        for (Question question : QUESTIONS) {
            Check.sentence(question.heading, question.words);
            long due = question.of.applyAsLong(made.get());
            BlackRoad x = made.get();
            for (Question other : QUESTIONS) {
                long told = other.of.applyAsLong(x);
                Check.same(question.call + " of a " + name + " one after " + other.call, question.of.applyAsLong(x), due);
                Check.same(other.call + " of a " + name + " one after " + question.call, other.of.applyAsLong(x), told);
            }
        }
    }

    /** What is set to what it was answers as it did, whatever was asked between. */
    private static void setBack() {
        back("even", x -> x.even(70, 2, 10, 2, 3));
        back("trucks", x -> x.trucks(3, 7));
        back("hot", x -> x.heat(160, 1, 150, 120, 152));
        back("weather", x -> x.weather(15, 20, 60, 40));
        back("sort", x -> x.sort(2, 90, 60, 2));
    }

    private static void back(String call, Consumer<BlackRoad> former) {
        BlackRoad x = Scene.busy();
        for (Setting setting : SETTINGS) {
            if (!setting.call.equals(call)) continue;
            Check.sentence(setting.heading, setting.words);
            String before = Scene.kept(x);
            setting.set.accept(x);
            Check.no(call + " is seen", Scene.kept(x).equals(before));
            former.accept(x);
            Check.sameText(call + " is set back", Scene.kept(x), before);
        }
    }

    /** The busy one was made and set by 24 calls; the 512th is answered as the first one. */
    private static void untilTheLastCall() {
        Check.sentence("What it is", "An object is used for at most 512 calls after it has been made; what later calls "
                + "answer is free.");
        BlackRoad x = Scene.busy();
        for (int call = 25; call <= 512; call++) {
            Question question = QUESTIONS.get(call % QUESTIONS.size());
            long due = question.of.applyAsLong(Scene.busy());
            Check.same(question.call + " as call " + call, question.of.applyAsLong(x), due);
        }
    }
}
