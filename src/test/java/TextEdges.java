/** The edges of the tape and of both texts: promises 14 to 19, and what parts II and V tell of HOURS and THE RATE. */
final class TextEdges {
    private static final String FORTY = "open0to0; ".repeat(40);

    private TextEdges() {
    }

    static void run() {
        tapeFull();
        tapeBytes();
        tapeCut();
        hoursLength();
        hoursEmpty();
        hoursKept();
        hoursBytes();
        clauseTokens();
        clauseNumbers();
        worldNumbers();
        fortyClauses();
        firstFault();
        rateLength();
        rateEmpty();
        rateKept();
        rateBytes();
        rateTokens();
        rateNumbers();
        rateOpen();
        faultOthers();
    }

    private static void tapeFull() {
        Check.sentence("Promise 14", "NONE, and none come, if there would be more than 400.");
        BlackRoad x = new BlackRoad();
        Check.put(x, FORTY);
        Check.same("a full tape", x.about(10), 400);
        Check.same("twenty more", x.feed(-1, -1, -1, -1, -1), -1);
        Check.same("as many as before", x.about(10), 400);
        Check.same("and the same ones", x.hours(), 40);
        Check.put(x, FORTY.substring(0, 381));
        Check.same("401", x.feed(-1, -1, -1, -1, -1), -1);
        Check.same("381 stay", x.about(10), 381);
        Check.same("the 381st is an o", x.hours(), -1);
        Check.same("its place", x.fault(1), 380);
        Check.put(x, FORTY.substring(0, 380));
        Check.same("400", x.feed(0x6F70656E, 0x30746F30, 0x3B206F70, 0x656E3174, 0x6F323B20), 400);
        Check.same("forty CLAUSES", x.hours(), 40);
        Check.same("the last four bytes too", x.world(0, 2, 0), 1);
    }

    private static void tapeBytes() {
        Check.sentence("Promise 14", "Twenty bytes come behind the tape, the highest of a first: how many it has.");
        // "haul 2 119 from 4 ; ", each number with its own four bytes
        BlackRoad x = new BlackRoad();
        Check.same("twenty", x.feed(0x6861756C, 0x20322031, 0x31392066, 0x726F6D20, 0x34203B20), 20);
        Check.same("forty", x.feed(0x7261696E, 0x20302074, 0x6F20323B, 0x20202020, 0x20202020), 40);
        Check.same("read in their order", x.hours(), 2);
        Check.same("HAUL", x.world(0, 4, 3), 119);
        Check.same("RAIN", x.world(0, 2, 0), 0);
        // bytes of 128 and more, of numbers below 0
        for (int place = 0; place < 20; place++) {
            int[] five = {0x20202020, 0x20202020, 0x20202020, 0x20202020, 0x20202020};
            five[place / 4] |= 0xFF << 24 - 8 * (place % 4);
            Check.same("twenty", x.feed(five[0], five[1], five[2], five[3], five[4]), 20);
            Check.same("byte 255 is none", x.hours(), -1);
            Check.same("byte " + place, x.fault(1), place);
        }
    }

    private static void tapeCut() {
        Check.sentence("Promise 15", "The tape has its first n bytes alone: n. NONE, and nothing is done, if it has "
                + "not so many, or n is below 0.");
        BlackRoad x = new BlackRoad();
        Check.same("none of none", x.end(0), 0);
        Check.same("one of none", x.end(1), -1);
        Check.put(x, "t+d*9999");
        String before = Scene.seen(x);
        for (int bad : new int[] {-1, 9, 20, 400, 401, Integer.MIN_VALUE, Integer.MAX_VALUE}) {
            Check.same("end " + bad, x.end(bad), -1);
        }
        Check.sameText("others do nothing", Scene.seen(x), before);
        Check.same("all", x.end(8), 8);
        Check.same("the first three", x.end(3), 3);
        Check.same("four are gone", x.end(4), -1);
        // what comes stands behind the three
        Check.same("behind them", x.feed(0x2A322020, 0x20202020, 0x20202020, 0x20202020, 0x20202020), 23);
        Check.yes("t+d*2", x.rate());
        Check.same("t+d*2", x.tells(7, 90, 1, 3), 187);
        x.feed(0, 0, 0, 0, 0);
        Check.same("none", x.end(0), 0);
        Check.same("it is empty", x.about(10), 0);
    }

    private static void hoursLength() {
        Check.sentence("Terms II", "HOURS: a text of up to 400 bytes, of MINUTES 0 .. 4319.");
        BlackRoad x = new BlackRoad();
        Check.same("400 bytes", Check.hours(x, FORTY), 40);
        Check.same("the last one a ;", Check.hours(x, " open1to1;".repeat(40)), 40);
        Check.same("it is read", x.world(0, 1, 0), 1);
        Check.badHours(x, FORTY.substring(0, 390) + " open0to0 ", 1, 400);
        Check.badHours(x, FORTY.substring(0, 390) + "         ?", 1, 399);
        Check.same("MINUTE 0", Check.hours(x, "rain 0 to 0;"), 1);
        Check.same("MINUTE 0", x.world(0, 0, 0), 0);
        Check.same("MINUTE 4319", Check.hours(x, "rain 4319 to 4319;"), 1);
        Check.same("MINUTE 4319", x.world(0, 4319, 0), 0);
        Check.badHours(x, "rain 4319 to 4320;", 2, 13);
        Check.badHours(x, "rain 4320 to 4320;", 2, 5);
    }

    private static void hoursEmpty() {
        Check.sentence("Promise 16", "The tape (empty then) becomes HOURS: how many CLAUSES.");
        BlackRoad x = new BlackRoad();
        Check.same("no bytes", x.hours(), 0);
        Check.same("without a FAULT", x.fault(0), 0);
        Check.same("nor its place", x.fault(1), -1);
        Check.same("blanks alone", Check.hours(x, " \n ".repeat(100)), 0);
        Check.same("five", Check.hours(x, "world 0;haul 1 2 from 3;shut 1 2 to 3;open 4 to 5;rain 6 to 7;"), 5);
        Check.same("the tape is empty", x.about(10), 0);
        Check.same("CLAUSES", x.about(6), 5);
        // the same question again: the tape is empty, so HOURS are
        Check.same("again", x.hours(), 0);
        Check.same("no CLAUSES", x.about(6), 0);
        Check.same("OPEN in all", x.world(0, 6, 0), 1);
        Check.same("20 without", x.world(0, 3, 2), 20);
        Check.same("not SHUT", x.world(0, 2, 5), 0);
        Check.same("three WORLDS", Check.hours(x, "world 0;world 1;world 2;"), 3);
        Check.same("three WORLDS", x.about(7), 3);
        Check.same("again", x.hours(), 0);
        Check.same("one WORLD", x.about(7), 1);
        Check.same("the others are gone", x.world(1, 0, 0), -1);
    }

    private static void hoursKept() {
        Check.sentence("Promise 16", "NONE: it has a FAULT, the former ones stay.");
        BlackRoad x = Scene.busy();
        String before = Scene.kept(x);
        Check.badHours(x, "rain 0 to 4319; haul 0 99 from 0; open", 1, 38);
        Check.badHours(x, "world 0;world 1;world 2; shut 0 0 to 4320;", 2, 37);
        Check.badHours(x, "rain0to9;".repeat(40) + "rain 0 to 9;", 3, 360);
        Check.sameText("the former ones stay", Scene.kept(x), before);
        // the tape is empty, so that the next text is one of no bytes
        Check.same("no bytes", x.hours(), 0);
        Check.same("none of them stays", x.about(6), 0);
        Check.same("and one WORLD", x.about(7), 1);
    }

    private static boolean isLetter(int b) {
        return b >= 'a' && b <= 'z' || b >= 'A' && b <= 'Z';
    }

    private static boolean isBlank(int b) {
        return b == 32 || b == 10;
    }

    private static void hoursBytes() {
        Check.sentence("Terms II", "TOKENS, blanks (32, 10) aside: letters a .. z, A .. Z one behind the other (one "
                + "TOKEN), digits likewise (NUMBERS), ; {CLAUSE}.");
        BlackRoad x = null;
        for (int b = 0; b < 256; b++) {
            if (b % 10 == 0) x = new BlackRoad();
            char sign = (char) b;
            if (isBlank(b)) {
                Check.same("blank " + b, Check.hours(x, sign + "rain" + sign + "0" + sign + "to" + sign + "1;" + sign), 1);
                Check.badHours(x, "ra" + sign + "in 0 to 1;", 1, 0);
                Check.badHours(x, "rain 0 1" + sign + "2", 1, 7);
                continue;
            }
            Check.badHours(x, "" + sign, 1, 0);
            Check.badHours(x, "rain 0 to 1;" + sign, 1, 12);
            if (isLetter(b)) {
                Check.badHours(x, "rain" + sign + " 0 to 1;", 1, 0);
                Check.badHours(x, "rain 0 to" + sign + " 1;", 1, 7);
            } else if (b >= '0' && b <= '9') {
                Check.same("digit " + b, Check.hours(x, "haul 2 1" + sign + " from 0" + sign + ";"), 1);
                Check.same("HAUL by digit " + b, x.world(0, b - '0', 3), 10 + b - '0');
                Check.badHours(x, "rain 5" + sign + "00 to 1;", 2, 5);
            } else {
                Check.badHours(x, "rain" + sign + " 0 to 1;", 1, 4);
                Check.badHours(x, "rain 0" + sign + " to 1;", 1, 6);
            }
        }
    }

    private static final String CLAUSES = "CLAUSE: world NUMBER ; (the next one: 0, then 1, then 2, three at most: "
            + "what is behind it holds in it alone; what is ahead of the first one in all), haul NUMBER NUMBER from "
            + "NUMBER ; "
            + "(a PLANT 0 .. 2; minutes each way, 1 .. 120, for trucks that leave from that MINUTE on), "
            + "shut NUMBER NUMBER to NUMBER ; (a PLANT), open NUMBER to NUMBER ; rain NUMBER to NUMBER ; "
            + "(MINUTES, both too, the second not below the first).";

    private static final String[] FORMS = {"world 0 ;", "haul 0 1 from 0 ;", "shut 0 0 to 0 ;", "open 0 to 0 ;", "rain "
            + "0 to 0 ;"};

    /** Each CLAUSE cut off behind each of its TOKENS, and with another TOKEN in each place. */
    private static void clauseTokens() {
        Check.sentence("Terms II", "FAULTS, the first as TOKENS are come to, at the TOKEN's first byte (of the end at "
                + "the length), of one the least: 1 it can't stand there, or is none.");
        for (String form : FORMS) {
            BlackRoad x = new BlackRoad();
            Check.same(form, Check.hours(x, form), 1);
            String[] tokens = form.split(" ");
            int place = 0;
            for (int k = 0; k < tokens.length; k++) {
                if (k > 0) Check.badHours(x, form.substring(0, place), 1, place);
                for (String other : new String[] {"x", "12345", ";", "rain", "from", "to", "(", "?"}) {
                    boolean fits = Character.isDigit(tokens[k].charAt(0)) ? other.equals("12345")
                            : other.equals(tokens[k]) || k == 0 && other.equals("rain");
                    if (!fits) Check.badHours(x, form.substring(0, place) + other + " 0 to 0 ;", 1, place);
                }
                place += tokens[k].length() + 1;
            }
            Check.badHours(x, form + " " + form.substring(0, form.length() - 1), tokens[0].equals("world") ? 2 : 1,
                    tokens[0].equals("world") ? 16 : 2 * form.length());
        }
    }

    /** The place of a NUMBER, with the least and the greatest that are told there. */
    private static final String[][] NUMBERS = {
        {"haul # 5 from 9;", "0", "2"}, {"haul 0 # from 9;", "1", "120"}, {"haul 0 5 from #;", "0", "4319"},
        {"shut # 0 to 9;", "0", "2"}, {"shut 1 # to 4319;", "0", "4319"}, {"shut 1 9 to #;", "9", "4319"},
        {"open # to 4319;", "0", "4319"}, {"open 9 to #;", "9", "4319"},
        {"rain # to 4319;", "0", "4319"}, {"rain 9 to #;", "9", "4319"},
        {"world #;", "0", "0"}, {"world 0;world #;", "1", "1"}, {"world 0;world 1;world #;", "2", "2"}};

    private static void clauseNumbers() {
        Check.sentence("Terms II", CLAUSES);
        for (String[] row : NUMBERS) {
            BlackRoad x = new BlackRoad();
            int clauses = row[0].split(";").length;
            for (String n : new String[] {row[1], row[2], "00000000000" + row[1], "00000000000" + row[2]}) {
                Check.same(row[0] + " with " + n, Check.hours(x, row[0].replace("#", n)), clauses);
            }
        }
        hold();
        leave();
        Check.sentence("Terms II", "2 a NUMBER that isn't one of those told.");
        String[] far = {"4294967296", "4294967297", "18446744073709551616", "18446744073709551617", "9".repeat(99)};
        for (String[] row : NUMBERS) {
            BlackRoad x = new BlackRoad();
            int place = row[0].indexOf('#');
            int low = Integer.parseInt(row[1]);
            if (low > 0) Check.badHours(x, row[0].replace("#", "" + (low - 1)), 2, place);
            Check.badHours(x, row[0].replace("#", "" + (Integer.parseInt(row[2]) + 1)), 2, place);
            for (String n : far) Check.badHours(x, row[0].replace("#", n), 2, place);
        }
        // a first one that is too great for the second is one told, the second isn't
        BlackRoad y = new BlackRoad();
        Check.badHours(y, "rain 4319 to 4318;", 2, 13);
        Check.badHours(y, "open 1 to 0;", 2, 10);
        Check.badHours(y, "shut 2 1 to 0;", 2, 12);
    }

    /** What is ahead of the first world holds in all, what is behind one in it alone. */
    private static void hold() {
        BlackRoad x = new BlackRoad();
        Check.same("twelve", Check.hours(x, "shut 0 7 to 7;rain 7 to 7;haul 0 7 from 7;world 0;shut 0 8 to 8;rain 8 to "
                + "8;haul 0 8 from 8;"
                + "world 1;shut 0 9 to 9;rain 9 to 9;haul 0 9 from 9;world 2;"), 12);
        for (int world = 0; world < 3; world++) {
            for (int minute = 6; minute <= 10; minute++) {
                boolean told = minute == 7 || minute == 8 + world && world < 2;
                Check.same("SHUT in " + world + " at " + minute, x.world(world, minute, 4), told ? 1 : 0);
                Check.same("OPEN in " + world + " at " + minute, x.world(world, minute, 0), told ? 0 : 1);
                int haul = minute < 7 ? 20 : world < 2 && minute >= 8 + world ? 8 + world : 7;
                Check.same("HAUL in " + world + " at " + minute, x.world(world, minute, 1), haul);
            }
        }
    }

    /** The HAUL is the one of the MINUTE in which a truck leaves. */
    private static void leave() {
        BlackRoad x = Scene.small(1, 10, 1);
        Check.hours(x, "haul 0 1 from 0;haul 0 5 from 2;");
        Check.same("it leaves the PLANT at 2", x.load(0, 20, 0, 6), 7);
        Check.hours(x, "haul 0 1 from 0;haul 0 5 from 3;");
        Check.same("ahead of from", x.load(0, 20, 0, 6), 3);
        Check.hours(x, "haul 0 120 from 0;haul 0 1 from 1;");
        Check.same("it left for the PLANT at 0", x.load(0, 20, 0, 5), 120);
        Check.same("1 back", x.load(0, 20, 0, 6), 122);
    }

    private static void worldNumbers() {
        Check.sentence("Terms II", "WORLDS: as many as were told, or one (0) if none was.");
        BlackRoad x = new BlackRoad();
        String[] texts = {"", "rain 0 to 1;", "world 0;", "world 0;world 1;", "world 0;world 1;world 2;"};
        int[] due = {1, 1, 1, 2, 3};
        for (int i = 0; i < texts.length; i++) {
            Check.yes(texts[i], Check.hours(x, texts[i]) >= 0);
            Check.same("WORLDS of " + texts[i], x.about(7), due[i]);
            Check.yes("the last", x.world(due[i] - 1, 5, 0) == 1);
            Check.same("one more", x.world(due[i], 5, 0), -1);
        }
        Check.badHours(x, texts[4] + "world 3;", 2, 30);
        Check.badHours(x, texts[4] + "world 0;", 2, 30);
        Check.same("three stay", x.about(7), 3);
    }

    private static void fortyClauses() {
        Check.sentence("Terms II", "3 the 41st CLAUSE (at its word).");
        BlackRoad x = new BlackRoad();
        String forty = "rain0to0;".repeat(40);
        Check.same("forty", Check.hours(x, forty), 40);
        for (String form : FORMS) {
            Check.same("a fortieth " + form, Check.hours(x, "rain0to0;".repeat(39) + form), 40);
            Check.badHours(x, forty + "\n" + form, 3, 361);
        }
        String worlds = "world0;world1;world2;" + "rain0to0;".repeat(37);
        Check.same("world is a CLAUSE", Check.hours(x, worlds), 40);
        Check.badHours(x, worlds + "world3;", 3, worlds.length());
        Check.badHours(x, worlds + "rain", 3, worlds.length());
        Check.badHours(x, worlds + "rain?", 3, worlds.length());
        // of one TOKEN the least
        for (String other : new String[] {"x", "12345", ";", "to", "?", "Rain"}) Check.badHours(x, forty + other, 1, 360);
        Check.same("forty CLAUSES stay", x.about(6), 40);
    }

    private static void firstFault() {
        Check.sentence("Terms II", "FAULTS, the first as TOKENS are come to, at the TOKEN's first byte (of the end at "
                + "the length), of one the least:");
        BlackRoad x = new BlackRoad();
        Check.badHours(x, "rain 4320 to ?", 2, 5);
        Check.badHours(x, "rain 0 ? 4320;", 1, 7);
        Check.badHours(x, "rain 9 to 8; ?", 2, 10);
        Check.badHours(x, "rain 9 to 8 ?", 2, 10);
        Check.badHours(x, "rain  99999x", 2, 6);
        Check.badHours(x, "  rain  0  99999", 1, 11);
        Check.badHours(x, " \n?", 1, 2);
        Check.badHours(x, "rain 0 to 1  \n", 1, 14);
        Check.badHours(x, "rain0to0;".repeat(39) + "rain9to8;rain", 2, 39 * 9 + 7);
        // as a NUMBER can't stand there it isn't asked how much it is
        Check.badHours(x, "99999", 1, 0);
        Check.badHours(x, "world 0 99999;", 1, 8);
    }

    private static void rateLength() {
        Check.sentence("Promise 17", "or (the tape stays) more than 100 bytes.");
        BlackRoad x = Scene.busy();
        Check.badHours(x, "rain 0 to ?", 1, 10);
        Check.put(x, "t*2" + " ".repeat(98));
        String before = Scene.seen(x);
        Check.no("101 bytes", x.rate());
        Check.sameText("101 bytes change nothing", Scene.seen(x), before);
        Check.no("again", x.rate());
        Check.same("the 101 stay", x.about(10), 101);
        Check.same("it wasn't read", x.fault(1), 10);
        Check.same("it is as long as HOURS may be", x.hours(), -1);
        Check.same("t is none there", x.fault(1), 0);
        Check.put(x, "t*3" + " ".repeat(97));
        Check.yes("100 bytes", x.rate());
        Check.same("t*3", x.tells(7, 0, 0, 0), 21);
        Check.put(x, " ".repeat(99) + "d");
        Check.yes("the hundredth", x.rate());
        Check.same("d", x.tells(7, 8, 0, 0), 8);
        Check.put(x, "(t".repeat(200));
        Check.no("400 bytes", x.rate());
        Check.same("all stay", x.about(10), 400);
        Check.sentence("Terms V", "THE RATE: a text of up to 100 bytes (at first t).");
        Check.same("at first", new BlackRoad().tells(7, 8, 9, 10), 7);
        Check.yes("100 bytes", Check.rate(x, "m" + "+m".repeat(49) + " "));
        Check.same("m fifty times", x.tells(0, 0, 0, 2), 100);
        Check.badRate(x, "m" + "+m".repeat(49) + "+", 1, 100);
        Check.badRate(x, "m" + "+m".repeat(49) + "?", 1, 99);
    }

    private static void rateEmpty() {
        Check.sentence("Promise 17", "The tape (empty then) becomes THE RATE: true. False: it has a FAULT, the former "
                + "one stays;");
        BlackRoad x = new BlackRoad();
        Check.no("no bytes", x.rate());
        Check.same("1", x.fault(0), 1);
        Check.same("at its end", x.fault(1), 0);
        Check.same("the first one stays", x.tells(7, 90, 1, 3), 7);
        Check.badRate(x, " \n ", 1, 3);
        Check.yes("d", Check.rate(x, "d"));
        Check.same("the tape is empty", x.about(10), 0);
        // the same question again: a text of no bytes
        Check.no("again", x.rate());
        Check.same("again", x.fault(0), 1);
        Check.same("d stays", x.tells(7, 90, 1, 3), 90);
    }

    private static void rateKept() {
        Check.sentence("Promise 17", "The tape (empty then) becomes THE RATE: true. False: it has a FAULT, the former "
                + "one stays;");
        BlackRoad x = Scene.busy();
        String before = Scene.kept(x);
        Check.badRate(x, "m*m+m-", 1, 6);
        Check.badRate(x, "m+99999", 2, 2);
        Check.badRate(x, "m+(((((((((m)))))))))", 3, 10);
        Check.sameText("the former one stays", Scene.kept(x), before);
        Check.no("the tape is empty", x.rate());
        Check.same("so its end is at 0", x.fault(1), 0);
        Check.sameText("the former one stays", Scene.kept(x), before);
    }

    private static void rateBytes() {
        Check.sentence("Terms V", "TOKENS, blanks (32, 10) aside: letters one behind the other (one TOKEN; t d j m are "
                + "told, min, max), "
                + "NUMBERS (0 .. 9999), + - * / ( ) and the comma.");
        BlackRoad x = null;
        for (int b = 0; b < 256; b++) {
            if (b % 10 == 0) x = new BlackRoad();
            char sign = (char) b;
            if (isBlank(b)) {
                Check.tells(x, sign + "min" + sign + "(" + sign + "t" + sign + ",9" + sign + ")", 7);
                Check.badRate(x, "mi" + sign + "n(t,9)", 1, 0);
                Check.badRate(x, "1" + sign + "2", 1, 2);
            } else if (isLetter(b)) {
                int told = "tdjm".indexOf(sign);
                if (told < 0) Check.badRate(x, "" + sign, 1, 0);
                else Check.tells(x, "" + sign, new int[] {7, 90, 1, 3}[told]);
                Check.badRate(x, "t" + sign, 1, 0);
                Check.badRate(x, "1+min" + sign + "(t,d)", 1, 2);
            } else if (b >= '0' && b <= '9') {
                Check.tells(x, "1" + sign, 10 + b - '0');
                Check.badRate(x, "t" + sign, 1, 1);
            } else if (b == '+' || b == '-' || b == '*' || b == '/') {
                Check.tells(x, "d" + sign + "7", b == '+' ? 97 : b == '-' ? 83 : b == '*' ? 630 : 12);
                Check.badRate(x, "d" + sign, 1, 2);
                if (b != '-') Check.badRate(x, sign + "d", 1, 0);
            } else {
                Check.badRate(x, "d" + sign + "7", 1, 1);
                if (b != '(') Check.badRate(x, sign + "7", 1, 0);
            }
        }
    }

    /** A text cut off behind each of its TOKENS, and with another TOKEN in each place. */
    private static void rateTokens() {
        Check.sentence("Terms V", "SUM: PRODUCT {+ or - PRODUCT}. PRODUCT: ONE {* or / ONE}. ONE: NUMBER, letter, ( "
                + "SUM ), min ( SUM , SUM ), max likewise, - ONE.");
        String form = "min ( t , max ( d , - ( j + m ) ) ) * 2 / 3";
        BlackRoad x = new BlackRoad();
        Check.tells(x, form, 4);
        String[] tokens = form.split(" ");
        // what may stand in its place: a ONE, a ( alone, a sign behind a ONE, or that or the end
        String places = "o(oso(osooosossseoeo";
        int place = 0;
        for (int k = 0; k < tokens.length; k++) {
            char may = places.charAt(k);
            x = new BlackRoad();
            if (may != 'e') Check.badRate(x, form.substring(0, place), 1, place);
            String wrong = may == 'o' ? "* / + ) , x ?" : may == '(' ? "t 5 - ) x ?" : "t 5 min ( x ?";
            for (String other : wrong.split(" ")) Check.badRate(x, form.substring(0, place) + other, 1, place);
            place += tokens[k].length() + 1;
        }
        Check.badRate(x, form + " )", 1, form.length() + 1);
        Check.badRate(x, form + " ,", 1, form.length() + 1);
        Check.badRate(x, "min(t)", 1, 5);
        Check.badRate(x, "min(t,d,j)", 1, 7);
        Check.badRate(x, "(t,d)", 1, 2);
        Check.badRate(x, "min", 1, 3);
        Check.badRate(x, "t d", 1, 2);
        Check.badRate(x, "t(d)", 1, 1);
    }

    private static void rateNumbers() {
        Check.sentence("Terms V", "FAULTS as above: 1, 2,");
        BlackRoad x = new BlackRoad();
        Check.tells(x, "0", 0);
        Check.tells(x, "9999", 9999);
        Check.tells(x, "00000000000009999", 9999);
        Check.badRate(x, "10000", 2, 0);
        Check.badRate(x, "t + 000010000", 2, 4);
        for (String n : new String[] {"2147483648", "4294967296", "4294967303", "18446744073709551616", "9".repeat(98)}) {
            Check.badRate(x, "t-" + n, 2, 2);
        }
        // where it can't stand it has FAULT 1; what is come to first tells
        Check.badRate(x, "t 10000", 1, 2);
        Check.badRate(x, "10000?", 2, 0);
        Check.badRate(x, "?10000", 1, 0);
        Check.badRate(x, "(t)10000", 1, 3);
    }

    private static void rateOpen() {
        Check.sentence("Terms V", "and 3 the 9th of ( and - that are open around one another (at it).");
        BlackRoad x = new BlackRoad();
        Check.tells(x, "((((((((t))))))))", 7);
        Check.badRate(x, "(((((((((t)))))))))", 3, 8);
        Check.tells(x, "--------t", 7);
        Check.badRate(x, "---------t", 3, 8);
        Check.tells(x, "-(-(-(-(t))))", 7);
        Check.badRate(x, "-(-(-(-(-t))))", 3, 8);
        Check.badRate(x, "(-(-(-(-(t)))))", 3, 8);
        // the one of min and max is one of them, at the (, not at the word
        Check.tells(x, "min(0,min(0,min(0,min(0,max(0,max(0,max(0,max(0,t))))))))", 0);
        Check.badRate(x, "min(0,min(0,min(0,min(0,max(0,max(0,max(0,max(0,(t)))))))))", 3, 48);
        Check.badRate(x, "((((((((min(t,d)", 3, 11);
        // in the second SUM of min as many are open as in the first
        Check.badRate(x, "(((((((min(t,(d))", 3, 13);
        Check.tells(x, "(((((((min(t,d))))))))", 7);
        // closed ones count no more, and a - between two PRODUCTS is none of them
        Check.tells(x, "((((((((t))))))))+((((((((t))))))))", 14);
        Check.tells(x, "(((((((-t-(t))))))))", -14);
        Check.tells(x, "((((((((t-d-t))))))))", -90);
        Check.tells(x, "-------t*-------t", 49);
        Check.badRate(x, "((((((((t*-t", 3, 10);
        Check.badRate(x, "((((((((t--t", 3, 10);
        // of one the least
        Check.badRate(x, "((((((((t(", 1, 9);
        Check.badRate(x, "((((((((min-", 1, 11);
    }

    private static void faultOthers() {
        Check.sentence("Promise 18", "Of the latest text that was read: 0 its FAULT (0 without), 1 its place (NONE "
                + "without). NONE for others, and ahead of any.");
        BlackRoad x = new BlackRoad();
        Check.same("ahead of any", x.fault(0), -1);
        Check.same("ahead of any", x.fault(1), -1);
        Check.put(x, " ".repeat(101));
        Check.no("it isn't read", x.rate());
        Check.same("still ahead of any", x.fault(0), -1);
        Check.same("blanks", x.hours(), 0);
        Check.same("0 without", x.fault(0), 0);
        Check.same("NONE without", x.fault(1), -1);
        Check.badHours(x, "world 1;", 2, 6);
        Check.yes("a sound one behind it", Check.rate(x, "t"));
        Check.same("0 again", x.fault(0), 0);
        Check.same("NONE again", x.fault(1), -1);
        Check.badRate(x, "((((((((-t", 3, 8);
        Check.same("a sound one behind it", Check.hours(x, "world 0;"), 1);
        Check.same("0 again", x.fault(0), 0);
        Check.badRate(x, "(", 1, 1);
        for (int bad : new int[] {-1, 2, 3, Integer.MIN_VALUE, Integer.MAX_VALUE}) {
            Check.same("fault " + bad, x.fault(bad), -1);
        }
        Check.same("as before", x.fault(1), 1);
    }
}
