import java.util.NoSuchElementException;
import java.util.Random;

/** The same random calls on PremiumHours and on PlainDesk: every answer has to be the same. */
public final class RandomRunsTest {
    private static final int RUNS = 260;
    private static final int CALLS = 150;

    private final Check check = new Check();
    private Random random;
    private PremiumHours desk;
    private PlainDesk plain;
    private int baseDay;
    private int spread;

    public static void main(String[] args) {
        RandomRunsTest test = new RandomRunsTest();
        int runs = args.length > 0 ? Integer.parseInt(args[0]) : RUNS;
        int first = args.length > 1 ? Integer.parseInt(args[1]) : 0;
        for (int run = first; run < first + runs && !test.check.anyFailed(); run++) {
            test.run(run);
        }
        for (int run = first; run < first + runs / 13 && !test.check.anyFailed(); run++) {
            test.fullWeek(run);
        }
        for (int run = first; run < first + 40 * runs && !test.check.anyFailed(); run++) {
            test.readFaulty(run);
        }
        test.check.end();
    }

    private void start(int seed) {
        random = new Random(seed);
        desk = new PremiumHours();
        plain = new PlainDesk();
    }

    private void run(int seed) {
        start(seed);
        baseDay = random.nextInt(28);
        spread = 1 + random.nextInt(8);
        tell("run " + seed, rulesText());
        for (int call = 0; call < CALLS; call++) {
            String where = "run " + seed + " call " + call;
            int pick = random.nextInt(100);
            if (pick < 25) {
                punchOne(where);
            } else if (pick < 35) {
                workOneTurn(where);
            } else if (pick < 39) {
                takeAway(where);
            } else if (pick < 41) {
                tell(where, random.nextBoolean() ? rulesText() : spoilt(rulesText()));
            } else {
                ask(where);
            }
        }
        askAllWeeks("run " + seed + " at last");
    }

    /** Nearly all QUARTERS of a week, so that week PREMIUMS of large numbers come into play. */
    private void fullWeek(int seed) {
        start(1_000_000 + seed);
        tell("week " + seed, random.nextBoolean() ? "longest 24;" + premiumsText() : premiumsText());
        int monday = 7 * random.nextInt(4);
        for (int i = random.nextInt(15); i >= 0; i--) {
            int day = monday + random.nextInt(7);
            int comes = random.nextInt(400);
            int goes = comes + 300 + random.nextInt(700);
            String where = "week " + seed + " turn " + i;
            check.same(where, desk.punch(1, 0, day, comes, false), plain.punch(1, 0, day, comes, false));
            check.same(where, desk.punch(1, 1, day, goes, false), plain.punch(1, 1, day, goes, false));
        }
        askAllWeeks("week " + seed);
        for (int premium = 0; premium < 8; premium++) {
            check.same("week " + seed + " worth", desk.worth(premium), plain.worth(premium));
        }
        for (int i = 0; i < 12; i++) {
            int quarter = 96 * monday + random.nextInt(672);
            int what = 2 + i % 3;
            same("week " + seed + " quarter " + quarter, () -> desk.quarter(1, quarter, what),
                () -> plain.quarter(1, quarter, what));
        }
    }

    private String premiumsText() {
        StringBuilder text = new StringBuilder();
        for (int i = 1 + random.nextInt(8); i > 0; i--) {
            text.append("premium ").append(random.nextInt(3) == 0 ? "week " + random.nextInt(500) : kindText()).append(' ')
                .append(any(50, 100, 1 + random.nextInt(300))).append(random.nextInt(3) == 0 ? " counts;" : ";");
        }
        return text.toString();
    }

    private void readFaulty(int seed) {
        start(-1 - seed);
        String text = rulesText();
        for (int i = random.nextInt(4); i >= 0; i--) {
            text = spoilt(text);
        }
        tell("text " + seed + " " + text, text);
        for (int what = -1; what < 13; what++) {
            check.same("text " + seed + " count " + what, desk.count(what), plain.count(what));
        }
    }

    // ---- rules

    private int any(int... choices) {
        return choices[random.nextInt(choices.length)];
    }

    private String rulesText() {
        StringBuilder text = new StringBuilder();
        if (random.nextInt(3) == 0) {
            text.append("clock ").append(any(0, 6, 7, 13, 27, random.nextInt(28))).append(' ')
                .append(any(0, 2, 23, random.nextInt(24))).append(random.nextBoolean() ? " forward;" : " back;\n");
        }
        int day = random.nextInt(28);
        for (int i = random.nextInt(5); i > 0; i--) {
            text.append("holiday ").append((day + 3 * i) % 28).append(';');
        }
        line(text, "round " + any(0, 7, 14, random.nextInt(15)));
        line(text, "meal " + any(1, 4, 16, 1 + random.nextInt(96)) + " " + (1 + random.nextInt(16)));
        line(text, "longest " + (1 + random.nextInt(24)));
        line(text, "rate " + any(1, 100, 400, 1 + random.nextInt(400)));
        for (int i = random.nextInt(9); i > 0; i--) {
            text.append("premium ").append(kindText()).append(' ').append(any(50, 100, 300, 1 + random.nextInt(300)))
                .append(random.nextInt(3) == 0 ? " counts;" : ";");
        }
        return text.length() > 400 ? text.substring(0, 400) : text.toString();
    }

    private void line(StringBuilder text, String line) {
        if (random.nextInt(3) == 0) {
            text.append(line).append(" ;");
        }
    }

    private String kindText() {
        switch (random.nextInt(7)) {
            case 0: return "day " + any(0, 4, 32, 96, random.nextInt(97));
            case 1: return "week " + any(0, 1, 160, 672, random.nextInt(673));
            case 2: case 3: return "week " + random.nextInt(60);
            case 4: return "seventh";
            case 5: {
                int from = random.nextInt(24);
                return "night " + from + " " + (from + 1 + random.nextInt(23)) % 24;
            }
            default: return "holiday";
        }
    }

    private String spoilt(String text) {
        int at = random.nextInt(text.length() + 1);
        String head = text.substring(0, at);
        String tail = text.substring(at);
        String[] bits = {";", " ", "0", "99", "12345", "x", "counts", "\n", "\u0000", "\u00e9", "#", " rate 5;",
            " holiday 3;", " round 15;", "premium day 3 40;", "clock 1 1 back;", "premium night 4 4 4;", "meal 0 17;"};
        String spoilt;
        switch (random.nextInt(4)) {
            case 0: spoilt = head + bits[random.nextInt(bits.length)] + tail; break;
            case 1: spoilt = head + (tail.isEmpty() ? "" : tail.substring(1)); break;
            case 2: spoilt = head; break;
            default: spoilt = text + bits[random.nextInt(bits.length)]; break;
        }
        return spoilt.length() > 400 ? spoilt.substring(0, 400) : spoilt;
    }

    private void tell(String where, String text) {
        for (int i = 0; i < text.length() || i == 0; i += 20) {
            int[] numbers = new int[5];
            for (int k = 0; k < 20; k++) {
                numbers[k / 4] = numbers[k / 4] << 8 | (i + k < text.length() ? text.charAt(i + k) : ' ');
            }
            check.same(where + " feed", desk.feed(numbers[0], numbers[1], numbers[2], numbers[3], numbers[4]),
                plain.feed(numbers[0], numbers[1], numbers[2], numbers[3], numbers[4]));
        }
        int n = random.nextInt(20) == 0 ? random.nextInt(430) - 10 : text.length();
        check.same(where + " rules(" + n + ") " + text, desk.rules(n), plain.rules(n));
    }

    // ---- punches

    private int someDay() {
        return random.nextInt(30) == 0 ? any(-1, 28, 27, 0) : (baseDay + random.nextInt(spread)) % 28;
    }

    private int someMinute() {
        return random.nextInt(30) == 0 ? any(-1, 1440, 0, 1439) : random.nextInt(1440);
    }

    private int someWorker() {
        return random.nextInt(30) == 0 ? any(-1, 4) : random.nextInt(5) == 0 ? random.nextInt(4) : 1;
    }

    private boolean again() {
        return random.nextInt(6) == 0;
    }

    private void punchOne(String where) {
        int worker = someWorker();
        int kind = random.nextInt(40) == 0 ? any(-1, 3) : random.nextInt(3);
        int day = someDay();
        int minute = someMinute();
        boolean again = again();
        check.same(where + " punch", desk.punch(worker, kind, day, minute, again),
            plain.punch(worker, kind, day, minute, again));
    }

    private void workOneTurn(String where) {
        int worker = someWorker();
        int day = someDay();
        int comes = random.nextInt(1000);
        int goes = comes + random.nextInt(440);
        check.same(where + " comes", desk.punch(worker, 0, day, comes, false), plain.punch(worker, 0, day, comes, false));
        check.same(where + " goes", desk.punch(worker, 1, day, goes, false), plain.punch(worker, 1, day, goes, false));
    }

    private void takeAway(String where) {
        if (random.nextBoolean()) {
            check.same(where + " undo", desk.undo(), plain.undo());
            return;
        }
        int worker = random.nextInt(6) == 0 ? someWorker() : 1;
        int moment = desk.punched(worker, random.nextInt(10), 0);
        int day = moment < 0 ? someDay() : desk.clock(moment, 0);
        int minute = moment < 0 ? someMinute() : desk.clock(moment, 1);
        boolean again = random.nextInt(9) == 0 || desk.clock(moment, 2) == 1;
        check.same(where + " strike", desk.strike(worker, day, minute, again), plain.strike(worker, day, minute, again));
    }

    // ---- questions

    private void ask(String where) {
        int worker = someWorker();
        int week = random.nextInt(20) == 0 ? any(-1, 4) : (baseDay + random.nextInt(spread)) % 28 / 7;
        int premium = random.nextInt(12) - 3;
        boolean asTheyCome = random.nextBoolean();
        int k = random.nextInt(12) - 2;
        int what = random.nextInt(7) - 1;
        int day = someDay();
        switch (random.nextInt(17)) {
            case 0: check.same(where + " count", desk.count(premium + 3), plain.count(premium + 3)); break;
            case 1: same(where + " premium", () -> desk.premium(premium, what), () -> plain.premium(premium, what)); break;
            case 2: askMoments(where); break;
            case 3: check.same(where + " punched", desk.punched(worker, k, what), plain.punched(worker, k, what)); break;
            case 4: check.same(where + " span", desk.span(worker, k, what), plain.span(worker, k, what)); break;
            case 5: case 6: case 7: askQuarters(where, worker); break;
            case 8: check.same(where + " day", desk.day(worker, day, premium), plain.day(worker, day, premium)); break;
            case 9: check.same(where + " week", desk.week(worker, week, premium), plain.week(worker, week, premium)); break;
            case 10: check.same(where + " counted", desk.counted(worker, week, asTheyCome),
                plain.counted(worker, week, asTheyCome)); break;
            case 11: check.same(where + " pay", desk.pay(worker, week, asTheyCome),
                plain.pay(worker, week, asTheyCome)); break;
            case 12: check.same(where + " dayPay", desk.dayPay(worker, day), plain.dayPay(worker, day)); break;
            case 13: check.same(where + " total", desk.total(), plain.total()); break;
            case 14: check.same(where + " worth", desk.worth(premium), plain.worth(premium)); break;
            case 15: check.same(where + " together", desk.together(worker, k), plain.together(worker, k)); break;
            default: askWhatWouldBe(where); break;
        }
    }

    private void askMoments(String where) {
        int day = someDay();
        int minute = someMinute();
        boolean again = again();
        int moment = desk.moment(day, minute, again);
        check.same(where + " moment", moment, plain.moment(day, minute, again));
        int at = random.nextInt(5) == 0 ? 40200 + random.nextInt(250) : moment + random.nextInt(150) - 70;
        for (int what = -1; what < 4; what++) {
            check.same(where + " clock", desk.clock(at, what), plain.clock(at, what));
        }
    }

    private void askQuarters(String where, int worker) {
        int begin = desk.span(worker, random.nextInt(4), 0);
        int quarter = begin >= 0 ? begin + random.nextInt(30) : random.nextInt(2720) - 10;
        int what = random.nextInt(30) == 0 ? any(-1, 5) : random.nextInt(5);
        same(where + " quarter " + quarter + " " + what, () -> desk.quarter(worker, quarter, what),
            () -> plain.quarter(worker, quarter, what));
    }

    private void askWhatWouldBe(String where) {
        int worker = someWorker();
        int kind = random.nextInt(40) == 0 ? any(-1, 3) : random.nextInt(3);
        int day = someDay();
        int minute = someMinute();
        boolean again = again();
        if (random.nextInt(8) == 0) {
            check.same(where + " dearest", desk.dearest(worker, kind, day), plain.dearest(worker, kind, day));
        } else {
            check.same(where + " would", desk.would(worker, kind, day, minute, again),
                plain.would(worker, kind, day, minute, again));
        }
    }

    private void askAllWeeks(String where) {
        int worker = 1;
        for (int week = 0; week < 4; week++) {
            for (int premium = -2; premium < 8; premium++) {
                check.same(where + " week " + week + " " + premium, desk.week(worker, week, premium),
                    plain.week(worker, week, premium));
            }
            check.same(where + " pay", desk.pay(worker, week, false), plain.pay(worker, week, false));
            check.same(where + " came", desk.pay(worker, week, true), plain.pay(worker, week, true));
        }
    }

    private void same(String what, Check.Call mine, Check.Call theirs) {
        check.same(what, answer(mine), answer(theirs));
    }

    private static long answer(Check.Call call) {
        try {
            return call.answer();
        } catch (NoSuchElementException e) {
            return Long.MIN_VALUE;
        }
    }
}
