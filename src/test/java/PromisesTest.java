/** Each promise with answers worked out by hand: ordinary inputs, the edges that are named, wrong inputs. */
public final class PromisesTest {
    private static final int NONE = PremiumHours.NONE;
    private static final Check CHECK = new Check();

    public static void main(String[] args) {
        newObject();
        feed();
        rulesReplace();
        rulesForgetEarlierOnes();
        rulesPayAnew();
        rulesFaults();
        rulesBounds();
        rulesKeepOrDropPunches();
        count();
        premium();
        momentAndClock();
        momentAndClockAtTheEnds();
        punch();
        strike();
        undo();
        undoBehindTheOldest();
        punchedPairs();
        punchedLongest();
        spanRounding();
        spanMeal();
        quarter();
        quarterNightSeventhHoliday();
        quarterBestWay();
        dayAndWeek();
        counted();
        payAndDayPay();
        total();
        would();
        dearest();
        worth();
        together();
        wildArguments();
        CHECK.end();
    }

    private static void due(String what, long got, long due) {
        CHECK.same(what, got, due);
    }

    private static void newObject() {
        PremiumHours desk = new PremiumHours();
        int[] due = {0, 0, 7, 0, 0, 16, 100, NONE, NONE, NONE, 0, 0};
        for (int what = 0; what < due.length; what++) {
            due("1 count " + what, desk.count(what), due[what]);
        }
        for (int worker = 0; worker < 4; worker++) {
            due("1 punched", desk.punched(worker, NONE, 0), 0);
            due("1 span", desk.span(worker, NONE, 0), 0);
        }
        due("1 total", desk.total(), 0);
        due("1 day", new PremiumHours().day(0, 0, -2), 0);
        due("1 quarter", new PremiumHours().quarter(0, 0, 0), -2);
        due("1 pay", new PremiumHours().pay(0, 0, true), 0);
        due("1 NONE", PremiumHours.NONE, -1);
    }

    private static void feed() {
        PremiumHours desk = new PremiumHours();
        int rate4 = 'r' << 24 | 'a' << 16 | 't' << 8 | 'e';
        due("2 feed", desk.feed(rate4, ' ' << 24 | '4' << 16 | ';' << 8 | 0xff, -1, 0, 0x80000000), 20);
        due("2 highest first", desk.rules(7), 0);
        due("2 rate", desk.count(6), 4);
        for (int i = 1; i <= 20; i++) {
            due("2 feed " + i, desk.feed(0, 0, 0, 0, 0), 20 * i);
        }
        due("2 feed full", desk.feed(0, 0, 0, 0, 0), NONE);
        due("2 none came", desk.count(10), 400);
    }

    private static void rulesReplace() {
        PremiumHours desk = Desk.with("premium day 4 50;premium week 8 60 counts;rate 7;holiday 3;");
        due("3 told", desk.count(0), 2);
        Desk.feed(desk, "premium seventh 9;       ");
        due("3 below 0", desk.rules(-1), NONE);
        due("3 too many", desk.rules(41), NONE);
        due("3 tape stays", desk.count(10), 40);
        due("3 rules", desk.rules(18), 1);
        due("3 tape is empty", desk.count(10), 0);
        due("3 rate is default", desk.count(6), 100);
        due("3 no holidays", desk.count(1), 0);
        Desk.feed(desk, "rate 0;");
        due("3 fault", desk.rules(7), -2 - (8 * 5 + 2));
        due("3 tape is empty behind a fault", desk.count(10), 0);
        due("3 all else stays", desk.count(0), 1);
        due("3 no lines", desk.rules(0), 0);
        due("3 no premiums", desk.count(0), 0);
        due("3 words may stand together with digits", Desk.tell(desk, "rate12;premium\nday3 4counts;round 0003 ;"), 1);
        due("3 rate 12", desk.count(6), 12);
        due("3 round 3", desk.count(2), 3);
    }

    private static void rulesForgetEarlierOnes() {
        PremiumHours desk = new PremiumHours();
        for (int i = 0; i < 3; i++) {
            Desk.tell(desk, "clock 1 1 back;holiday 3;round 3;meal 5 5;longest 3;rate 3;premium night 1 2 3 counts;");
            due("3 told", desk.count(1), 1);
            due("3 none told", Desk.tell(desk, "premium seventh 5;"), 1);
            int[] due = {1, 0, 7, 0, 0, 16, 100, NONE, NONE, NONE};
            for (int what = 0; what < due.length; what++) {
                due("3 count " + what, desk.count(what), due[what]);
            }
            due("3 no counts", desk.premium(0, 2), 0);
            due("3 no number", desk.premium(0, 3), NONE);
            due("3 no number", desk.premium(0, 4), NONE);
        }
    }

    private static void rulesPayAnew() {
        PremiumHours desk = Desk.with("rate 2;");
        Desk.work(desk, 0, 0, 0, 60);
        Desk.work(desk, 3, 0, 0, 60);
        due("3 total", desk.total(), 1600);
        due("3 would", desk.would(0, 1, 0, 30, false), -400);
        Desk.tell(desk, "rate 3;");
        due("3 would anew", desk.would(0, 1, 0, 30, false), -600);
        due("3 total anew", desk.total(), 2400);
        Desk.tell(desk, "premium day 2 50;");
        due("3 total anew", desk.total(), 2 * (40000 + 10000));
        due("3 worth anew", desk.worth(0), 2 * 10000);
        due("3 would anew", desk.would(0, 1, 0, 45, false), -15000);
    }

    private static void fault(String text, int place, int kind) {
        due("3 " + text, Desk.tell(new PremiumHours(), text), -2 - (8 * place + kind));
    }

    private static void rulesFaults() {
        fault("x", 0, 1);
        fault(" ;", 1, 1);
        fault("\t", 0, 1);
        fault("rate 5", 6, 1);
        fault("rate 5  ", 8, 1);
        fault("rate 5;#", 7, 1);
        fault("rate 5#;", 6, 1);
        fault("raTe 5;", 0, 1);
        fault("rates 5;", 0, 1);
        fault("sate 5;", 0, 1);
        fault("rat 5;", 0, 1);
        fault("premium dayz 5 5;", 8, 1);
        fault("premium zday 5 5;", 8, 1);
        fault("premium daya 5 5;", 8, 1);
        fault("`rate 5;", 0, 1);
        fault("rate`5;", 4, 1);
        fault("rate{5;", 4, 1);
        fault("rate 5:;", 6, 1);
        fault("rate 5/;", 6, 1);
        fault("rate \u00e95;", 5, 1);
        fault("rate;", 4, 1);
        fault("rate 5 6;", 7, 1);
        fault("rate 5 99999;", 7, 1);
        fault("rate 12345;", 5, 2);
        fault("rate 00001;", 5, 2);
        fault("rate 0; #", 5, 2);
        fault("holiday 1;holiday 2;holiday 1;", 28, 2);
        fault("holiday 1;holiday 2;holiday 3;holiday 4;holiday 1;", 40, 3);
        fault("premium night 4 4 5;", 16, 2);
        fault("premium night 4 04 5;", 16, 2);
        fault("premium 5;", 8, 1);
        fault("premium day 5;", 13, 1);
        fault("premium day 5 6 7;", 16, 1);
        fault("premium day 5 6 count;", 16, 1);
        fault("premium seventh 5 counts counts;", 25, 1);
        fault("premium night 5 6;", 17, 1);
        fault("clock 1 2;", 9, 1);
        fault("clock 1 2 forth;", 10, 1);
        fault("clock 1 2 back;clock 1 2 back;", 15, 3);
        fault("round 1;round", 8, 3);
        fault("meal 1 1;meal 1 1;", 9, 3);
        fault("longest 1;longest 1;", 10, 3);
        fault("rate 1;rate 1;", 7, 3);
        StringBuilder nine = new StringBuilder();
        for (int i = 0; i < 9; i++) {
            nine.append("premium seventh 5;");
        }
        fault(nine.toString(), 144, 3);
        due("3 eight", Desk.tell(new PremiumHours(), nine.substring(0, 144)), 8);
        due("3 four holidays", Desk.tell(new PremiumHours(), "holiday 1;holiday 2;holiday 3;holiday 4;"), 0);
    }

    /** A form with # for the number, and its bounds. */
    private static void bounds(String form, int least, int most) {
        int place = form.indexOf('#');
        for (int value : new int[] {least, most}) {
            due("3 " + form + value, Math.min(0, Desk.tell(new PremiumHours(), form.replace("#", "" + value))), 0);
        }
        fault(form.replace("#", "" + (most + 1)), place, 2);
        if (least > 0) {
            fault(form.replace("#", "" + (least - 1)), place, 2);
        }
        fault(form.replace("#", "x"), place, 1);
        fault(form.replace("#", ";"), place, 1);
    }

    private static void rulesBounds() {
        bounds("clock # 0 back;", 0, 27);
        bounds("clock 0 # forward;", 0, 23);
        bounds("holiday #;", 0, 27);
        bounds("round #;", 0, 14);
        bounds("meal # 1;", 1, 96);
        bounds("meal 1 #;", 1, 16);
        bounds("longest #;", 1, 24);
        bounds("rate #;", 1, 400);
        bounds("premium day # 1;", 0, 96);
        bounds("premium week # 1;", 0, 672);
        bounds("premium seventh #;", 1, 300);
        bounds("premium night # 5 1;", 0, 23);
        bounds("premium night 5 # 1;", 0, 23);
        bounds("premium night 5 6 #;", 1, 300);
        bounds("premium holiday # counts;", 1, 300);
    }

    private static void rulesKeepOrDropPunches() {
        String[] clocks = {"", "clock 3 2 back;", "clock 3 2 forward;", "clock 4 2 back;", "clock 3 1 back;"};
        for (String before : clocks) {
            for (String after : clocks) {
                PremiumHours desk = Desk.with(before);
                Desk.work(desk, 1, 9, 600, 660);
                due("3 can take back", desk.count(11), 2);
                Desk.tell(desk, "rate 5;" + after);
                due("3 punches of " + before + " by " + after, desk.punched(1, NONE, 0), before.equals(after) ? 2 : 0);
                due("3 nothing to take back", desk.count(11), 0);
                due("3 no undo", desk.undo(), NONE);
                due("3 pay by the new rate", desk.total(), before.equals(after) ? 4 * 500 : 0);
            }
        }
        PremiumHours desk = Desk.with("rate 3;");
        Desk.work(desk, 0, 0, 0, 60);
        Desk.tell(desk, "rate 0;");
        due("3 a fault leaves what can be taken back", desk.count(11), 2);
        due("3 a fault leaves pay", desk.total(), 1200);
        due("3 undo", desk.undo(), 1);
    }

    private static void count() {
        PremiumHours desk = Desk.with("clock 5 23 forward;holiday 3;holiday 27;round 0;meal 24 2;longest 24;rate 400;"
            + "premium seventh 5;");
        int[] due = {1, 2, 0, 24, 2, 24, 400, 5, 23, 1, 0, 0};
        for (int what = 0; what < due.length; what++) {
            due("4 count " + what, desk.count(what), due[what]);
        }
        due("4 other", desk.count(-1), NONE);
        due("4 other", desk.count(12), NONE);
        Desk.work(desk, 0, 0, 0, 600);
        Desk.feed(desk, "x");
        due("4 tape", desk.count(10), 20);
        due("4 back", desk.count(11), 2);
        Desk.tell(Desk.with(""), "clock 0 0 back;");
        due("4 back sort", Desk.with("clock 0 0 back;").count(9), 0);
    }

    private static void premium() {
        PremiumHours desk = Desk.with("premium day 32 50;premium week 160 51 counts;premium seventh 52;"
            + "premium night 22 6 53 counts;premium holiday 54;");
        int[][] due = {{0, 50, 0, 32, NONE}, {1, 51, 1, 160, NONE}, {2, 52, 0, NONE, NONE}, {3, 53, 1, 22, 6},
            {4, 54, 0, NONE, NONE}};
        for (int p = 0; p < due.length; p++) {
            for (int what = 0; what < 5; what++) {
                due("5 premium " + p + " " + what, desk.premium(p, what), due[p][what]);
            }
        }
        CHECK.refused("5 premium 5", () -> desk.premium(5, 0));
        CHECK.refused("5 premium -1", () -> desk.premium(-1, 0));
        CHECK.refused("5 what 5", () -> desk.premium(0, 5));
        CHECK.refused("5 what -1", () -> desk.premium(0, -1));
    }

    private static void momentAndClock() {
        PremiumHours plain = new PremiumHours();
        due("6 moment", plain.moment(3, 7, false), 3 * 1440 + 7);
        due("6 again", plain.moment(3, 7, true), NONE);
        due("6 day", plain.moment(-1, 0, false), NONE);
        due("6 minute", plain.moment(0, -1, false), NONE);
        due("6 minute", plain.moment(0, 1440, false), NONE);
        PremiumHours back = Desk.with("clock 2 3 back;");
        int turn = 2 * 1440 + 180;
        due("6 ahead", back.moment(2, 179, false), turn - 1);
        due("6 first", back.moment(2, 239, false), turn + 59);
        due("6 second", back.moment(2, 180, true), turn + 60);
        due("6 second", back.moment(2, 239, true), turn + 119);
        due("6 not twice", back.moment(2, 240, true), NONE);
        due("6 not twice", back.moment(2, 179, true), NONE);
        due("6 behind", back.moment(2, 240, false), turn + 120);
        int[] at = {turn - 1, turn, turn + 59, turn + 60, turn + 119, turn + 120};
        int[] minutes = {179, 180, 239, 180, 239, 240};
        int[] agains = {0, 0, 0, 1, 1, 0};
        for (int i = 0; i < at.length; i++) {
            due("7 day", back.clock(at[i], 0), 2);
            due("7 minute", back.clock(at[i], 1), minutes[i]);
            due("7 again", back.clock(at[i], 2), agains[i]);
        }
        PremiumHours forward = Desk.with("clock 2 3 forward;");
        due("6 ahead", forward.moment(2, 179, false), turn - 1);
        due("6 left out", forward.moment(2, 180, false), NONE);
        due("6 left out", forward.moment(2, 239, false), NONE);
        due("6 left out", forward.moment(2, 200, true), NONE);
        due("6 behind", forward.moment(2, 240, false), turn);
        due("7 minute", forward.clock(turn - 1, 1), 179);
        due("7 minute", forward.clock(turn, 1), 240);
        due("7 again", forward.clock(turn, 2), 0);
        due("7 other", forward.clock(turn, 3), NONE);
        due("7 other", forward.clock(turn, -1), NONE);
        due("7 other", forward.clock(-1, 0), NONE);
    }

    private static void momentAndClockAtTheEnds() {
        int[] ends = {40320, 40380, 40260};
        String[] rules = {"", "clock 27 23 back;", "clock 27 23 forward;"};
        for (int i = 0; i < 3; i++) {
            PremiumHours desk = Desk.with(rules[i]);
            due("7 last", desk.clock(ends[i] - 1, 0), 27);
            due("7 none", desk.clock(ends[i], 0), NONE);
        }
        PremiumHours back = Desk.with("clock 27 23 back;");
        due("6 last", back.moment(27, 1439, false), 40319);
        due("6 last", back.moment(27, 1439, true), 40379);
        due("7 last", back.clock(40379, 1), 1439);
        PremiumHours forward = Desk.with("clock 0 0 forward;");
        due("6 first", forward.moment(0, 0, false), NONE);
        due("6 first", forward.moment(0, 60, false), 0);
        due("7 first", forward.clock(0, 1), 60);
    }

    private static void punch() {
        PremiumHours desk = Desk.with("clock 1 2 back;");
        due("8 punch", desk.punch(0, 0, 5, 600, false), 1);
        due("8 late", desk.punch(0, 1, 1, 120, false), 2);
        due("8 second time", desk.punch(0, 2, 1, 120, true), 3);
        due("8 one is there", desk.punch(0, 1, 5, 600, false), NONE);
        due("8 other worker", desk.punch(3, 1, 5, 600, false), 1);
        due("8 no worker", desk.punch(4, 0, 0, 0, false), NONE);
        due("8 no worker", desk.punch(-1, 0, 0, 0, false), NONE);
        due("8 no kind", desk.punch(0, 3, 0, 0, false), NONE);
        due("8 no kind", desk.punch(0, -1, 0, 0, false), NONE);
        due("8 no day", desk.punch(0, 0, 28, 0, false), NONE);
        due("8 no minute", desk.punch(0, 0, 0, 1440, false), NONE);
        due("8 not twice", desk.punch(0, 0, 0, 0, true), NONE);
        due("8 by moments", desk.punched(0, 0, 0), 1440 + 120);
        due("8 by moments", desk.punched(0, 1, 0), 1440 + 180);
        due("8 back", desk.count(11), 4);
        for (int i = 4; i <= 60; i++) {
            due("8 many", desk.punch(0, 0, 7, i, false), i);
        }
        due("8 60 are", desk.punch(0, 0, 8, 0, false), NONE);
        due("8 60 are", desk.would(0, 0, 8, 0, false), Integer.MIN_VALUE);
        due("8 other worker", desk.punch(1, 0, 8, 0, false), 1);
    }

    private static void strike() {
        PremiumHours desk = Desk.with("clock 1 2 back;");
        desk.punch(2, 0, 1, 150, false);
        desk.punch(2, 1, 1, 150, true);
        due("9 no worker", desk.strike(4, 1, 150, false), NONE);
        due("9 no worker", desk.strike(-1, 1, 150, false), NONE);
        due("9 other worker", desk.strike(1, 1, 150, false), NONE);
        due("9 no punch", desk.strike(2, 1, 151, false), NONE);
        due("9 no time", desk.strike(2, 1, 1440, false), NONE);
        due("9 no time", desk.strike(2, 2, 150, true), NONE);
        due("9 span", desk.span(2, NONE, 0), 1);
        due("9 strike", desk.strike(2, 1, 150, false), 1);
        due("9 the other is left", desk.punched(2, 0, 0), 1440 + 210);
        due("9 no span", desk.span(2, NONE, 0), 0);
        due("9 struck", desk.strike(2, 1, 150, false), NONE);
        due("9 strike", desk.strike(2, 1, 150, true), 0);
    }

    private static void undo() {
        PremiumHours desk = new PremiumHours();
        due("10 none", desk.undo(), NONE);
        desk.punch(0, 0, 0, 0, false);
        desk.punch(0, 1, 0, 60, false);
        desk.strike(0, 0, 0, false);
        desk.punch(0, 7, 0, 0, false);
        desk.strike(0, 9, 9, false);
        due("10 refused ones do not count", desk.count(11), 3);
        due("10 struck", desk.total(), 0);
        due("10 undo", desk.undo(), 2);
        due("10 is back", desk.punched(0, 0, 0), 0);
        due("10 its kind", desk.punched(0, 0, 1), 0);
        due("10 pay is back", desk.total(), 40000);
        due("10 undo", desk.undo(), 1);
        due("10 pay is gone", desk.total(), 0);
        due("10 undo", desk.undo(), 0);
        due("10 none", desk.undo(), NONE);
        for (int i = 0; i < 20; i++) {
            desk.punch(i % 4, 0, 3, i, false);
        }
        due("10 16 are kept", desk.count(11), 16);
        for (int i = 15; i >= 0; i--) {
            due("10 undo " + i, desk.undo(), i);
        }
        due("10 none", desk.undo(), NONE);
        for (int worker = 0; worker < 4; worker++) {
            due("10 the oldest stay", desk.punched(worker, NONE, 0), 1);
            due("10 the oldest stay", desk.punched(worker, 0, 0), 3 * 1440 + worker);
        }
    }

    private static void undoBehindTheOldest() {
        PremiumHours desk = new PremiumHours();
        Desk.work(desk, 2, 5, 600, 660);
        for (int i = 0; i < 9; i++) {
            desk.punch(i % 2, i % 3, 3, i, false);
            desk.strike(2, 5, i % 2 == 0 ? 600 : 660, false);
            desk.punch(2, i % 2 == 0 ? 0 : 1, 5, i % 2 == 0 ? 600 : 660, false);
        }
        due("10 16 are kept", desk.count(11), 16);
        for (int i = 15; i >= 0; i--) {
            due("10 undo " + i, desk.undo(), i);
        }
        due("10 none", desk.undo(), NONE);
        due("10 worker 0", desk.punched(0, NONE, 0), 2);
        due("10 worker 1", desk.punched(1, NONE, 0), 2);
        due("10 worker 2", desk.punched(2, NONE, 0), 1);
        due("10 the goer was struck", desk.punched(2, 0, 0), 5 * 1440 + 600);
        due("10 the kind", desk.punched(2, 0, 1), 0);
    }

    private static void roles(String kinds, String due) {
        PremiumHours desk = new PremiumHours();
        for (int k = 0; k < kinds.length(); k++) {
            desk.punch(0, kinds.charAt(k) - '0', 0, 30 * k, false);
        }
        for (int k = 0; k < kinds.length(); k++) {
            due("11 " + kinds + " " + k, desk.punched(0, k, 2), due.charAt(k) - '0');
            due("11 " + kinds + " " + k, desk.punched(0, k, 1), kinds.charAt(k) - '0');
            due("11 " + kinds + " " + k, desk.punched(0, k, 0), 30 * k);
        }
    }

    private static void punchedPairs() {
        roles("01", "01");
        roles("00101", "20101");
        roles("10", "22");
        roles("110011", "222012");
        roles("22", "01");
        roles("222", "012");
        roles("21", "01");
        roles("20", "22");
        roles("201", "201");
        roles("02", "01");
        roles("12122", "20101");
        roles("0211", "0122");
        PremiumHours desk = new PremiumHours();
        Desk.work(desk, 1, 0, 0, 60);
        due("11 how many", desk.punched(1, NONE, 0), 2);
        due("11 no k", desk.punched(1, 2, 0), NONE);
        due("11 no k", desk.punched(1, -2, 0), NONE);
        due("11 other what", desk.punched(1, 0, 3), NONE);
        due("11 other what", desk.punched(1, 0, -1), NONE);
        due("11 no worker", desk.punched(4, NONE, 0), NONE);
        due("11 no worker", desk.punched(-1, 0, 0), NONE);
    }

    private static void longest(int hours, int lateKind, int lateBy, String due) {
        PremiumHours desk = Desk.with("longest " + hours + ";");
        desk.punch(0, 0, 0, 60, false);
        int late = 60 + 60 * hours + lateBy;
        desk.punch(0, lateKind, late / 1440, late % 1440, false);
        desk.punch(0, 1, late / 1440, late % 1440 + 1, false);
        for (int k = 0; k < 3; k++) {
            due("11 longest " + hours + " kind " + lateKind + " by " + lateBy, desk.punched(0, k, 2),
                due.charAt(k) - '0');
        }
    }

    private static void punchedLongest() {
        for (int hours : new int[] {1, 16, 24}) {
            longest(hours, 1, 0, "012");
            longest(hours, 1, 1, "222");
            longest(hours, 2, 0, "012");
            longest(hours, 2, 1, "201");
            longest(hours, 0, 0, "201");
        }
        PremiumHours desk = Desk.with("longest 2;clock 0 2 back;");
        desk.punch(0, 0, 0, 90, false);
        desk.punch(0, 1, 0, 151, true);
        due("11 as they truly go by", desk.punched(0, 1, 2), 2);
        desk.undo();
        desk.punch(0, 1, 0, 150, true);
        due("11 as they truly go by", desk.punched(0, 1, 2), 1);
    }

    private static void spanOf(int round, int comes, int goes, int begin, int end) {
        PremiumHours desk = Desk.with("round " + round + ";");
        Desk.work(desk, 0, 1, comes, goes);
        due("12 begin", desk.span(0, 0, 0), 96 + begin);
        due("12 end", desk.span(0, 0, 1), 96 + end);
        due("12 worked", desk.span(0, 0, 2), end - begin);
        due("12 worked", desk.week(0, 0, -2), end - begin);
    }

    private static void spanRounding() {
        spanOf(7, 30, 60, 2, 4);
        spanOf(7, 37, 67, 2, 4);
        spanOf(7, 38, 68, 3, 5);
        spanOf(0, 31, 60, 3, 4);
        spanOf(0, 30, 61, 2, 5);
        spanOf(14, 44, 74, 2, 4);
        spanOf(7, 31, 36, 2, 2);
        PremiumHours desk = new PremiumHours();
        Desk.work(desk, 0, 27, 1400, 1439);
        due("12 the end of all", desk.span(0, 0, 1), 2688);
        due("12 the end of all", desk.span(0, 0, 2), 3);
        Desk.work(desk, 0, 2, 0, 60);
        due("12 how many", desk.span(0, NONE, 0), 2);
        due("12 by moments", desk.span(0, 0, 0), 192);
        due("12 no k", desk.span(0, 2, 0), NONE);
        due("12 no k", desk.span(0, -2, 0), NONE);
        due("12 other what", desk.span(0, 0, 3), NONE);
        due("12 other what", desk.span(0, 0, -1), NONE);
        due("12 no worker", desk.span(4, NONE, 0), NONE);
        due("12 no worker", desk.span(-1, NONE, 0), NONE);
    }

    private static void mealOf(int quarters, int worked, int lastMeal) {
        PremiumHours desk = Desk.with("meal 8 3;");
        Desk.work(desk, 0, 1, 0, 15 * quarters);
        due("12 meal of " + quarters, desk.span(0, 0, 2), worked);
        due("12 the end stays", desk.span(0, 0, 1), 96 + quarters);
        for (int q = 0; q < quarters; q++) {
            boolean meal = q >= 8 && q <= lastMeal;
            due("12 meal of " + quarters + " at " + q, desk.quarter(0, 96 + q, 0), meal ? -2 : 1);
        }
    }

    private static void spanMeal() {
        mealOf(7, 7, 0);
        mealOf(8, 8, 0);
        mealOf(9, 8, 8);
        mealOf(11, 8, 10);
        mealOf(12, 9, 10);
        PremiumHours desk = Desk.with("meal 8 3;");
        Desk.work(desk, 0, 0, 0, 120);
        Desk.work(desk, 0, 0, 121, 240);
        due("12 each span by itself", desk.day(0, 0, -2), 16);
    }

    private static void quarter() {
        PremiumHours desk = Desk.with("clock 1 2 back;rate 10;premium day 2 50;premium day 4 50;premium day 4 90;");
        Desk.work(desk, 0, 1, 105, 240);
        int[] hours = {1, 2, 2, 2, 2, 2, 2, 2, 2, 3, 3, 3, 3};
        int[] paid = {NONE, NONE, 0, 0, 2, 2, 2, 2, 2, 2, 2, 2, 2};
        int[] may = {0, 0, 1, 1, 7, 7, 7, 7, 7, 7, 7, 7, 7};
        for (int i = 0; i < hours.length; i++) {
            due("13 day", desk.quarter(0, 103 + i, 0), 1);
            due("13 hour", desk.quarter(0, 103 + i, 1), hours[i]);
            due("13 best", desk.quarter(0, 103 + i, 2), paid[i]);
            due("13 came", desk.quarter(0, 103 + i, 3), paid[i]);
            due("13 may", desk.quarter(0, 103 + i, 4), may[i]);
        }
        due("13 ahead", desk.quarter(0, 102, 0), -2);
        due("13 behind", desk.quarter(0, 116, 4), -2);
        due("13 other worker", desk.quarter(1, 104, 0), -2);
        due("13 far off", desk.quarter(0, 2692, 0), -2);
        due("13 far off", desk.quarter(0, -1, 0), -2);
        CHECK.refused("13 what 5", () -> desk.quarter(0, 104, 5));
        CHECK.refused("13 what -1", () -> desk.quarter(0, 104, -1));
        CHECK.refused("13 worker 4", () -> desk.quarter(4, 104, 0));
        CHECK.refused("13 worker -1", () -> desk.quarter(-1, 104, 0));
    }

    private static void quarterNightSeventhHoliday() {
        PremiumHours desk = Desk.with("longest 24;holiday 2;premium night 22 6 30;premium night 9 17 20;"
            + "premium holiday 200;premium seventh 10;");
        desk.punch(0, 2, 1, 720, false);
        desk.punch(0, 2, 2, 720, false);
        due("13 hour 16", desk.quarter(0, 96 + 67, 4), 2);
        due("13 hour 17", desk.quarter(0, 96 + 68, 4), 0);
        due("13 hour 21", desk.quarter(0, 96 + 87, 4), 0);
        due("13 hour 22", desk.quarter(0, 96 + 88, 4), 1);
        due("13 midnight", desk.quarter(0, 192, 4), 5);
        due("13 hour 5", desk.quarter(0, 192 + 23, 4), 5);
        due("13 hour 6", desk.quarter(0, 192 + 24, 4), 4);
        due("13 hour 9", desk.quarter(0, 192 + 36, 4), 6);
        due("13 paid", desk.quarter(0, 192 + 36, 2), 2);
        PremiumHours sevenDays = Desk.with("premium seventh 10;");
        for (int day = 6; day < 14; day++) {
            Desk.work(sevenDays, 0, day, 600, 660);
        }
        due("13 the days of another week", sevenDays.day(0, 6, 0), 0);
        due("13 sixth day", sevenDays.day(0, 12, 0), 0);
        due("13 seventh day", sevenDays.day(0, 13, 0), 4);
        sevenDays.strike(0, 9, 660, false);
        due("13 one is lacking", sevenDays.day(0, 13, 0), 0);
    }

    private static void quarterBestWay() {
        // PLAIN ahead COUNTS: to wait with premium 0 wins premium 1 for more quarters
        PremiumHours desk = Desk.with("premium day 0 10;premium week 2 100;");
        Desk.work(desk, 0, 0, 0, 60);
        int[] paid = {NONE, NONE, 1, 1};
        int[] may = {1, 1, 3, 3};
        for (int q = 0; q < 4; q++) {
            due("13 best " + q, desk.quarter(0, q, 2), paid[q]);
            due("13 as they come " + q, desk.quarter(0, q, 3), 0);
            due("13 may by what counts in the best way " + q, desk.quarter(0, q, 4), may[q]);
        }
        due("17 best", desk.pay(0, 0, false), 100 * (400 + 200));
        due("17 as they come", desk.pay(0, 0, true), 100 * (400 + 40));
        // two ways win the same: at the first quarter where they are unlike, PLAIN stands ahead
        PremiumHours equal = Desk.with("premium day 0 50;premium week 1 100;");
        Desk.work(equal, 0, 0, 0, 30);
        due("13 plain is ahead", equal.quarter(0, 0, 2), NONE);
        due("13 then the week", equal.quarter(0, 1, 2), 1);
        PremiumHours numbers = Desk.with("premium day 0 50;premium day 0 50 counts;premium week 1 50;");
        Desk.work(numbers, 0, 0, 0, 30);
        due("13 the lower number is ahead", numbers.quarter(0, 0, 2), 0);
        due("13 the lower number is ahead", numbers.quarter(0, 1, 2), 0);
        due("13 of several the first comes", numbers.quarter(0, 1, 3), 0);
        PremiumHours counting = Desk.with("premium day 0 50;premium day 0 40 counts;premium week 1 61;");
        Desk.work(counting, 0, 0, 0, 30);
        due("13 counts for the week", counting.quarter(0, 0, 2), 1);
        due("13 the week", counting.quarter(0, 1, 2), 2);
    }

    private static void dayAndWeek() {
        PremiumHours desk = Desk.with("premium day 4 50;premium night 23 1 40;");
        desk.punch(1, 2, 6, 1320, false);
        desk.punch(1, 2, 7, 120, false);
        due("14 worked", desk.day(1, 6, -2), 8);
        due("14 plain", desk.day(1, 6, NONE), 4);
        due("14 day", desk.day(1, 6, 0), 4);
        due("14 night", desk.day(1, 6, 1), 0);
        due("14 worked", desk.day(1, 7, -2), 8);
        due("14 day", desk.day(1, 7, 0), 4);
        due("14 night", desk.day(1, 7, 1), 4);
        due("14 no day", desk.day(1, 28, -2), NONE);
        due("14 no day", desk.day(1, -1, -2), NONE);
        due("14 no worker", desk.day(4, 0, -2), NONE);
        due("14 no worker", desk.day(-1, 0, -2), NONE);
        due("14 no premium", desk.day(1, 0, 2), NONE);
        due("14 no premium", desk.day(1, 0, -3), NONE);
        due("15 worked", desk.week(1, 0, -2), 8);
        due("15 plain", desk.week(1, 0, NONE), 4);
        due("15 night", desk.week(1, 1, 1), 4);
        due("15 day", desk.week(1, 1, 0), 4);
        due("15 nothing", desk.week(1, 3, -2), 0);
        due("15 no week", desk.week(1, 4, -2), NONE);
        due("15 no week", desk.week(1, -1, -2), NONE);
        due("15 no worker", desk.week(4, 0, -2), NONE);
        due("15 no worker", desk.week(-1, 0, -2), NONE);
        due("15 no premium", desk.week(1, 0, 2), NONE);
        due("15 no premium", desk.week(1, 0, -3), NONE);
    }

    private static void counted() {
        PremiumHours desk = Desk.with("premium day 0 10;premium week 2 100;premium day 6 300 counts;");
        Desk.work(desk, 0, 8, 0, 120);
        due("16 best", desk.counted(0, 1, false), 4);
        due("16 as they come", desk.counted(0, 1, true), 2);
        due("16 another week", desk.counted(0, 0, false), 0);
        PremiumHours edges = new PremiumHours();
        Desk.work(edges, 0, 6, 1425, 1439);
        Desk.work(edges, 0, 7, 0, 30);
        Desk.work(edges, 0, 14, 0, 45);
        due("16 the last quarter of week 0", edges.counted(0, 0, false), 1);
        due("16 the first quarters of week 1", edges.counted(0, 1, true), 2);
        due("16 the first quarters of week 2", edges.counted(0, 2, false), 3);
        due("15 the first quarters of week 1", edges.week(0, 1, -2), 2);
        due("17 the last quarter of week 0", edges.pay(0, 0, true), 10000);
        due("16 no week", desk.counted(0, 4, false), NONE);
        due("16 no week", desk.counted(0, -1, true), NONE);
        due("16 no worker", desk.counted(4, 0, false), NONE);
        due("16 no worker", desk.counted(-1, 0, true), NONE);
    }

    private static void payAndDayPay() {
        PremiumHours desk = Desk.with("rate 3;premium day 4 50;premium week 6 70;");
        Desk.work(desk, 2, 0, 0, 90);
        Desk.work(desk, 2, 1, 0, 60);
        // DAY 0: four PLAIN, two more under day, or PLAIN to come to the week's six: 50 + 50 against 4 * 70
        due("17 best", desk.pay(2, 0, false), 3 * (1000 + 280));
        due("17 as they come", desk.pay(2, 0, true), 3 * (1000 + 100 + 2 * 70));
        due("18 day 0", desk.dayPay(2, 0), 3 * 600);
        due("18 day 1", desk.dayPay(2, 1), 3 * (400 + 280));
        due("18 day 2", desk.dayPay(2, 2), 0);
        due("17 no week", desk.pay(2, 4, false), NONE);
        due("17 no week", desk.pay(2, -1, true), NONE);
        due("17 no worker", desk.pay(4, 0, false), NONE);
        due("17 no worker", desk.pay(-1, 0, false), NONE);
        due("18 no day", desk.dayPay(2, 28), NONE);
        due("18 no day", desk.dayPay(2, -1), NONE);
        due("18 no worker", desk.dayPay(4, 0), NONE);
        due("18 no worker", desk.dayPay(-1, 0), NONE);
    }

    private static void total() {
        PremiumHours desk = Desk.with("longest 24;rate 400;premium day 0 300;clock 20 2 back;");
        due("19 nothing", desk.total(), 0);
        for (int worker = 0; worker < 4; worker++) {
            for (int day = 0; day < 28; day++) {
                desk.punch(worker, 0, day, 0, false);
                desk.punch(worker, 1, day, day == 20 ? 1379 : 1439, false);
            }
        }
        due("19 all that can be", desk.total(), 4 * 28 * 96 * 160000);
        desk.strike(3, 27, 1439, false);
        due("19 less a day", desk.total(), (4 * 28 - 1) * 96 * 160000);
    }

    private static void would() {
        PremiumHours desk = Desk.with("rate 2;");
        desk.punch(0, 2, 0, 0, false);
        desk.punch(0, 2, 0, 60, false);
        due("20 less", desk.would(0, 0, 0, 30, false), -400);
        due("20 more", desk.would(0, 2, 0, 120, false), 0);
        due("20 nothing", desk.would(1, 0, 0, 30, false), 0);
        desk.punch(0, 2, 0, 120, false);
        due("20 more", desk.would(0, 1, 0, 240, false), 1600);
        due("20 as it was", desk.total(), 800);
        due("20 as it was", desk.count(11), 3);
        due("20 one is there", desk.would(0, 1, 0, 60, false), Integer.MIN_VALUE);
        due("20 no worker", desk.would(4, 0, 0, 1, false), Integer.MIN_VALUE);
        due("20 no worker", desk.would(-1, 0, 0, 1, false), Integer.MIN_VALUE);
        due("20 no kind", desk.would(0, 3, 0, 1, false), Integer.MIN_VALUE);
        due("20 no kind", desk.would(0, -1, 0, 1, false), Integer.MIN_VALUE);
        due("20 no time", desk.would(0, 0, 28, 1, false), Integer.MIN_VALUE);
        due("20 no time", desk.would(0, 0, 0, 1, true), Integer.MIN_VALUE);
    }

    private static void dearest() {
        PremiumHours desk = Desk.with("longest 2;rate 2;");
        desk.punch(0, 0, 3, 600, false);
        due("21 the longest", desk.dearest(0, 1, 3), 720);
        due("21 all alike", desk.dearest(0, 0, 3), 0);
        due("21 another day", desk.dearest(0, 1, 4), 0);
        desk.punch(0, 0, 4, 0, false);
        due("21 one is there", desk.dearest(0, 0, 4), 15);
        due("21 no day", desk.dearest(0, 1, 28), NONE);
        due("21 no day", desk.dearest(0, 1, -1), NONE);
        due("21 no kind", desk.dearest(0, 3, 0), NONE);
        due("21 no kind", desk.dearest(0, -1, 0), NONE);
        due("21 no worker", desk.dearest(4, 1, 0), NONE);
        due("21 no worker", desk.dearest(-1, 1, 0), NONE);
        for (int i = 2; i < 60; i++) {
            desk.punch(0, 0, 9, i, false);
        }
        due("21 60 are", desk.dearest(0, 1, 3), NONE);
        PremiumHours early = Desk.with("clock 1 0 forward;longest 24;");
        due("21 left out", early.dearest(0, 0, 1), 60);
        early.punch(0, 1, 1, 720, false);
        due("21 a later one", early.dearest(0, 0, 1), 60);
        due("21 the evening before", early.dearest(0, 0, 0), 60 + 720 - 60 - 60);
        PremiumHours twice = Desk.with("clock 1 2 back;longest 1;");
        twice.punch(0, 0, 1, 120, false);
        // an hour on, MINUTE 120 is told the second time: only the first time is tried
        due("21 the first time alone", twice.dearest(0, 1, 1), 165);
    }

    private static void worth() {
        PremiumHours desk = Desk.with("rate 2;premium day 2 50;premium day 2 50;premium day 3 60;premium seventh 9;");
        Desk.work(desk, 0, 0, 0, 60);
        Desk.work(desk, 3, 9, 0, 60);
        due("22 another is there", desk.worth(0), 0);
        due("22 another is there", desk.worth(1), 0);
        due("22 of two workers", desk.worth(2), 2 * 2 * 10);
        due("22 never", desk.worth(3), 0);
        due("22 no premium", desk.worth(4), NONE);
        due("22 no premium", desk.worth(-1), NONE);
        due("22 as it was", desk.total(), 2 * 2 * (400 + 50 + 60));
        due("22 of alike trials", desk.would(0, 0, 20, 0, false), 0);
        due("22 of alike trials", desk.worth(2), 2 * 2 * 10);
        due("22 of alike trials", desk.would(3, 0, 20, 0, false), 0);
        desk.undo();
        desk.undo();
        due("22 of alike trials", desk.would(0, 0, 20, 0, false), 0);
        due("22 of alike trials", desk.worth(2), 2 * 10);
        PremiumHours last = Desk.with("premium day 2 50;premium day 3 60;");
        Desk.work(last, 3, 9, 0, 60);
        due("22 the last worker", last.worth(1), 1000);
        due("22 would behind worth", last.would(3, 0, 20, 0, false), 0);
        due("22 the last worker", last.worth(0), 5000);
        PremiumHours week = Desk.with("premium day 0 10;premium week 2 100;");
        Desk.work(week, 0, 0, 0, 60);
        due("22 the best way without", week.worth(1), 100 * (200 - 40));
        due("22 the best way without", week.worth(0), 0);
    }

    private static void together() {
        PremiumHours desk = Desk.with("meal 4 1;");
        Desk.work(desk, 0, 0, 0, 120);
        Desk.work(desk, 1, 0, 30, 90);
        due("23 together", desk.together(0, 1), 3);
        due("23 together", desk.together(1, 0), 3);
        due("23 none", desk.together(0, 2), 0);
        Desk.work(desk, 2, 0, 0, 15);
        due("23 the first", desk.together(0, 2), 1);
        Desk.work(desk, 2, 27, 1425, 1439);
        Desk.work(desk, 3, 27, 1400, 1439);
        due("23 the last", desk.together(2, 3), 1);
        due("23 alike", desk.together(1, 1), NONE);
        due("23 no worker", desk.together(0, 4), NONE);
        due("23 no worker", desk.together(-1, 0), NONE);
    }

    /** Nothing but what the document says may come out, whatever the arguments are. */
    private static void wildArguments() {
        int[] wild = {Integer.MIN_VALUE, -40000, -61, -3, -2, -1, 0, 1, 4, 27, 59, 60, 61, 96, 1439, 2684, 2688, 2692,
            40260, 40320, Integer.MAX_VALUE - 1, Integer.MAX_VALUE};
        PremiumHours desk = Desk.with("clock 27 23 back;meal 1 16;round 0;longest 24;premium week 0 300;premium day 0 1;");
        for (int i = 0; i < 60; i++) {
            desk.punch(0, 2, 27, 1439 - i, i % 2 == 0);
            desk.punch(1, i % 3, i % 28, 13 * i, false);
        }
        for (int a : wild) {
            for (int b : wild) {
                desk.clock(a, b);
                desk.together(a, b);
                desk.dayPay(a, b);
                CHECK.same("wild pay", desk.pay(a, b, true) >= NONE ? 1 : 0, 1);
                CHECK.same("wild counted", desk.counted(a, b, false) >= NONE ? 1 : 0, 1);
                for (int c : wild) {
                    desk.moment(a, b, c > 0);
                    desk.punched(a, b, c);
                    desk.span(a, b, c);
                    desk.day(a, b, c);
                    desk.week(a, b, c);
                    desk.would(a, b, c, 0, true);
                    desk.would(0, b, a, c, true);
                    desk.strike(a, b, c, false);
                    quietQuarter(desk, a, b, c);
                }
            }
            desk.count(a);
            desk.worth(a);
            CHECK.same("wild rules", desk.rules(a) >= NONE ? 1 : 0, 1);
        }
    }

    private static void quietQuarter(PremiumHours desk, int a, int b, int c) {
        try {
            desk.quarter(a, b, c);
        } catch (java.util.NoSuchElementException e) {
            CHECK.same("wild quarter", a < 0 || a > 3 || c < 0 || c > 4 ? 1 : 0, 1);
        }
    }
}
