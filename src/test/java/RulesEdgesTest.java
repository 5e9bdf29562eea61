import java.util.function.ToIntFunction;

/** Boundary cases of THE TAPE and of RULES: the document's head, Terms 1, promises 1 to 5. */
public final class RulesEdgesTest {
    private static final int NONE = PremiumHours.NONE;
    private static final int MIN = Integer.MIN_VALUE;
    private static final int MAX = Integer.MAX_VALUE;
    private static final int GOES = 1;
    private static final Edges EDGES = new Edges();

    public static void main(String[] args) {
        lastCalls();
        newObject();
        feed();
        rulesBytes();
        rulesRefusedOrAtFault();
        rulesAndPunches();
        tokens();
        lines();
        linesOnce();
        linesNumbers();
        premiumLines();
        faults();
        faultPlaces();
        count();
        premium();
        EDGES.end();
    }

    private static void edge(String where, String which, Runnable test) {
        EDGES.edge(where, which, test);
    }

    private static void is(long got, long due) {
        EDGES.is(got, due);
    }

    private static void noSuchElement(Check.Call call) {
        EDGES.noSuchElement(call);
    }

    // ---- the head

    private static void lastCall(String which, int due, ToIntFunction<PremiumHours> last) {
        edge("Head, 'at most 512 calls'", "the 512th is " + which, () -> {
            PremiumHours desk = new PremiumHours();
            Desk.feed(desk, "premium day 2 50;   ");
            desk.rules(17);
            Desk.work(desk, 0, 3, 0, 60);
            Desk.work(desk, 1, 3, 15, 30);
            for (int call = 7; call <= 511; call++) {
                desk.punched(call % 4, call % 3 - 1, call % 3);
            }
            is(last.applyAsInt(desk), due);
        });
    }

    private static void lastCalls() {
        lastCall("feed", 20, desk -> desk.feed(1, 2, 3, 4, 5));
        lastCall("rules", 0, desk -> desk.rules(0));
        lastCall("count", 4, desk -> desk.count(11));
        lastCall("premium", 50, desk -> desk.premium(0, 1));
        lastCall("moment", 40319, desk -> desk.moment(27, 1439, false));
        lastCall("clock", 27, desk -> desk.clock(40319, 0));
        lastCall("punch", 3, desk -> desk.punch(0, 0, 9, 0, false));
        lastCall("strike", 1, desk -> desk.strike(0, 3, 60, false));
        lastCall("undo", 3, desk -> desk.undo());
        lastCall("punched", 1, desk -> desk.punched(0, 1, 2));
        lastCall("span", 4, desk -> desk.span(0, 0, 2));
        lastCall("quarter", 0, desk -> desk.quarter(0, 290, 2));
        lastCall("day", 2, desk -> desk.day(0, 3, 0));
        lastCall("week", 2, desk -> desk.week(0, 0, NONE));
        lastCall("counted", 2, desk -> desk.counted(0, 0, true));
        lastCall("pay", 50000, desk -> desk.pay(0, 0, false));
        lastCall("dayPay", 50000, desk -> desk.dayPay(0, 3));
        lastCall("total", 60000, desk -> desk.total());
        lastCall("would", -30000, desk -> desk.would(0, 1, 3, 30, false));
        lastCall("dearest", 75, desk -> desk.dearest(0, 1, 3));
        lastCall("worth", 10000, desk -> desk.worth(0));
        lastCall("together", 1, desk -> desk.together(0, 1));
        edge("Head, 'at most 512 calls'", "512 punches and strikes in turns", () -> {
            PremiumHours desk = new PremiumHours();
            for (int turn = 0; turn < 256; turn++) {
                is(desk.punch(turn % 4, 0, 5, 5, false), 1);
                is(desk.strike(turn % 4, 5, 5, false), 0);
            }
        });
        edge("Head, 'at most 512 calls'", "256 RULES, each fed ahead", () -> {
            PremiumHours desk = new PremiumHours();
            for (int turn = 0; turn < 256; turn++) {
                Desk.feed(desk, "premium day 4 50;   ");
                is(desk.rules(turn % 2 == 0 ? 17 : 16), turn % 2 == 0 ? 1 : -2 - (8 * 16 + 1));
            }
        });
    }

    // ---- promise 1

    private static void newObject() {
        String where = "Promise 1, 'RULES without LINES, no PUNCHES'";
        edge(where, "what count tells is as without LINES", () -> {
            PremiumHours desk = new PremiumHours();
            int[] due = {0, 0, 7, 0, 0, 16, 100, NONE, NONE, NONE, 0, 0};
            for (int what = 0; what < due.length; what++) {
                is(desk.count(what), due[what]);
            }
        });
        edge(where, "there is no PREMIUM", () -> {
            noSuchElement(() -> new PremiumHours().premium(0, 0));
            is(new PremiumHours().worth(0), NONE);
        });
        edge(where, "no WORKER has a PUNCH or a SPAN", () -> {
            PremiumHours desk = new PremiumHours();
            for (int worker = 0; worker < 4; worker++) {
                is(desk.punched(worker, NONE, 0), 0);
                is(desk.punched(worker, 0, 0), NONE);
                is(desk.span(worker, NONE, 0), 0);
                is(desk.span(worker, 0, 0), NONE);
            }
        });
        edge(where, "nothing is WORKED", () -> {
            PremiumHours desk = new PremiumHours();
            for (int worker = 0; worker < 4; worker++) {
                is(desk.quarter(worker, 0, 0), -2);
                is(desk.quarter(worker, 2687, 4), -2);
                is(desk.day(worker, 0, -2), 0);
                is(desk.day(worker, 27, NONE), 0);
                is(desk.week(worker, 0, -2), 0);
                is(desk.week(worker, 3, NONE), 0);
                is(desk.counted(worker, 0, false), 0);
                is(desk.counted(worker, 3, true), 0);
                is(desk.together(worker, (worker + 1) % 4), 0);
            }
        });
        edge(where, "nothing is PAID", () -> {
            PremiumHours desk = new PremiumHours();
            is(desk.total(), 0);
            is(desk.pay(0, 0, false), 0);
            is(desk.pay(3, 3, true), 0);
            is(desk.dayPay(0, 0), 0);
            is(desk.dayPay(3, 27), 0);
        });
        edge(where, "nothing can be struck or taken back", () -> {
            PremiumHours desk = new PremiumHours();
            is(desk.strike(0, 0, 0, false), NONE);
            is(desk.undo(), NONE);
        });
        edge(where, "one PUNCH alone would pay nothing", () -> {
            is(new PremiumHours().would(0, 0, 0, 0, false), 0);
            is(new PremiumHours().dearest(3, 1, 27), 0);
        });
        edge("The public face, 'NONE = -1'", "the constant", () -> is(PremiumHours.NONE, -1));
    }

    // ---- promise 2

    private static PremiumHours fullTape(String lastTwenty) {
        PremiumHours desk = new PremiumHours();
        Desk.feed(desk, " ".repeat(380) + lastTwenty);
        return desk;
    }

    private static void feed() {
        edge("Promise 2, 'how many it has'", "from the first twenty to all 400", () -> {
            PremiumHours desk = new PremiumHours();
            for (int times = 1; times <= 20; times++) {
                is(desk.feed(0, 0, 0, 0, 0), 20 * times);
                is(desk.count(10), 20 * times);
            }
        });
        edge("Promise 2, 'NONE, if it would have more than 400'", "400 are there", () -> {
            PremiumHours desk = fullTape("rate 5;             ");
            is(desk.feed(0, 0, 0, 0, 0), NONE);
            is(desk.feed(0, 0, 0, 0, 0), NONE);
        });
        edge("Promise 2, 'NONE, and none come'", "400 stay, as they were", () -> {
            PremiumHours desk = fullTape("rate 5;             ");
            desk.feed(-1, -1, -1, -1, -1);
            is(desk.count(10), 400);
            is(desk.rules(400), 0);
            is(desk.count(6), 5);
        });
        edge("Promise 2, 'come behind THE TAPE'", "behind a tape that was full and is empty again", () -> {
            PremiumHours desk = fullTape("rate 5;             ");
            desk.rules(0);
            Desk.feed(desk, "rate 6;             ");
            is(desk.count(10), 20);
            is(desk.rules(20), 0);
            is(desk.count(6), 6);
        });
        edge("Promise 2, 'come behind THE TAPE'", "a LINE goes on from twenty bytes to the next", () -> {
            PremiumHours desk = new PremiumHours();
            Desk.feed(desk, "             premium");
            Desk.feed(desk, " day 31 77 counts;  ");
            is(desk.rules(40), 1);
            is(desk.premium(0, 1), 77);
            is(desk.premium(0, 3), 31);
        });
        edge("Promise 2, 'of each number the highest first'", "each of the twenty", () -> {
            for (int place = 0; place < 20; place++) {
                int[] numbers = {0x20202020, 0x20202020, 0x20202020, 0x20202020, 0x20202020};
                numbers[place / 4] ^= (0x20 ^ 0x3b) << 24 - 8 * (place % 4);
                PremiumHours desk = new PremiumHours();
                desk.feed(numbers[0], numbers[1], numbers[2], numbers[3], numbers[4]);
                is(desk.rules(20), -2 - (8 * place + 1));
            }
        });
        edge("Promise 2, 'Twenty bytes'", "bytes of 128 and more are no letters, digits, blanks", () -> {
            for (int low : new int[] {'r', '4', ';', ' ', '\n', 127}) {
                PremiumHours desk = new PremiumHours();
                desk.feed((low | 0x80) << 24 | 0x202020, 0x20202020, 0x20202020, 0x20202020, 0x20202020);
                is(desk.rules(20), -2 - 1);
            }
        });
    }

    // ---- promise 3

    private static void rulesBytes() {
        String where = "Promise 3, 'The first n bytes of THE TAPE'";
        edge(where, "n is 0, THE TAPE is empty", () -> is(new PremiumHours().rules(0), 0));
        edge(where, "n is 0 of 400: RULES without LINES", () -> {
            PremiumHours desk = fullTape("rate 5;             ");
            is(desk.rules(0), 0);
            is(desk.count(6), 100);
        });
        edge(where, "n is 400 of 400, read to the last byte", () -> {
            PremiumHours desk = fullTape("             rate 5;");
            is(desk.rules(400), 0);
            is(desk.count(6), 5);
        });
        edge(where, "n is 399 of 400: the last byte is not read", () -> {
            PremiumHours desk = fullTape("             rate 5;");
            is(desk.rules(399), -2 - (8 * 399 + 1));
        });
        edge(where, "what stands behind n is not read", () -> {
            PremiumHours desk = new PremiumHours();
            Desk.feed(desk, "rate 5;rate 6;# ");
            is(desk.rules(7), 0);
            is(desk.count(6), 5);
        });
        edge(where, "a NUMBER that goes on behind n ends with n", () -> {
            PremiumHours desk = new PremiumHours();
            Desk.feed(desk, "rate 400000;");
            is(desk.rules(8), -2 - (8 * 8 + 1));
        });
        edge(where, "a word that goes on behind n ends with n", () -> {
            PremiumHours desk = new PremiumHours();
            Desk.feed(desk, "rates 5;");
            is(desk.rules(4), -2 - (8 * 4 + 1));
        });
        edge("Promise 3, '(it is empty then)'", "behind RULES", () -> {
            PremiumHours desk = fullTape("rate 5;             ");
            desk.rules(387);
            is(desk.count(10), 0);
            is(desk.rules(1), NONE);
        });
        edge("Promise 3, '(it is empty then)'", "behind RULES of 0 bytes", () -> {
            PremiumHours desk = fullTape("rate 5;             ");
            desk.rules(0);
            is(desk.count(10), 0);
        });
        edge("Promise 3, '(it is empty then)'", "behind a FAULT", () -> {
            PremiumHours desk = fullTape("rate 0;             ");
            is(desk.rules(400), -2 - (8 * 385 + 2));
            is(desk.count(10), 0);
        });
        edge("Promise 3, 'are the RULES in place of those there were'", "nothing of the earlier ones is left", () -> {
            PremiumHours desk = Desk.with("clock 0 0 forward;holiday 0;round 0;meal 1 1;longest 1;rate 1;"
                + "premium night 5 6 7 counts;");
            is(desk.rules(0), 0);
            int[] due = {0, 0, 7, 0, 0, 16, 100, NONE, NONE, NONE};
            for (int what = 0; what < due.length; what++) {
                is(desk.count(what), due[what]);
            }
            noSuchElement(() -> desk.premium(0, 0));
        });
        edge("Promise 3, 'are the RULES in place of those there were'", "nothing of those ahead of the earlier ones", () -> {
            PremiumHours desk = new PremiumHours();
            for (int times = 0; times < 4; times++) {
                for (int twice = 0; twice < 2; twice++) {
                    Desk.tell(desk, "clock 1 1 back;holiday 3;round 3;meal 5 5;longest 3;rate 3;"
                        + "premium night 1 2 3 counts;");
                    is(desk.count(7), 1);
                }
                Desk.tell(desk, "premium seventh 5;");
                int[] due = {1, 0, 7, 0, 0, 16, 100, NONE, NONE, NONE};
                for (int what = 0; what < due.length; what++) {
                    is(desk.count(what), due[what]);
                }
                is(desk.premium(0, 2), 0);
                is(desk.premium(0, 3), NONE);
                is(desk.premium(0, 4), NONE);
            }
        });
        edge("Promise 3, 'how many PREMIUMS'", "none, one, all 8", () -> {
            is(Desk.tell(new PremiumHours(), "rate 5;holiday 3;"), 0);
            is(Desk.tell(new PremiumHours(), "rate 5;premium holiday 3;"), 1);
            is(Desk.tell(new PremiumHours(), "premium holiday 3;".repeat(8)), 8);
        });
    }

    private static void refused(String which, int n) {
        edge("Promise 3, 'NONE: it has not so many, n is below 0 (THE TAPE stays)'", which, () -> {
            PremiumHours desk = Desk.with("rate 3;");
            Desk.work(desk, 0, 0, 0, 60);
            Desk.feed(desk, "rate 5;             ");
            is(desk.rules(n), NONE);
            is(desk.count(10), 20);
            is(desk.count(6), 3);
            is(desk.count(11), 2);
            is(desk.rules(20), 0);
            is(desk.count(6), 5);
        });
    }

    private static void rulesRefusedOrAtFault() {
        refused("one more than it has", 21);
        refused("401", 401);
        refused("the most that can be asked", MAX);
        refused("-1", -1);
        refused("-2", -2);
        refused("the least that can be asked", MIN);
        edge("Promise 3, 'NONE: it has not so many'", "1 of an empty TAPE", () -> is(new PremiumHours().rules(1), NONE));
        edge("Promise 3, 'NONE: n is below 0'", "-1 of an empty TAPE", () -> is(new PremiumHours().rules(-1), NONE));
        edge("Promise 3, '-2 less (8 * place + kind)'", "the least there is: place 0, kind 1", () ->
            is(Desk.tell(new PremiumHours(), "#"), -3));
        edge("Promise 3, '-2 less (8 * place + kind)'", "the largest place: 400", () -> {
            PremiumHours desk = fullTape("              rate 5");
            is(desk.rules(400), -2 - (8 * 400 + 1));
        });
        edge("Promise 3, 'a FAULT (all else stays)'", "RULES stay, also those that the faulty text tells ahead", () -> {
            PremiumHours desk = Desk.with("clock 3 4 back;holiday 5;holiday 6;round 3;meal 7 8;longest 9;rate 10;"
                + "premium day 11 12 counts;premium night 13 14 15;");
            int[] due = {2, 2, 3, 7, 8, 9, 10, 3, 4, 0, 0, 0};
            is(Desk.tell(desk, "clock 9 9 forward;holiday 1;round 1;meal 1 1;longest 1;rate 1;premium week 1 1;rate 0;"),
                -2 - (8 * 79 + 3));
            for (int what = 0; what < due.length; what++) {
                is(desk.count(what), due[what]);
            }
            is(desk.premium(0, 0), 0);
            is(desk.premium(0, 1), 12);
            is(desk.premium(0, 2), 1);
            is(desk.premium(0, 3), 11);
            is(desk.premium(1, 4), 14);
        });
        edge("Promise 3, 'a FAULT (all else stays)'", "PUNCHES stay, and what can be taken back", () -> {
            PremiumHours desk = Desk.with("rate 3;");
            Desk.work(desk, 0, 0, 0, 60);
            Desk.tell(desk, "clock 1 1 back;x");
            is(desk.punched(0, NONE, 0), 2);
            is(desk.total(), 1200);
            is(desk.count(11), 2);
            is(desk.undo(), 1);
        });
    }

    // ---- promise 3 and PUNCHES

    private static void stayOrGo(String which, String before, String after, boolean stay) {
        edge("Promise 3, 'PUNCHES are gone if clock is another one, else they stay'", which, () -> {
            PremiumHours desk = Desk.with(before);
            for (int worker = 0; worker < 4; worker++) {
                Desk.work(desk, worker, 20, 600, 660);
            }
            is(Desk.tell(desk, after), 0);
            for (int worker = 0; worker < 4; worker++) {
                is(desk.punched(worker, NONE, 0), stay ? 2 : 0);
                is(desk.span(worker, NONE, 0), stay ? 1 : 0);
                is(desk.day(worker, 20, -2), stay ? 4 : 0);
            }
            is(desk.total() > 0 ? 1 : 0, stay ? 1 : 0);
        });
        edge("Promise 3, 'nothing can be taken back'", which, () -> {
            PremiumHours desk = Desk.with(before);
            Desk.work(desk, 2, 20, 600, 660);
            Desk.tell(desk, after);
            is(desk.count(11), 0);
            is(desk.undo(), NONE);
            is(desk.punched(2, NONE, 0), stay ? 2 : 0);
        });
    }

    private static void rulesAndPunches() {
        stayOrGo("no clock before and after", "", "rate 5;", true);
        stayOrGo("a clock is told that was not", "", "clock 1 2 back;", false);
        stayOrGo("the clock is told no more", "clock 1 2 back;", "rate 5;", false);
        stayOrGo("the clock is told no more, RULES without LINES", "clock 1 2 forward;", "", false);
        stayOrGo("a later DAY", "clock 1 2 back;", "clock 2 2 back;", false);
        stayOrGo("an earlier DAY", "clock 2 2 back;", "clock 1 2 back;", false);
        stayOrGo("a later HOUR", "clock 1 2 back;", "clock 1 3 back;", false);
        stayOrGo("an earlier HOUR", "clock 1 3 back;", "clock 1 2 back;", false);
        stayOrGo("forward for back", "clock 1 2 back;", "clock 1 2 forward;", false);
        stayOrGo("back for forward", "clock 1 2 forward;", "clock 1 2 back;", false);
        stayOrGo("DAY and HOUR that together come to the same", "clock 1 2 back;", "clock 2 1 back;", false);
        stayOrGo("the same clock", "clock 1 2 back;", "rate 5;clock 1 2 back;", true);
        stayOrGo("the same clock in other digits", "clock 1 2 forward;", "clock01 0002\nforward ;", true);
        stayOrGo("the same clock, of DAY 0, HOUR 0", "clock 0 0 back;", "clock 0 0 back;", true);
        stayOrGo("no more, of DAY 0, HOUR 0", "clock 0 0 back;", "", false);
        edge("Promise 3, 'else they stay'", "they are PAIRED, rounded and PAID by the new RULES", () -> {
            PremiumHours desk = Desk.with("longest 1;round 0;rate 1;");
            Desk.work(desk, 0, 0, 1, 61);
            Desk.work(desk, 0, 1, 0, 61);
            is(desk.span(0, NONE, 0), 1);
            is(desk.total(), 400);
            Desk.tell(desk, "longest 2;round 1;rate 2;");
            is(desk.span(0, NONE, 0), 2);
            is(desk.total(), 2 * 800);
        });
        edge("Promise 3, 'else they stay'", "the same QUARTERS are WORKED, and PAID by the new RULES", () -> {
            PremiumHours desk = Desk.with("rate 2;premium day 2 50;");
            Desk.work(desk, 0, 0, 0, 60);
            Desk.work(desk, 3, 20, 0, 60);
            is(desk.total(), 2000);
            is(desk.worth(0), 2 * 200);
            is(desk.would(3, GOES, 20, 45, false), -300);
            Desk.tell(desk, "rate 4;premium day 3 60;");
            is(desk.would(3, GOES, 20, 45, false), -4 * 160);
            is(desk.total(), 4 * (800 + 120));
            is(desk.worth(0), 4 * 120);
            is(desk.pay(0, 0, true), 4 * 460);
        });
        edge("Promise 3, 'PUNCHES are gone'", "a PUNCH may come again where one was", () -> {
            PremiumHours desk = new PremiumHours();
            desk.punch(0, 0, 5, 5, false);
            Desk.tell(desk, "clock 1 2 back;");
            is(desk.punch(0, 0, 5, 5, false), 1);
        });
    }

    // ---- Terms 1: THE TAPE and TOKENS

    private static void faulty(String where, String which, String text, int place, int kind) {
        edge(where, which, () -> is(Desk.tell(new PremiumHours(), text), -2 - (8 * place + kind)));
    }

    private static void fine(String where, String which, String text, int what, int due) {
        edge(where, which, () -> {
            PremiumHours desk = new PremiumHours();
            is(Math.min(0, Desk.tell(desk, text)), 0);
            is(desk.count(what), due);
        });
    }

    private static void tokens() {
        String blanks = "Terms 1, 'blanks, 32, 10, part TOKENS and mean nothing else'";
        fine(blanks, "nothing but blanks, 400 of them", " \n".repeat(200), 0, 0);
        fine(blanks, "ahead of all, between all, behind all", " \n\n rate \n 5\n;  \n", 6, 5);
        fine(blanks, "none between word, NUMBER and ;", "rate5;round3;", 2, 3);
        fine(blanks, "none between a NUMBER and a word", "premium day5 6counts;", 0, 1);
        faulty(blanks, "between two words one is wanted", "premiumday 5 6;", 0, 1);
        faulty(blanks, "one parts a word", "ra te 5;", 0, 1);
        faulty(blanks, "10 parts a word", "premium se\nventh 5;", 8, 1);
        faulty(blanks, "one parts a NUMBER", "rate 1 0;", 7, 1);
        for (int sign : new int[] {0, 9, 11, 12, 13, 31, 33, 127, 160, 255}) {
            faulty(blanks, sign + " is none", "rate " + (char) sign + "5;", 5, 1);
        }
        String words = "Terms 1, 'words of small letters, each that stand together'";
        faulty(words, "a letter is lacking", "rat 5;", 0, 1);
        faulty(words, "a letter too many", "ratee 5;", 0, 1);
        faulty(words, "another letter at last", "ratf 5;", 0, 1);
        faulty(words, "another letter at first", "sate 5;", 0, 1);
        faulty(words, "a large letter at first", "Rate 5;", 0, 1);
        faulty(words, "a large letter behind parts it", "ratE 5;", 0, 1);
        faulty(words, "96, ahead of the small letters", "rate `5;", 5, 1);
        faulty(words, "123, behind the small letters", "rate {5;", 5, 1);
        faulty(words, "96 ends a word", "rate`5;", 4, 1);
        faulty(words, "123 ends a word", "rate{5;", 4, 1);
        fine(words, "the first and the last small letter: back, day", "clock 0 0 back;", 9, 0);
        faulty(words, "a is a letter: with it the word is another", "ratea 5;", 0, 1);
        faulty(words, "z is a letter: with it the word is another", "ratez 5;", 0, 1);
        String digits = "Terms 1, 'NUMBERS: digits, each that stand together'";
        faulty(digits, "47, ahead of the digits", "rate /5;", 5, 1);
        faulty(digits, "58, behind the digits", "rate :5;", 5, 1);
        faulty(digits, "47 ends a NUMBER", "rate 5/;", 6, 1);
        faulty(digits, "58 ends a NUMBER", "rate 5:;", 6, 1);
        faulty(digits, "a sign ahead is no TOKEN", "rate +5;", 5, 1);
        faulty(digits, "nothing is less than none", "rate -5;", 5, 1);
        fine(digits, "of 0 and 9", "rate 90;", 6, 90);
        String semicolon = "Terms 1, 'the sign ; alone'";
        faulty(semicolon, "with no LINE ahead of it", ";", 0, 1);
        faulty(semicolon, "a second one behind a LINE", "rate 5;;", 7, 1);
        faulty(semicolon, "another sign of that sort", "rate 5,", 6, 1);
    }

    // ---- Terms 1: LINES

    private static void lines() {
        String any = "Terms 1, 'any number of LINES, none too'";
        fine(any, "none", "", 0, 0);
        fine(any, "one", "rate 7;", 6, 7);
        edge(any, "as many as can be: 17", () -> {
            PremiumHours desk = new PremiumHours();
            is(Desk.tell(desk, "rate 1;holiday 0;premium seventh 5;".concat("premium seventh 5;".repeat(7))
                + "longest 1;holiday 9;meal 2 3;holiday 27;round 4;holiday 8;clock 5 6 back;"), 8);
            int[] due = {8, 4, 4, 2, 3, 1, 1, 5, 6, 0};
            for (int what = 0; what < due.length; what++) {
                is(desk.count(what), due[what]);
            }
        });
        String behind = "Terms 1, 'each with ; behind it'";
        faulty(behind, "it is lacking at the end", "rate 5", 6, 1);
        faulty(behind, "it is lacking ahead of another LINE", "rate 5 round 5;", 7, 1);
        faulty(behind, "it is lacking ahead of counts", "premium seventh 5;counts", 18, 1);
        String sort = "Terms 1, 'SORT the word forward or back'";
        fine(sort, "forward", "clock 1 2 forward;", 9, 1);
        fine(sort, "back", "clock 1 2 back;", 9, 0);
        faulty(sort, "none", "clock 1 2;", 9, 1);
        faulty(sort, "both", "clock 1 2 forward back;", 18, 1);
        faulty(sort, "another word", "clock 1 2 backward;", 10, 1);
        faulty(sort, "a NUMBER", "clock 1 2 1;", 10, 1);
        String begin = "Terms 1, 'LINES'";
        faulty(begin, "a NUMBER begins none", "5 rate;", 0, 1);
        faulty(begin, "a KIND begins none", "day 5 5;", 0, 1);
        faulty(begin, "counts begins none", "counts;", 0, 1);
        String without = "Terms 1, what stands for a LINE that is not told";
        fine(without, "round: 7", "rate 1;", 2, 7);
        fine(without, "meal: none (0)", "rate 1;", 3, 0);
        fine(without, "meal: none (0)", "rate 1;", 4, 0);
        fine(without, "longest: 16", "rate 1;", 5, 16);
        fine(without, "rate: 100", "round 1;", 6, 100);
    }

    private static void once(String line) {
        String word = line.substring(0, line.indexOf(' '));
        String where = "Terms 1, '" + word + " .. once' and FAULT 3";
        faulty(where, "told twice, the same", line + line, line.length(), 3);
        faulty(where, "told twice, others between", line + "holiday 1;premium seventh 5; " + line,
            line.length() + 29, 3);
        faulty(where, "the first word alone, told again", line + word, line.length(), 3);
        edge(where, "told again by other RULES", () -> {
            PremiumHours desk = Desk.with(line);
            is(Desk.tell(desk, line), 0);
            is(Desk.tell(desk, "x"), -3);
            is(Desk.tell(desk, line), 0);
        });
    }

    private static void linesOnce() {
        once("clock 1 2 back;");
        once("clock 0 0 forward;");
        once("round 0;");
        once("meal 1 1;");
        once("longest 1;");
        once("rate 1;");
        String holiday = "Terms 1, 'holiday DAY (4 at most, none twice)'";
        fine(holiday, "4", "holiday 0;holiday 1;holiday 26;holiday 27;", 1, 4);
        faulty(holiday, "a fifth", "holiday 0;holiday 1;holiday 26;holiday 27;holiday 5;", 42, 3);
        faulty(holiday, "a fifth that is told already: the word stands ahead of the NUMBER",
            "holiday 0;holiday 1;holiday 26;holiday 27;holiday 0;", 42, 3);
        faulty(holiday, "a fifth, the word alone", "holiday 0;holiday 1;holiday 26;holiday 27;holiday", 42, 3);
        faulty(holiday, "twice, at once", "holiday 0;holiday 0;", 18, 2);
        faulty(holiday, "twice, the fourth as the first", "holiday 9;holiday 1;holiday 2;holiday 9;", 38, 2);
        faulty(holiday, "twice, in other digits", "holiday 9;holiday 0009;", 18, 2);
        edge(holiday, "told by RULES, and again by other ones", () -> {
            PremiumHours desk = Desk.with("holiday 0;holiday 1;holiday 2;holiday 3;");
            is(Desk.tell(desk, "holiday 3;holiday 2;holiday 1;holiday 0;"), 0);
            is(desk.count(1), 4);
        });
    }

    // ---- Terms 1: NUMBERS of LINES

    private static String with(String form, Object number) {
        return form.replace("#", "" + number);
    }

    /** A form with # for a NUMBER, the bounds of it, and where it is answered. */
    private static void number(String form, int least, int most, ToIntFunction<PremiumHours> told) {
        String where = "Terms 1, 'N (" + least + " to " + most + ")' and FAULT 2, # of " + form;
        int place = form.indexOf('#');
        for (int value : new int[] {least, most}) {
            edge(where, value + " can be", () -> is(told.applyAsInt(Desk.with(with(form, value))), value));
        }
        edge(where, most + " can be, in four digits", () ->
            is(told.applyAsInt(Desk.with(with(form, String.format("%04d", most)))), most));
        faulty(where, most + " can't be, in five digits", with(form, String.format("%05d", most)), place, 2);
        if (least > 0) {
            faulty(where, least - 1 + " can't be", with(form, least - 1), place, 2);
        }
        faulty(where, most + 1 + " can't be", with(form, most + 1), place, 2);
        faulty(where, "9999 can't be", with(form, 9999), place, 2);
        faulty(where, "2 ^ 32 and " + most + " can't be", with(form, (1L << 32) + most), place, 2);
        faulty(where, "a word stands there", with(form, "x"), place, 1);
        faulty(where, "; stands there", with(form, ";"), place, 1);
        faulty(where, "the end is there", form.substring(0, place), place, 1);
    }

    private static int dayThatIsHoliday(PremiumHours desk) {
        for (int day = 0; day < 28; day++) {
            desk.punch(0, 2, day, 600, false);
            desk.punch(0, 2, day, 660, false);
            if (desk.day(0, day, 0) == 4) {
                return day;
            }
        }
        return NONE;
    }

    private static void linesNumbers() {
        number("clock # 23 back;", 0, 27, desk -> desk.count(7));
        number("clock 27 # forward;", 0, 23, desk -> desk.count(8));
        number("premium holiday 50;holiday #;", 0, 27, RulesEdgesTest::dayThatIsHoliday);
        number("round #;", 0, 14, desk -> desk.count(2));
        number("meal # 16;", 1, 96, desk -> desk.count(3));
        number("meal 96 #;", 1, 16, desk -> desk.count(4));
        number("longest #;", 1, 24, desk -> desk.count(5));
        number("rate #;", 1, 400, desk -> desk.count(6));
        number("premium day # 300;", 0, 96, desk -> desk.premium(0, 3));
        number("premium day 96 #;", 1, 300, desk -> desk.premium(0, 1));
        number("premium week # 300;", 0, 672, desk -> desk.premium(0, 3));
        number("premium week 672 # counts;", 1, 300, desk -> desk.premium(0, 1));
        number("premium seventh #;", 1, 300, desk -> desk.premium(0, 1));
        number("premium night # 22 1;", 0, 23, desk -> desk.premium(0, 3));
        number("premium night 1 # 1;", 0, 23, desk -> desk.premium(0, 4));
        number("premium night 0 23 #;", 1, 300, desk -> desk.premium(0, 1));
        number("premium holiday # counts;", 1, 300, desk -> desk.premium(0, 1));
    }

    private static void premiumLines() {
        String many = "Terms 1, 'premium KIND N [ counts ] (8 at most)'";
        String line = "premium week 0 1;";
        fine(many, "8", line.repeat(8), 0, 8);
        faulty(many, "a ninth", line.repeat(9), 8 * 17, 3);
        faulty(many, "a ninth, the word alone", line.repeat(8) + "premium", 8 * 17, 3);
        faulty(many, "a ninth of another KIND, others between", line.repeat(8) + "rate 5;premium holiday 5;", 8 * 17 + 7, 3);
        fine(many, "the same one 8 times", "premium holiday 5 counts;".repeat(8), 0, 8);
        String counts = "Terms 1, '[ counts ]'";
        edge(counts, "told and not told", () -> {
            PremiumHours desk = Desk.with("premium holiday 5;premium holiday 5 counts;premium holiday 5;");
            is(desk.premium(0, 2), 0);
            is(desk.premium(1, 2), 1);
            is(desk.premium(2, 2), 0);
        });
        faulty(counts, "told twice", "premium seventh 5 counts counts;", 25, 1);
        faulty(counts, "ahead of N", "premium seventh counts 5;", 16, 1);
        faulty(counts, "another word", "premium seventh 5 count;", 18, 1);
        String kinds = "Terms 1, '(KIND's numbers stand behind its word, ahead of N.)'";
        edge(kinds, "the numbers of each, and N", () -> {
            PremiumHours desk = Desk.with("premium day 11 12;premium week 13 14;premium seventh 15;premium night 16 17 18;"
                + "premium holiday 19;");
            int[] hundredths = {12, 14, 15, 18, 19};
            int[] first = {11, 13, NONE, 16, NONE};
            int[] second = {NONE, NONE, NONE, 17, NONE};
            for (int premium = 0; premium < 5; premium++) {
                is(desk.premium(premium, 0), premium);
                is(desk.premium(premium, 1), hundredths[premium]);
                is(desk.premium(premium, 3), first[premium]);
                is(desk.premium(premium, 4), second[premium]);
            }
        });
        faulty(kinds, "no KIND", "premium 5;", 8, 1);
        faulty(kinds, "a word that is no KIND", "premium round 5;", 8, 1);
        faulty(kinds, "the KIND behind N", "premium 5 seventh;", 8, 1);
        faulty(kinds, "day: one too few", "premium day 5;", 13, 1);
        faulty(kinds, "day: one too many", "premium day 5 6 7;", 16, 1);
        faulty(kinds, "week: one too few", "premium week 5;", 14, 1);
        faulty(kinds, "week: one too many", "premium week 5 6 7;", 17, 1);
        faulty(kinds, "seventh: one too few", "premium seventh;", 15, 1);
        faulty(kinds, "seventh: one too many", "premium seventh 5 6;", 18, 1);
        faulty(kinds, "night: one too few", "premium night 5 6;", 17, 1);
        faulty(kinds, "night: one too many", "premium night 5 6 7 8;", 20, 1);
        faulty(kinds, "holiday: one too few", "premium holiday;", 15, 1);
        faulty(kinds, "holiday: one too many", "premium holiday 5 6;", 18, 1);
        String unlike = "Terms 1, 'night N N (hours 0 to 23, unlike)'";
        faulty(unlike, "alike", "premium night 7 7 5;", 16, 2);
        faulty(unlike, "alike, 0", "premium night 0 0 5;", 16, 2);
        faulty(unlike, "alike, 23", "premium night 23 23 5;", 17, 2);
        faulty(unlike, "alike, in other digits", "premium night 7 0007 5;", 16, 2);
        fine(unlike, "the least and the greatest", "premium night 0 23 5;", 0, 1);
        fine(unlike, "the greatest and the least", "premium night 23 0 5;", 0, 1);
        edge(unlike, "two nights may be alike", () ->
            is(Desk.tell(new PremiumHours(), "premium night 7 8 5;premium night 7 8 5;"), 2));
        edge("Terms 1, 'PREMIUMS are numbered from 0 on as told'", "all 8, other LINES between", () -> {
            StringBuilder text = new StringBuilder("holiday 7;");
            for (int premium = 0; premium < 8; premium++) {
                text.append("premium day ").append(90 - premium).append(" 7;").append(premium == 3 ? "rate 8;" : "");
            }
            PremiumHours desk = Desk.with(text.toString());
            for (int premium = 0; premium < 8; premium++) {
                is(desk.premium(premium, 3), 90 - premium);
            }
        });
    }

    // ---- Terms 1: FAULTS

    private static void faults() {
        String strange = "Terms 1, FAULT 1 'the first byte that begins no TOKEN'";
        faulty(strange, "the first byte of all", "#rate 5;", 0, 1);
        faulty(strange, "the last byte of all", "rate 5;#", 7, 1);
        faulty(strange, "of two the first", "rate 5;  #@", 9, 1);
        faulty(strange, "in a word", "ra#te 5;", 0, 1);
        faulty(strange, "behind a word that is right", "rate# 5;", 4, 1);
        faulty(strange, "where ; is due", "rate 5 #;", 7, 1);
        faulty(strange, "where counts may be", "premium seventh 5#;", 17, 1);
        String token = "Terms 1, FAULT 1 'the TOKEN with which no RULES go on'";
        faulty(token, "a word, at its first letter", "rate 5; rates 6;", 8, 1);
        faulty(token, "a NUMBER, at its first digit", "rate 5 66;", 7, 1);
        faulty(token, "the sign ;", "rate ;", 5, 1);
        String end = "Terms 1, FAULT 1 '(the end: how many bytes there are)'";
        faulty(end, "at once behind a NUMBER", "rate 5", 6, 1);
        faulty(end, "blanks at last are bytes, too", "rate 5 \n ", 9, 1);
        faulty(end, "behind the first word", "premium", 7, 1);
        faulty(end, "behind a KIND", "premium night", 13, 1);
        faulty(end, "behind counts", "premium seventh 5 counts", 24, 1);
        faulty(end, "behind SORT", "clock 1 2 back", 14, 1);
        edge(end, "n bytes there are, not all of THE TAPE", () -> {
            PremiumHours desk = new PremiumHours();
            Desk.feed(desk, "rate 5;             ");
            is(desk.rules(5), -2 - (8 * 5 + 1));
        });
        String number = "Terms 1, FAULT 2 'a NUMBER that can't be, at its first digit (also one of more than 4 digits)'";
        faulty(number, "of 5 digits, that is 1", "rate 00001;", 5, 2);
        faulty(number, "of 5 digits", "rate 12345;", 5, 2);
        faulty(number, "of 40 digits", "rate " + "0".repeat(39) + "1;", 5, 2);
        faulty(number, "as large as an int wraps round to 1", "rate 4294967297;", 5, 2);
        faulty(number, "0000", "rate 0000;", 5, 2);
        fine(number, "of 4 digits", "rate 0001;", 6, 1);
        faulty(number, "the second one", "meal 0096 00016;", 10, 2);
    }

    private static void faultPlaces() {
        String least = "Terms 1, FAULTS, 'the one whose place is least'";
        faulty(least, "a NUMBER, then a strange byte", "rate 0;#", 5, 2);
        faulty(least, "a NUMBER, then a TOKEN of the same LINE", "premium day 97 x;", 12, 2);
        faulty(least, "a NUMBER, then the end", "rate 401", 5, 2);
        faulty(least, "a NUMBER, then another one", "meal 0 0;", 5, 2);
        faulty(least, "a NUMBER, then one too many", "rate 0;rate 1;", 5, 2);
        faulty(least, "a TOKEN, then a NUMBER", "premium x 301;", 8, 1);
        faulty(least, "a TOKEN, then a strange byte", "rate 5 5 #;", 7, 1);
        faulty(least, "a strange byte, then a NUMBER", "rate #0;", 5, 1);
        faulty(least, "one too many, then its NUMBER", "rate 1;rate 0;", 7, 3);
        faulty(least, "one too many, then a TOKEN", "rate 1;rate x;", 7, 3);
        faulty(least, "one too many, then a strange byte", "rate 1;rate#", 7, 3);
        faulty(least, "one too many, then the end", "rate 1;rate ", 7, 3);
        faulty(least, "one too many, then another one", "rate 1;round 1;rate 1;round 1;", 15, 3);
        faulty(least, "a holiday twice, then a fifth one",
            "holiday 1;holiday 2;holiday 1;holiday 3;holiday 4;holiday 5;", 28, 2);
        faulty(least, "night's first hour, then the second one as it", "premium night 24 24 5;", 14, 2);
        faulty(least, "night's second hour, then N", "premium night 5 5 0;", 16, 2);
        String first = "Terms 1, FAULTS, 'of one place the one that stands first here'";
        faulty(first, "1 ahead of 2: a NUMBER of 5 digits with which no RULES go on", "rate 5 12345;", 7, 1);
        faulty(first, "1 ahead of 2: a NUMBER of 5 digits where a LINE begins", "12345;", 0, 1);
        faulty(first, "1 ahead of 2: a NUMBER of 5 digits where SORT stands", "clock 1 1 12345;", 10, 1);
        faulty(first, "1 ahead of 3: a word told already with which no RULES go on", "round 1 round 2;", 8, 1);
        faulty(first, "1 ahead of 3: a ninth premium's word with which no RULES go on",
            "premium week 0 1;".repeat(8) + "rate 5 premium week 0 1;", 8 * 17 + 7, 1);
        faulty(first, "1 ahead of 3: a fifth holiday's word where counts may be",
            "holiday 1;holiday 2;holiday 3;holiday 4;premium holiday 5 holiday 5;", 58, 1);
    }

    // ---- promises 4 and 5

    private static void count() {
        String where = "Promise 4, 'NONE for another what'";
        for (int what : new int[] {-1, 12, MIN, MAX}) {
            edge(where, "" + what, () -> is(Desk.with("clock 5 6 back;").count(what), NONE));
        }
        edge("Promise 4, '7: clock's DAY, 8: its HOUR, 9: 1 forward, 0 back (NONE without)'", "without", () -> {
            PremiumHours desk = Desk.with("rate 5;");
            is(desk.count(7), NONE);
            is(desk.count(8), NONE);
            is(desk.count(9), NONE);
        });
        edge("Promise 4, '7: clock's DAY, 8: its HOUR, 9: 1 forward, 0 back'", "the least: DAY 0, HOUR 0, back", () -> {
            PremiumHours desk = Desk.with("clock 0 0 back;");
            is(desk.count(7), 0);
            is(desk.count(8), 0);
            is(desk.count(9), 0);
        });
        edge("Promise 4, '7: clock's DAY, 8: its HOUR, 9: 1 forward, 0 back'", "the greatest", () -> {
            PremiumHours desk = Desk.with("clock 27 23 forward;");
            is(desk.count(7), 27);
            is(desk.count(8), 23);
            is(desk.count(9), 1);
        });
        edge("Promise 4, '3, 4: meal's numbers (0 without)'", "told, and told no more", () -> {
            PremiumHours desk = Desk.with("meal 96 16;");
            is(desk.count(3), 96);
            is(desk.count(4), 16);
            Desk.tell(desk, "rate 5;");
            is(desk.count(3), 0);
            is(desk.count(4), 0);
        });
        edge("Promise 4, '0: PREMIUMS, 1: holidays'", "none and as many as can be", () -> {
            PremiumHours desk = Desk.with("");
            is(desk.count(0), 0);
            is(desk.count(1), 0);
            Desk.tell(desk, "premium holiday 5;".repeat(8) + "holiday 1;holiday 2;holiday 3;holiday 4;");
            is(desk.count(0), 8);
            is(desk.count(1), 4);
        });
        edge("Promise 4, '10: bytes on THE TAPE'", "empty, full, empty again", () -> {
            PremiumHours desk = new PremiumHours();
            is(desk.count(10), 0);
            Desk.feed(desk, " ".repeat(400));
            is(desk.count(10), 400);
            desk.rules(1);
            is(desk.count(10), 0);
        });
        edge("Promise 4, '11: what can be taken back'", "none, 15, 16, never more", () -> {
            PremiumHours desk = new PremiumHours();
            for (int times = 0; times < 20; times++) {
                is(desk.count(11), Math.min(times, 16));
                desk.punch(0, 0, 0, times, false);
            }
        });
    }

    private static void premium() {
        String none = "Promise 5, 'NoSuchElementException: others, none such'";
        String two = "premium day 32 50;premium night 22 6 60 counts;";
        for (int premium : new int[] {-1, 2, 8, MIN, MAX}) {
            edge(none, "PREMIUM " + premium + " of two", () -> noSuchElement(() -> Desk.with(two).premium(premium, 0)));
        }
        for (int what : new int[] {-1, 5, MIN, MAX}) {
            edge(none, "what " + what, () -> noSuchElement(() -> Desk.with(two).premium(1, what)));
        }
        edge(none, "PREMIUM 0 of none", () -> noSuchElement(() -> Desk.with("rate 5;").premium(0, 0)));
        edge(none, "one that later RULES don't tell", () -> {
            PremiumHours desk = Desk.with(two);
            Desk.tell(desk, "premium seventh 5;");
            is(desk.premium(0, 1), 5);
            noSuchElement(() -> desk.premium(1, 1));
        });
        edge("Promise 5, 'Of a PREMIUM'", "the last of 8", () -> {
            PremiumHours desk = Desk.with("premium holiday 5;".repeat(7) + "premium week 672 300 counts;");
            int[] due = {1, 300, 1, 672, NONE};
            for (int what = 0; what < 5; what++) {
                is(desk.premium(7, what), due[what]);
            }
            noSuchElement(() -> desk.premium(8, 0));
        });
        edge("Promise 5, '3, 4: KIND's numbers (NONE without)'", "0 is a number", () -> {
            PremiumHours desk = Desk.with("premium day 0 5;premium week 0 5;premium night 0 1 5;premium night 1 0 5;");
            is(desk.premium(0, 3), 0);
            is(desk.premium(0, 4), NONE);
            is(desk.premium(1, 3), 0);
            is(desk.premium(1, 4), NONE);
            is(desk.premium(2, 3), 0);
            is(desk.premium(2, 4), 1);
            is(desk.premium(3, 3), 1);
            is(desk.premium(3, 4), 0);
        });
        edge("Promise 5, '3, 4: KIND's numbers (NONE without)'", "without, where an earlier PREMIUM had them", () -> {
            PremiumHours desk = Desk.with("premium night 3 4 5;");
            Desk.tell(desk, "premium night 3 4 5;");
            Desk.tell(desk, "premium seventh 5;premium holiday 5;");
            for (int premium = 0; premium < 2; premium++) {
                is(desk.premium(premium, 3), NONE);
                is(desk.premium(premium, 4), NONE);
            }
        });
    }
}
